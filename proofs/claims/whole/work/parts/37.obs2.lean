/-! steps: points, halves, orders of two texts -/
noncomputable def cif (p : Prop) (a b : Int) : Int := @ite Int p (Classical.propDecidable p) a b
theorem cif_t {p : Prop} {a b : Int} (h : p) : cif p a b = a := by unfold cif; exact if_pos h
theorem cif_f {p : Prop} {a b : Int} (h : ¬ p) : cif p a b = b := by unfold cif; exact if_neg h
/-- the place behind the point at i -/
noncomputable def nx (n : Int) (f : Int → Int) (i : Int) : Int := i + 1 + b01 (isP n f i)
theorem nx_t {n i : Int} {f : Int → Int} (h : isP n f i) : nx n f i = i + 2 := by unfold nx; rw [b01_t h]; omega
theorem nx_f {n i : Int} {f : Int → Int} (h : ¬ isP n f i) : nx n f i = i + 1 := by unfold nx; rw [b01_f h]; omega
noncomputable def ptsF (n : Int) (f : Int → Int) : Nat → Int → Int → Int
  | 0, p, _ => p
  | k + 1, p, i => cif (i < n) (ptsF n f k (p + 1) (nx n f i)) p
noncomputable def ptaF (n : Int) (f : Int → Int) (q : Int) : Nat → Int → Int → Int
  | 0, _, _ => -1
  | k + 1, p, i => cif (i < n) (cif (p = q) (ptAt n f i) (ptaF n f q k (p + 1) (nx n f i))) (-1)
noncomputable def hlfF (n : Int) (f : Int → Int) (q : Int) : Nat → Int → Int → Int
  | 0, _, _ => -1
  | k + 1, p, i => cif (i < n) (cif (isP n f i) (hlfF n f q k p (i + 2)) (cif (55296 ≤ f i ∧ f i ≤ 57343) (cif (p = q) i (hlfF n f q k (p + 1) (i + 1))) (hlfF n f q k p (i + 1)))) (-1)
/-- a value that a loop still has to reach: some fuel is enough -/
def Fl (F : Nat → Int) (m : Int) (r : Int) : Prop := ∃ k : Nat, m < k ∧ F k = r
theorem Fl.stop {F : Nat → Int} {m r v : Int} (h : Fl F m r) (hz : ∀ k, F k = v) : r = v := by
  obtain ⟨k, -, e⟩ := h
  rw [← e]; exact hz k
theorem Fl.step {F F' : Nat → Int} {m m' r : Int} (h : Fl F m r) (h0 : 0 ≤ m) (hs : ∀ k, F (k + 1) = F' k) (hm : m' + 1 ≤ m) : Fl F' m' r := by
  obtain ⟨k, h1, e⟩ := h
  obtain ⟨j, rfl⟩ : ∃ j, k = j + 1 := ⟨k - 1, by omega⟩
  exact ⟨j, by omega, by rw [← hs]; exact e⟩
theorem Fl.done {F : Nat → Int} {m r v : Int} (h : Fl F m r) (h0 : 0 ≤ m) (hz : ∀ k, F (k + 1) = v) : r = v := by
  obtain ⟨k, h1, e⟩ := h
  obtain ⟨j, rfl⟩ : ∃ j, k = j + 1 := ⟨k - 1, by omega⟩
  rw [← e]; exact hz j
theorem Fl.go {F : Nat → Int} {m : Int} (k : Nat) (h : m < k) : Fl F m (F k) := ⟨k, h, rfl⟩
section OBS2
variable {G : JG} {X : Int}
theorem isP_c {n i : Int} {f g : Int → Int} (h : ∀ i, 0 ≤ i → i < n → f i = g i) : isP n f i ↔ isP n g i := by
  unfold isP
  constructor
  · rintro ⟨a, b, c⟩
    rw [h _ a (by omega), h _ (by omega) b] at c
    exact ⟨a, b, c⟩
  · rintro ⟨a, b, c⟩
    rw [← h _ a (by omega), ← h _ (by omega) b] at c
    exact ⟨a, b, c⟩
theorem ptAt_c {n i : Int} {f g : Int → Int} (h : ∀ i, 0 ≤ i → i < n → f i = g i) (h0 : 0 ≤ i) (h1 : i < n) : ptAt n f i = ptAt n g i := by
  rcases Classical.em (isP n f i) with e | e
  · have e' := (isP_c h).mp e
    rw [ptAt_pair e, ptAt_pair e', h _ e.1 (by have := e.2.1; omega), h _ (by have := e.1; omega) e.2.1]
  · have e' := fun q => e ((isP_c h).mpr q)
    rw [ptAt_one e, ptAt_one e', h _ h0 h1]
section CT2
variable {Q : Int → JM → Prop} {M : JM} {n t : Int} {T : ATx} {K : AKp} {P : ATx} {D : ADt}
theorem c_isPr {i : Int} (C : CB X n M T K P D) (A : AI T K P D) (ht : 0 ≤ t ∧ t < T.1) (hi : i ≤ 1000000) (h1 : isP (T.2.1 t) (T.2.2 t) i → Q 1 M) (h0 : ¬ isP (T.2.1 t) (T.2.2 t) i → Q 0 M) : Runs G 94 0 0 [(1, X + (4 + 2 * t)), (0, i)] M Q := by
  obtain ⟨TT, e1, e2, e3, e4, e5, e6, e7, e8⟩ := c_txt C A ht
  have hc : isP (M 2901 (X + (4 + 2 * t)) 0) (M 2 (M 1000 (X + (4 + 2 * t)) 0)) i ↔ isP (T.2.1 t) (T.2.2 t) i := by
    rw [e1, e2]; exact isP_c e3
  exact c_isPair TT hi (fun g => h1 (hc.mp g)) (fun g => h0 (fun q => g (hc.mpr q)))
theorem c_ptF {i : Int} (C : CB X n M T K P D) (A : AI T K P D) (ht : 0 ≤ t ∧ t < T.1) (h0 : 0 ≤ i) (h1 : i < T.2.1 t) (h : Q (ptAt (T.2.1 t) (T.2.2 t) i) M) : Runs G 95 0 0 [(1, X + (4 + 2 * t)), (0, i)] M Q := by
  obtain ⟨TT, e1, e2, e3, e4, e5, e6, e7, e8⟩ := c_txt C A ht
  refine c_pointFrom TT h0 (by omega) ?_
  rw [e1, e2, ptAt_c e3 h0 h1]
  exact h
theorem c_isHf {i : Int} (C : CB X n M T K P D) (A : AI T K P D) (ht : 0 ≤ t ∧ t < T.1) (h0 : 0 ≤ i) (h1 : i < T.2.1 t) (g1 : 55296 ≤ T.2.2 t i ∧ T.2.2 t i ≤ 57343 → Q 1 M) (g0 : ¬ (55296 ≤ T.2.2 t i ∧ T.2.2 t i ≤ 57343) → Q 0 M) : Runs G 96 0 0 [(1, X + (4 + 2 * t)), (0, i)] M Q := by
  obtain ⟨TT, e1, e2, e3, e4, e5, e6, e7, e8⟩ := c_txt C A ht
  have e := e3 i h0 h1
  rw [← e2] at e
  exact c_isHalf TT h0 (by omega) (fun q1 q2 => g1 (by omega)) (fun q => g0 (by omega))
end CT2
theorem ptsF_z {n p i : Int} {f : Int → Int} (h : n ≤ i) : ∀ k, ptsF n f k p i = p
  | 0 => rfl
  | _ + 1 => cif_f (by omega)
theorem ptaF_z {n q p i : Int} {f : Int → Int} (h : n ≤ i) : ∀ k, ptaF n f q k p i = -1
  | 0 => rfl
  | _ + 1 => cif_f (by omega)
theorem hlfF_z {n q p i : Int} {f : Int → Int} (h : n ≤ i) : ∀ k, hlfF n f q k p i = -1
  | 0 => rfl
  | _ + 1 => cif_f (by omega)
theorem st_points (t : Int) : JSt (IV X) 3072 G X 119 191 [(0, t)] := mk_obs fun n M T K P D C H A hX => by
  by_cases ht : 0 ≤ t ∧ t < T.1
  · refine ⟨ptsF (T.2.1 t) (T.2.2 t) 241 0 0, fun Q hQ => ?_, fun M1 Q R hQ => ?_⟩
    · have W := C.1
      obtain ⟨TT, e1, e2, e3, e4, e5, e6, e7, e8⟩ := c_txt C A ht
      refine lp_X11_points (fun v2 v3 v4 N => M = N ∧ X + (4 + 2 * t) = v2 ∧ 0 ≤ v3 ∧ v3 ≤ v4 ∧ 0 ≤ v4 ∧ v4 ≤ 300 ∧ Fl (fun k => ptsF (T.2.1 t) (T.2.2 t) k v3 v4) (T.2.1 t - v4) (ptsF (T.2.1 t) (T.2.2 t) 241 0 0)) (fun _ _ v4 => (1000 - v4).toNat) ?_ _ _ M ?_
      · rintro v2 v3 v4 N ⟨rfl, rfl, i1, i2, i3, i4, i5⟩
        rw [e1]
        refine ⟨e4, fun g => ?_, fun g => ⟨by unfold jR; omega, e4, ?_⟩⟩
        · rw [i5.stop (ptsF_z g)] at hQ; exact hQ
        · have i6 := i5.step (F' := fun k => ptsF (T.2.1 t) (T.2.2 t) k (v3 + 1) (nx (T.2.1 t) (T.2.2 t) v4)) (m' := T.2.1 t - v4 - 1) (by omega) (fun k => cif_t (by omega)) (by omega)
          refine c_isPr C A ht (by omega) (fun g2 _ => ?_) (fun g2 _ => ?_)
          · rw [nx_t g2] at i6
            exact ⟨fun g0 => absurd g0 (by decide), fun _ => ⟨by unfold jR; omega, by unfold jR; omega, ⟨rfl, rfl, by omega, by omega, by omega, by omega, by rw [show v4 + 1 + 1 = v4 + 2 by omega]; obtain ⟨k, k1, k2⟩ := i6; exact ⟨k, by omega, k2⟩⟩, by omega⟩⟩
          · rw [nx_f g2] at i6
            exact ⟨fun _ => ⟨by unfold jR; omega, ⟨rfl, rfl, by omega, by omega, by omega, by omega, by obtain ⟨k, k1, k2⟩ := i6; exact ⟨k, by omega, k2⟩⟩, by omega⟩, fun g0 => absurd rfl g0⟩
      · rw [wa_1200 W]
        exact ⟨wa_t W, w_shelf_t W, c_lkT C A hX ht (fun _ => ⟨fun g => absurd g (by omega), fun _ => ⟨rfl, rfl, by omega, by omega, by omega, by omega, Fl.go 241 (by omega)⟩⟩)⟩
    · have W := R.1
      have wt := w_model_t W
      obtain ⟨e1, e2, e3, e4, e5⟩ := r_txt R A ht
      refine lp_X12_points (fun v0 v1 v2 v3 N => M1 = N ∧ X + 218 = v0 ∧ t = v1 ∧ 0 ≤ v2 ∧ v2 ≤ v3 ∧ 0 ≤ v3 ∧ v3 ≤ 300 ∧ Fl (fun k => ptsF (T.2.1 t) (T.2.2 t) k v2 v3) (T.2.1 t - v3) (ptsF (T.2.1 t) (T.2.2 t) 241 0 0)) (fun _ _ _ v3 => (1000 - v3).toNat) ?_ _ _ M1 ?_
      · rintro v0 v1 v2 v3 N ⟨rfl, rfl, rfl, i1, i2, i3, i4, i5⟩
        rw [w_model_1301 W, w_m1301_t W, w_m1301_n W, e1]
        refine ⟨wt, ⟨rfl, ht.1, e3⟩, fun g => ?_, fun g => ⟨by unfold jR; omega, wt, ?_⟩⟩
        · rw [i5.stop (ptsF_z g)] at hQ; exact hQ
        · have i6 := i5.step (F' := fun k => ptsF (T.2.1 t) (T.2.2 t) k (v2 + 1) (nx (T.2.1 t) (T.2.2 t) v3)) (m' := T.2.1 t - v3 - 1) (by omega) (fun k => cif_t (by omega)) (by omega)
          refine r_isPr R A ht (by omega) (by omega) (fun g2 _ => ?_) (fun g2 _ => ?_)
          · rw [nx_t g2] at i6
            exact ⟨fun g0 => absurd g0 (by decide), fun _ => ⟨by unfold jR; omega, ⟨rfl, rfl, rfl, by omega, by omega, by omega, by omega, by obtain ⟨k, k1, k2⟩ := i6; exact ⟨k, by omega, k2⟩⟩, by omega⟩⟩
          · rw [nx_f g2] at i6
            exact ⟨fun _ => ⟨by unfold jR; omega, ⟨rfl, rfl, rfl, by omega, by omega, by omega, by omega, by obtain ⟨k, k1, k2⟩ := i6; exact ⟨k, by omega, k2⟩⟩, by omega⟩, fun g0 => absurd rfl g0⟩
      · exact ⟨wt, r_isT R A ht (fun _ => ⟨fun _ => ⟨rfl, rfl, rfl, by omega, by omega, by omega, by omega, Fl.go 241 (by omega)⟩, fun g => absurd (by decide) g⟩)⟩
  · refine ⟨-2, fun Q hQ => ?_, fun M1 Q R hQ => ?_⟩
    · have W := C.1
      refine lp_X11_points (fun _ _ _ _ => False) (fun _ _ _ => 0) (fun _ _ _ _ g => g.elim) _ _ M ?_
      repeat' first | rw [wa_1200 W] | (refine c_lkF C A hX ht ?_) | apply And.intro | intro _ | exact wt | exact wa_t W | exact w_shelf_t W | assumption | exact Or.inl rfl | exact Or.inr rfl | rfl | omega | (unfold jR; omega)
    · have W := R.1
      have wt := w_model_t W
      refine lp_X12_points (fun _ _ _ _ _ => False) (fun _ _ _ _ => 0) (fun _ _ _ _ _ g => g.elim) _ _ M1 ?_
      repeat' first | rw [wa_1200 W] | (refine r_isF R A ht ?_) | apply And.intro | intro _ | exact wt | exact wa_t W | exact w_shelf_t W | assumption | exact Or.inl rfl | exact Or.inr rfl | rfl | omega | (unfold jR; omega)
theorem st_pointAt (t q : Int) : JSt (IV X) 3072 G X 120 192 [(0, t), (0, q)] := mk_obs fun n M T K P D C H A hX => by
  by_cases ht : 0 ≤ t ∧ t < T.1
  · refine ⟨ptaF (T.2.1 t) (T.2.2 t) q 241 0 0, fun Q hQ => ?_, fun M1 Q R hQ => ?_⟩
    · have W := C.1
      obtain ⟨TT, e1, e2, e3, e4, e5, e6, e7, e8⟩ := c_txt C A ht
      refine lp_X11_pointAt (fun v2 v3 v4 v5 N => M = N ∧ q = v2 ∧ X + (4 + 2 * t) = v3 ∧ 0 ≤ v4 ∧ v4 ≤ v5 ∧ 0 ≤ v5 ∧ v5 ≤ 300 ∧ Fl (fun k => ptaF (T.2.1 t) (T.2.2 t) q k v4 v5) (T.2.1 t - v5) (ptaF (T.2.1 t) (T.2.2 t) q 241 0 0)) (fun _ _ _ v5 => (1000 - v5).toNat) ?_ _ _ _ M ?_
      · rintro v2 v3 v4 v5 N ⟨rfl, rfl, rfl, i1, i2, i3, i4, i5⟩
        rw [e1]
        refine ⟨e4, fun g => ?_, fun g => ⟨fun g1 => ⟨by unfold jR; omega, e4, ?_⟩, fun g1 => ⟨e4, c_ptF C A ht i3 (by omega) (fun _ => ?_)⟩⟩⟩
        · rw [i5.stop (ptaF_z g)] at hQ; exact hQ
        · have i6 := i5.step (F' := fun k => ptaF (T.2.1 t) (T.2.2 t) q k (v4 + 1) (nx (T.2.1 t) (T.2.2 t) v5)) (m' := T.2.1 t - v5 - 1) (by omega) (fun k => (cif_t (by omega)).trans (cif_f g1)) (by omega)
          refine c_isPr C A ht (by omega) (fun g2 _ => ?_) (fun g2 _ => ?_)
          · rw [nx_t g2] at i6
            exact ⟨fun g0 => absurd g0 (by decide), fun _ => ⟨by unfold jR; omega, by unfold jR; omega, ⟨rfl, rfl, rfl, by omega, by omega, by omega, by omega, by rw [show v5 + 1 + 1 = v5 + 2 by omega]; obtain ⟨k, k1, k2⟩ := i6; exact ⟨k, by omega, k2⟩⟩, by omega⟩⟩
          · rw [nx_f g2] at i6
            exact ⟨fun _ => ⟨by unfold jR; omega, ⟨rfl, rfl, rfl, by omega, by omega, by omega, by omega, by obtain ⟨k, k1, k2⟩ := i6; exact ⟨k, by omega, k2⟩⟩, by omega⟩, fun g0 => absurd rfl g0⟩
        · have e := i5.done (v := ptAt (T.2.1 t) (T.2.2 t) v5) (by omega) (fun k => (cif_t (by omega)).trans (cif_t (by omega)))
          rw [e] at hQ; exact hQ
      · rw [wa_1200 W]
        exact ⟨wa_t W, w_shelf_t W, c_lkT C A hX ht (fun _ => ⟨fun g => absurd g (by omega), fun _ => ⟨rfl, rfl, rfl, by omega, by omega, by omega, by omega, Fl.go 241 (by omega)⟩⟩)⟩
    · have W := R.1
      have wt := w_model_t W
      obtain ⟨e1, e2, e3, e4, e5⟩ := r_txt R A ht
      refine lp_X12_pointAt (fun v0 v1 v2 v3 v4 N => M1 = N ∧ X + 218 = v0 ∧ t = v1 ∧ q = v2 ∧ 0 ≤ v3 ∧ v3 ≤ v4 ∧ 0 ≤ v4 ∧ v4 ≤ 300 ∧ Fl (fun k => ptaF (T.2.1 t) (T.2.2 t) q k v3 v4) (T.2.1 t - v4) (ptaF (T.2.1 t) (T.2.2 t) q 241 0 0)) (fun _ _ _ _ v4 => (1000 - v4).toNat) ?_ _ _ _ M1 ?_
      · rintro v0 v1 v2 v3 v4 N ⟨rfl, rfl, rfl, rfl, i1, i2, i3, i4, i5⟩
        rw [w_model_1301 W, w_m1301_t W, w_m1301_n W, e1]
        refine ⟨wt, ⟨rfl, ht.1, e3⟩, fun g => ?_, fun g => ⟨fun g1 => ⟨by unfold jR; omega, wt, ?_⟩, fun g1 => ⟨wt, r_ptF R A ht i3 (by omega) (fun _ => ?_)⟩⟩⟩
        · rw [i5.stop (ptaF_z g)] at hQ; exact hQ
        · have i6 := i5.step (F' := fun k => ptaF (T.2.1 t) (T.2.2 t) q k (v3 + 1) (nx (T.2.1 t) (T.2.2 t) v4)) (m' := T.2.1 t - v4 - 1) (by omega) (fun k => (cif_t (by omega)).trans (cif_f g1)) (by omega)
          refine r_isPr R A ht (by omega) (by omega) (fun g2 _ => ?_) (fun g2 _ => ?_)
          · rw [nx_t g2] at i6
            exact ⟨fun g0 => absurd g0 (by decide), fun _ => ⟨by unfold jR; omega, ⟨rfl, rfl, rfl, rfl, by omega, by omega, by omega, by omega, by obtain ⟨k, k1, k2⟩ := i6; exact ⟨k, by omega, k2⟩⟩, by omega⟩⟩
          · rw [nx_f g2] at i6
            exact ⟨fun _ => ⟨by unfold jR; omega, ⟨rfl, rfl, rfl, rfl, by omega, by omega, by omega, by omega, by obtain ⟨k, k1, k2⟩ := i6; exact ⟨k, by omega, k2⟩⟩, by omega⟩, fun g0 => absurd rfl g0⟩
        · have e := i5.done (v := ptAt (T.2.1 t) (T.2.2 t) v4) (by omega) (fun k => (cif_t (by omega)).trans (cif_t (by omega)))
          rw [e] at hQ; exact hQ
      · exact ⟨wt, r_isT R A ht (fun _ => ⟨fun _ => ⟨rfl, rfl, rfl, rfl, by omega, by omega, by omega, by omega, Fl.go 241 (by omega)⟩, fun g => absurd (by decide) g⟩)⟩
  · refine ⟨-2, fun Q hQ => ?_, fun M1 Q R hQ => ?_⟩
    · have W := C.1
      refine lp_X11_pointAt (fun _ _ _ _ _ => False) (fun _ _ _ _ => 0) (fun _ _ _ _ _ g => g.elim) _ _ _ M ?_
      repeat' first | rw [wa_1200 W] | (refine c_lkF C A hX ht ?_) | apply And.intro | intro _ | exact wt | exact wa_t W | exact w_shelf_t W | assumption | exact Or.inl rfl | exact Or.inr rfl | rfl | omega | (unfold jR; omega)
    · have W := R.1
      have wt := w_model_t W
      refine lp_X12_pointAt (fun _ _ _ _ _ _ => False) (fun _ _ _ _ _ => 0) (fun _ _ _ _ _ _ g => g.elim) _ _ _ M1 ?_
      repeat' first | rw [wa_1200 W] | (refine r_isF R A ht ?_) | apply And.intro | intro _ | exact wt | exact wa_t W | exact w_shelf_t W | assumption | exact Or.inl rfl | exact Or.inr rfl | rfl | omega | (unfold jR; omega)
theorem st_half (t q : Int) : JSt (IV X) 3072 G X 121 193 [(0, t), (0, q)] := mk_obs fun n M T K P D C H A hX => by
  by_cases ht : 0 ≤ t ∧ t < T.1
  · refine ⟨hlfF (T.2.1 t) (T.2.2 t) q 241 0 0, fun Q hQ => ?_, fun M1 Q R hQ => ?_⟩
    · have W := C.1
      obtain ⟨TT, e1, e2, e3, e4, e5, e6, e7, e8⟩ := c_txt C A ht
      refine lp_X11_half (fun v2 v3 v4 v5 N => M = N ∧ q = v2 ∧ X + (4 + 2 * t) = v3 ∧ 0 ≤ v4 ∧ v4 ≤ v5 ∧ 0 ≤ v5 ∧ v5 ≤ 300 ∧ Fl (fun k => hlfF (T.2.1 t) (T.2.2 t) q k v4 v5) (T.2.1 t - v5) (hlfF (T.2.1 t) (T.2.2 t) q 241 0 0)) (fun _ _ _ v5 => (1000 - v5).toNat) ?_ _ _ _ M ?_
      · rintro v2 v3 v4 v5 N ⟨rfl, rfl, rfl, i1, i2, i3, i4, i5⟩
        rw [e1]
        refine ⟨e4, fun g => ?_, fun g => ⟨e4, c_isPr C A ht (by omega) (fun g2 _ => ⟨fun g0 => absurd g0 (by decide), fun _ => ⟨by unfold jR; omega, by unfold jR; omega, ⟨rfl, rfl, rfl, by omega, by omega, by omega, by omega, ?_⟩, by omega⟩⟩) (fun g2 _ => ⟨fun _ => ⟨e4, c_isHf C A ht i3 (by omega) (fun g3 _ => ⟨fun g0 => absurd g0 (by decide), fun _ => ⟨fun g4 => ⟨by unfold jR; omega, by unfold jR; omega, ⟨rfl, rfl, rfl, by omega, by omega, by omega, by omega, ?_⟩, by omega⟩, fun g4 => ?_⟩⟩) (fun g3 _ => ⟨fun _ => ⟨by unfold jR; omega, ⟨rfl, rfl, rfl, by omega, by omega, by omega, by omega, ?_⟩, by omega⟩, fun g0 => absurd rfl g0⟩)⟩, fun g0 => absurd rfl g0⟩)⟩⟩
        · rw [i5.stop (hlfF_z g)] at hQ; exact hQ
        · rw [show v5 + 1 + 1 = v5 + 2 by omega]
          exact i5.step (by omega) (fun k => (cif_t (by omega)).trans (cif_t g2)) (by omega)
        · exact i5.step (by omega) (fun k => ((cif_t (by omega)).trans (cif_f g2)).trans ((cif_t g3).trans (cif_f g4))) (by omega)
        · have e := i5.done (v := v5) (by omega) (fun k => ((cif_t (by omega)).trans (cif_f g2)).trans ((cif_t g3).trans (cif_t (by omega))))
          rw [e] at hQ; exact hQ
        · exact i5.step (by omega) (fun k => ((cif_t (by omega)).trans (cif_f g2)).trans (cif_f g3)) (by omega)
      · rw [wa_1200 W]
        exact ⟨wa_t W, w_shelf_t W, c_lkT C A hX ht (fun _ => ⟨fun g => absurd g (by omega), fun _ => ⟨rfl, rfl, rfl, by omega, by omega, by omega, by omega, Fl.go 241 (by omega)⟩⟩)⟩
    · have W := R.1
      have wt := w_model_t W
      obtain ⟨e1, e2, e3, e4, e5⟩ := r_txt R A ht
      refine lp_X12_half (fun v0 v1 v2 v3 v4 N => M1 = N ∧ X + 218 = v0 ∧ t = v1 ∧ q = v2 ∧ 0 ≤ v3 ∧ v3 ≤ v4 ∧ 0 ≤ v4 ∧ v4 ≤ 300 ∧ Fl (fun k => hlfF (T.2.1 t) (T.2.2 t) q k v3 v4) (T.2.1 t - v4) (hlfF (T.2.1 t) (T.2.2 t) q 241 0 0)) (fun _ _ _ _ v4 => (1000 - v4).toNat) ?_ _ _ _ M1 ?_
      · rintro v0 v1 v2 v3 v4 N ⟨rfl, rfl, rfl, rfl, i1, i2, i3, i4, i5⟩
        rw [w_model_1301 W, w_m1301_t W, w_m1301_n W, e1]
        refine ⟨wt, ⟨rfl, ht.1, e3⟩, fun g => ?_, fun g => ⟨wt, r_isPr R A ht i3 (by omega) (fun g2 _ => ⟨fun _ => ⟨wt, r_isPr R A ht i3 (by omega) (fun _ _ => ⟨fun g0 => absurd g0 (by decide), fun _ => ⟨by unfold jR; omega, ⟨rfl, rfl, rfl, rfl, by omega, by omega, by omega, by omega, ?_⟩, by omega⟩⟩) (fun g0 => absurd g2 g0)⟩, fun g0 => absurd (by decide) g0⟩) (fun g2 _ => ⟨fun g0 => absurd rfl g0, fun _ => ⟨wt, r_un R A ht i3 (by omega) (fun _ => r_in (fun h1 h2 _ => ⟨fun g0 => absurd g0 (by decide), fun _ => ⟨fun g4 => ⟨by unfold jR; omega, wt, r_isPr R A ht i3 (by omega) (fun g0 => absurd g0 g2) (fun _ _ => ⟨fun _ => ⟨by unfold jR; omega, ⟨rfl, rfl, rfl, rfl, by omega, by omega, by omega, by omega, ?_⟩, by omega⟩, fun g0 => absurd rfl g0⟩)⟩, fun g4 => ?_⟩⟩) (fun g3 _ => ⟨fun _ => ⟨wt, r_isPr R A ht i3 (by omega) (fun g0 => absurd g0 g2) (fun _ _ => ⟨fun _ => ⟨by unfold jR; omega, ⟨rfl, rfl, rfl, rfl, by omega, by omega, by omega, by omega, ?_⟩, by omega⟩, fun g0 => absurd rfl g0⟩)⟩, fun g0 => absurd rfl g0⟩))⟩⟩)⟩⟩
        · rw [i5.stop (hlfF_z g)] at hQ; exact hQ
        · exact i5.step (by omega) (fun k => (cif_t (by omega)).trans (cif_t g2)) (by omega)
        · exact i5.step (by omega) (fun k => ((cif_t (by omega)).trans (cif_f g2)).trans ((cif_t ⟨h1, h2⟩).trans (cif_f g4))) (by omega)
        · have e := i5.done (v := v4) (by omega) (fun k => ((cif_t (by omega)).trans (cif_f g2)).trans ((cif_t ⟨h1, h2⟩).trans (cif_t (by omega))))
          rw [e] at hQ; exact hQ
        · exact i5.step (by omega) (fun k => ((cif_t (by omega)).trans (cif_f g2)).trans (cif_f g3)) (by omega)
      · exact ⟨wt, r_isT R A ht (fun _ => ⟨fun _ => ⟨rfl, rfl, rfl, rfl, by omega, by omega, by omega, by omega, Fl.go 241 (by omega)⟩, fun g => absurd (by decide) g⟩)⟩
  · refine ⟨-2, fun Q hQ => ?_, fun M1 Q R hQ => ?_⟩
    · have W := C.1
      refine lp_X11_half (fun _ _ _ _ _ => False) (fun _ _ _ _ => 0) (fun _ _ _ _ _ g => g.elim) _ _ _ M ?_
      repeat' first | rw [wa_1200 W] | (refine c_lkF C A hX ht ?_) | apply And.intro | intro _ | exact wt | exact wa_t W | exact w_shelf_t W | assumption | exact Or.inl rfl | exact Or.inr rfl | rfl | omega | (unfold jR; omega)
    · have W := R.1
      have wt := w_model_t W
      refine lp_X12_half (fun _ _ _ _ _ _ => False) (fun _ _ _ _ _ => 0) (fun _ _ _ _ _ _ g => g.elim) _ _ _ M1 ?_
      repeat' first | rw [wa_1200 W] | (refine r_isF R A ht ?_) | apply And.intro | intro _ | exact wt | exact wa_t W | exact w_shelf_t W | assumption | exact Or.inl rfl | exact Or.inr rfl | rfl | omega | (unfold jR; omega)
end OBS2
