/-! steps: palindrome, leastRotation -/
noncomputable def palF (n : Int) (f : Int → Int) : Nat → Int → Int → Int
  | 0, l, r => r - l - 1
  | k + 1, l, r => cif (0 ≤ l ∧ r < n ∧ f l = f r) (palF n f k (l - 1) (r + 1)) (r - l - 1)
theorem palF_z {n l r : Int} {f : Int → Int} (h : ¬ (0 ≤ l ∧ r < n ∧ f l = f r)) : ∀ k, palF n f k l r = r - l - 1
  | 0 => rfl
  | _ + 1 => cif_f h
theorem md1 {x n : Int} (h0 : 0 ≤ x) (h1 : x < n) : x % n = x := Int.emod_eq_of_lt h0 h1
theorem md2 {x n : Int} (h0 : n ≤ x) (h1 : x < n + n) : x % n = x - n := by
  have e : x = (x - n) + n * 1 := by omega
  rw [e, Int.add_mul_emod_self_left, Int.emod_eq_of_lt (by omega) (by omega)]
  omega
/-- unit k of the text turned on by i -/
def rv (n : Int) (f : Int → Int) (i k : Int) : Int := if i + k < n then f (i + k) else f (i + k - n)
/-- the text turned on by i is less than that turned on by j -/
def tls (n : Int) (f : Int → Int) (i j : Int) : Prop := ∃ k, 0 ≤ k ∧ k < n ∧ (∀ l, 0 ≤ l → l < k → rv n f i l = rv n f j l) ∧ rv n f i k < rv n f j k
theorem tls_no {n i j : Int} {f : Int → Int} (h : ∀ l, 0 ≤ l → l < n → rv n f i l = rv n f j l) : ¬ tls n f i j := fun ⟨k, k0, k1, k2, k3⟩ => by have := h k k0 k1; omega
theorem tls_no2 {n i j k : Int} {f : Int → Int} (h0 : 0 ≤ k) (h : ∀ l, 0 ≤ l → l < k → rv n f i l = rv n f j l) (h2 : rv n f j k < rv n f i k) : ¬ tls n f i j := fun ⟨m, k0, k1, k2, k3⟩ => by
  rcases Int.lt_trichotomy k m with e | e | e
  · have := k2 k h0 e; omega
  · subst e; omega
  · have := h m k0 e; omega
noncomputable def ltF (n : Int) (f : Int → Int) : Nat → Int → Int → Int
  | 0, b, _ => b
  | k + 1, b, i => cif (i < n) (cif (tls n f i b) (ltF n f k i (i + 1)) (ltF n f k b (i + 1))) b
theorem ltF_z {n b i : Int} {f : Int → Int} (h : n ≤ i) : ∀ k, ltF n f k b i = b
  | 0 => rfl
  | _ + 1 => cif_f (by omega)
section FORMS
variable {G : JG} {X : Int}
section FO1
variable {Q : Int → JM → Prop} {M : JM}
theorem c_mirror {a n c : Int} {f : Int → Int} (A : Txf M a n f) (h0 : 0 ≤ c) (h1 : c ≤ 2 * n - 2) (h : Q (palF n f 300 (c / 2) ((c + 1) / 2)) M) : Runs G 5 0 0 [(1, a), (0, c)] M Q := by
  obtain ⟨A1, A2, A3, A4, A5, A6⟩ := A
  refine lp_X0_mirroredAround (fun v0 v2 v3 N => M = N ∧ a = v0 ∧ -1 ≤ v2 ∧ v2 ≤ v3 ∧ v2 < n ∧ v3 ≤ n ∧ Fl (fun k => palF n f k v2 v3) v2 (palF n f 300 (c / 2) ((c + 1) / 2))) (fun _ v2 _ => (v2 + 1).toNat) ?_ _ _ M ?_
  · rintro v0 v2 v3 N ⟨rfl, rfl, i1, i2, i3, i4, i5⟩
    have stop : ¬ (0 ≤ v2 ∧ v3 < n ∧ f v2 = f v3) → jR (v3 - v2) ∧ jR (v3 - v2 - 1) ∧ Q (v3 - v2 - 1) M := fun q => ⟨by unfold jR; omega, by unfold jR; omega, by rw [i5.stop (palF_z q)] at h; exact h⟩
    rw [A2]
    refine ⟨fun q => stop (by omega), fun q => ⟨A1, fun q2 => stop (by omega), fun q2 => ?_⟩⟩
    rw [A6 v2 (by omega) i3, A6 v3 (by omega) (by omega)]
    exact ⟨A1, ⟨A4, by omega, by omega⟩, A1, ⟨A4, by omega, by omega⟩, fun e => stop (fun z => e z.2.2), fun e => ⟨by unfold jR; omega, by unfold jR; omega, ⟨rfl, rfl, by omega, by omega, by omega, by omega, by rw [show v2 + -1 = v2 - 1 by omega]; exact i5.step (by omega) (fun k => cif_t ⟨by omega, by omega, by omega⟩) (by omega)⟩, by omega⟩⟩
  · refine ⟨⟨h0, by decide⟩, ⟨h0, by decide⟩, by unfold jR; omega, ⟨rfl, rfl, by omega, by omega, by omega, by omega, ?_⟩⟩
    rw [show c / 2 + c % 2 = (c + 1) / 2 by omega]
    exact Fl.go 300 (by omega)
theorem r_around {t c : Int} {T : ATx} {K : AKp} {P : ATx} {D : ADt} (R : RI X M T K P D) (A : AI T K P D) (ht : 0 ≤ t ∧ t < T.1) (h0 : 0 ≤ c) (h1 : c ≤ 2 * T.2.1 t - 2) (h : Q (palF (T.2.1 t) (T.2.2 t) 300 (c / 2) ((c + 1) / 2)) M) : Runs G 230 0 0 [(1, X + 218), (0, t), (0, c)] M Q := by
  have W := R.1
  have wt := w_model_t W
  obtain ⟨z1, z2, z3, z4, z5⟩ := r_txt R A ht
  refine lp_X12_around (fun v0 v1 v3 v4 N => M = N ∧ X + 218 = v0 ∧ t = v1 ∧ -1 ≤ v3 ∧ v3 ≤ v4 ∧ v3 < T.2.1 t ∧ v4 ≤ T.2.1 t ∧ Fl (fun k => palF (T.2.1 t) (T.2.2 t) k v3 v4) v3 (palF (T.2.1 t) (T.2.2 t) 300 (c / 2) ((c + 1) / 2))) (fun _ _ v3 _ => (v3 + 1).toNat) ?_ _ _ _ M ?_
  · rintro v0 v1 v3 v4 N ⟨rfl, rfl, rfl, i1, i2, i3, i4, i5⟩
    have stop : ¬ (0 ≤ v3 ∧ v4 < T.2.1 t ∧ T.2.2 t v3 = T.2.2 t v4) → jR (v4 - v3) ∧ jR (v4 - v3 - 1) ∧ Q (v4 - v3 - 1) M := fun q => ⟨by unfold jR; omega, by unfold jR; omega, by rw [i5.stop (palF_z q)] at h; exact h⟩
    rw [w_model_1301 W, w_m1301_t W, w_m1301_n W, z1]
    exact ⟨fun q => stop (by omega), fun q => ⟨wt, ⟨rfl, ht.1, z3⟩, fun q2 => stop (by omega), fun q2 => ⟨wt, r_un R A ht (by omega) (by omega) (fun _ => ⟨wt, r_un R A ht (by omega) (by omega) (fun _ => ⟨fun e => stop (fun z => e z.2.2), fun e => ⟨by unfold jR; omega, by unfold jR; omega, ⟨rfl, rfl, rfl, by omega, by omega, by omega, by omega, by rw [show v3 + -1 = v3 - 1 by omega]; exact i5.step (by omega) (fun k => cif_t ⟨by omega, by omega, by omega⟩) (by omega)⟩, by omega⟩⟩)⟩)⟩⟩⟩
  · exact ⟨⟨h0, by decide⟩, by unfold jR; omega, ⟨by omega, by decide⟩, ⟨rfl, rfl, rfl, by omega, by omega, by omega, by omega, Fl.go 300 (by omega)⟩⟩
theorem c_turn {a n i j : Int} {f : Int → Int} (A : Txf M a n f) (hi : 0 ≤ i ∧ i < n) (hj : 0 ≤ j ∧ j < n) (h1 : tls n f i j → Q 1 M) (h0 : ¬ tls n f i j → Q 0 M) : Runs G 8 0 0 [(1, a), (0, i), (0, j)] M Q := by
  obtain ⟨A1, A2, A3, A4, A5, A6⟩ := A
  refine lp_X0_turnIsLess (fun v0 v1 v2 v3 v4 N => M = N ∧ a = v0 ∧ i = v1 ∧ j = v2 ∧ n = v3 ∧ 0 ≤ v4 ∧ v4 ≤ n ∧ ∀ l, 0 ≤ l → l < v4 → rv n f i l = rv n f j l) (fun _ _ _ _ v4 => (1000 - v4).toNat) ?_ _ _ _ M ⟨A1, ⟨rfl, rfl, rfl, rfl, A2.symm, by omega, by omega, fun l l0 l1 => by omega⟩⟩
  rintro v0 v1 v2 v3 v4 N ⟨rfl, rfl, rfl, rfl, rfl, i1, i2, i3⟩
  have key : v4 < n → ∀ x y : Int, rv n f i v4 = x → rv n f j v4 = y → ((x = y → jR (v4 + 1) ∧ (M = M ∧ a = a ∧ i = i ∧ j = j ∧ n = n ∧ 0 ≤ v4 + 1 ∧ v4 + 1 ≤ n ∧ ∀ l, 0 ≤ l → l < v4 + 1 → rv n f i l = rv n f j l) ∧ (1000 - (v4 + 1)).toNat < (1000 - v4).toNat) ∧ (¬ x = y → ((y ≤ x → ((0 : Int) = 0 ∨ (0 : Int) = 1) ∧ Q 0 M) ∧ (¬ y ≤ x → ((1 : Int) = 0 ∨ (1 : Int) = 1) ∧ Q 1 M)))) := fun hn x y ex ey => by
    refine ⟨fun e => ⟨by unfold jR; omega, ⟨rfl, rfl, rfl, rfl, rfl, by omega, by omega, fun l l0 l1 => ?_⟩, by omega⟩, fun e => ⟨fun q => ⟨Or.inl rfl, h0 (tls_no2 i1 i3 (by omega))⟩, fun q => ⟨Or.inr rfl, h1 ⟨v4, i1, hn, i3, by omega⟩⟩⟩⟩
    by_cases hl : l = v4
    · rw [hl, ex, ey]; exact e
    · exact i3 l l0 (by omega)
  refine ⟨fun q => ⟨Or.inl rfl, h0 (tls_no (fun l l0 l1 => i3 l l0 (by omega)))⟩, fun q => ⟨A1, by unfold jR; omega, fun q2 => ⟨by unfold jR; omega, by unfold jR; omega, ⟨A4, by omega, by omega⟩, A1, by unfold jR; omega, fun q3 => ⟨by unfold jR; omega, by unfold jR; omega, ⟨A4, by omega, by omega⟩, ?_⟩, fun q3 => ⟨by unfold jR; omega, ⟨A4, by omega, by omega⟩, ?_⟩⟩, fun q2 => ⟨by unfold jR; omega, ⟨A4, by omega, by omega⟩, A1, by unfold jR; omega, fun q3 => ⟨by unfold jR; omega, by unfold jR; omega, ⟨A4, by omega, by omega⟩, ?_⟩, fun q3 => ⟨by unfold jR; omega, ⟨A4, by omega, by omega⟩, ?_⟩⟩⟩⟩
  · rw [A6 _ (by omega) (by omega), A6 _ (by omega) (by omega)]
    exact key (by omega) _ _ (if_neg (by omega)) (if_neg (by omega))
  · rw [A6 _ (by omega) (by omega), A6 _ (by omega) (by omega)]
    exact key (by omega) _ _ (if_neg (by omega)) (if_pos (by omega))
  · rw [A6 _ (by omega) (by omega), A6 _ (by omega) (by omega)]
    exact key (by omega) _ _ (if_pos (by omega)) (if_neg (by omega))
  · rw [A6 _ (by omega) (by omega), A6 _ (by omega) (by omega)]
    exact key (by omega) _ _ (if_pos (by omega)) (if_pos (by omega))
theorem r_turned {t i k : Int} {T : ATx} {K : AKp} {P : ATx} {D : ADt} (R : RI X M T K P D) (A : AI T K P D) (ht : 0 ≤ t ∧ t < T.1) (hi : 0 ≤ i ∧ i < T.2.1 t) (hk : 0 ≤ k ∧ k < T.2.1 t) (h : Q (rv (T.2.1 t) (T.2.2 t) i k) M) : Runs G 233 0 0 [(1, X + 218), (0, t), (0, i + k)] M Q := by
  have W := R.1
  have wt := w_model_t W
  obtain ⟨z1, z2, z3, z4, z5⟩ := r_txt R A ht
  refine rn_X12_turned _ _ _ M (sg_X12_turned_0 _ _ _ M ?_)
  rw [w_model_1301 W, w_m1301_t W, w_m1301_n W, z1]
  unfold rv at h
  by_cases q : i + k < T.2.1 t
  · rw [if_pos q] at h
    rw [md1 (by omega) q]
    exact ⟨wt, ⟨rfl, ht.1, z3⟩, ⟨by omega, by omega⟩, wt, r_un R A ht (by omega) q (fun _ => h)⟩
  · rw [if_neg q] at h
    rw [md2 (by omega) (by omega)]
    exact ⟨wt, ⟨rfl, ht.1, z3⟩, ⟨by omega, by omega⟩, wt, r_un R A ht (by omega) (by omega) (fun _ => h)⟩
end FO1
theorem st_palindrome (t c : Int) : JSt (IV X) 3072 G X 142 231 [(0, t), (0, c)] := mk_obs fun n M T K P D C H A hX => by
  by_cases hv : (0 ≤ t ∧ t < T.1) ∧ 0 ≤ c ∧ c ≤ 2 * T.2.1 t - 2
  · obtain ⟨ht, hc⟩ := hv
    refine ⟨palF (T.2.1 t) (T.2.2 t) 300 (c / 2) ((c + 1) / 2), fun Q hQ => ?_, fun M1 Q R hQ => ?_⟩
    · have W := C.1
      obtain ⟨TT, e1, e2, e3, e4, e5, e6, e7, e8⟩ := c_txt C A ht
      refine rn_X11_palindrome _ _ _ M (sg_X11_palindrome_0 _ _ _ M ?_)
      repeat' first | rw [wa_1200 W] | (refine c_lkT C A hX ht ?_) | (refine c_mirror (c_tf C A ht) hc.1 hc.2 ?_) | apply And.intro | intro _ | exact wt | exact wa_t W | exact w_shelf_t W | assumption | exact Or.inl rfl | exact Or.inr rfl | rfl | omega | (unfold jR; omega)
    · have W := R.1
      have wt := w_model_t W
      obtain ⟨z1, z2, z3, z4, z5⟩ := r_txt R A ht
      refine rn_X12_palindrome _ _ _ M1 (sg_X12_palindrome_0 _ _ _ M1 ?_)
      repeat' first | rw [wa_1200 W] | (refine r_isT R A ht ?_) | (refine r_in ?_ ?_) | (refine r_around R A ht hc.1 hc.2 ?_) | (rw [w_model_1301 W]) | (rw [w_m1301_n W]) | exact w_m1301_t W | (rw [z1]) | apply And.intro | intro _ | exact wt | exact wa_t W | exact w_shelf_t W | assumption | exact Or.inl rfl | exact Or.inr rfl | rfl | omega | (unfold jR; omega)
  · refine ⟨-2, fun Q hQ => ?_, fun M1 Q R hQ => ?_⟩
    · have W := C.1
      refine rn_X11_palindrome _ _ _ M (sg_X11_palindrome_0 _ _ _ M ?_)
      by_cases ht : 0 ≤ t ∧ t < T.1
      · obtain ⟨TT, e1, e2, e3, e4, e5, e6, e7, e8⟩ := c_txt C A ht
        repeat' first | rw [wa_1200 W] | (refine c_lkT C A hX ht ?_) | apply And.intro | intro _ | exact wt | exact wa_t W | exact w_shelf_t W | assumption | exact Or.inl rfl | exact Or.inr rfl | rfl | omega | (unfold jR; omega)
      · repeat' first | rw [wa_1200 W] | (refine c_lkF C A hX ht ?_) | apply And.intro | intro _ | exact wt | exact wa_t W | exact w_shelf_t W | assumption | exact Or.inl rfl | exact Or.inr rfl | rfl | omega | (unfold jR; omega)
    · have W := R.1
      have wt := w_model_t W
      refine rn_X12_palindrome _ _ _ M1 (sg_X12_palindrome_0 _ _ _ M1 ?_)
      by_cases ht : 0 ≤ t ∧ t < T.1
      · obtain ⟨z1, z2, z3, z4, z5⟩ := r_txt R A ht
        repeat' first | rw [wa_1200 W] | (refine r_isT R A ht ?_) | (refine r_in ?_ ?_) | (rw [w_model_1301 W]) | (rw [w_m1301_n W]) | exact w_m1301_t W | (rw [z1]) | apply And.intro | intro _ | exact wt | exact wa_t W | exact w_shelf_t W | assumption | exact Or.inl rfl | exact Or.inr rfl | rfl | omega | (unfold jR; omega)
      · repeat' first | rw [wa_1200 W] | (refine r_isF R A ht ?_) | apply And.intro | intro _ | exact wt | exact wa_t W | exact w_shelf_t W | assumption | exact Or.inl rfl | exact Or.inr rfl | rfl | omega | (unfold jR; omega)
theorem st_leastRotation (t : Int) : JSt (IV X) 3072 G X 144 234 [(0, t)] := mk_obs fun n M T K P D C H A hX => by
  by_cases ht : 0 ≤ t ∧ t < T.1
  · by_cases hz : T.2.1 t = 0
    · refine ⟨-1, fun Q hQ => ?_, fun M1 Q R hQ => ?_⟩
      · have W := C.1
        obtain ⟨TT, e1, e2, e3, e4, e5, e6, e7, e8⟩ := c_txt C A ht
        refine rn_X11_leastRotation _ _ M (sg_X11_leastRotation_0 _ _ M ?_)
        repeat' first | rw [wa_1200 W] | (refine c_lkT C A hX ht ?_) | apply And.intro | intro _ | exact wt | exact wa_t W | exact w_shelf_t W | assumption | exact Or.inl rfl | exact Or.inr rfl | rfl | omega | (unfold jR; omega)
      · have W := R.1
        have wt := w_model_t W
        obtain ⟨z1, z2, z3, z4, z5⟩ := r_txt R A ht
        refine lp_X12_leastRotation (fun v0 v1 v2 v3 v4 N => M1 = N ∧ v2 = 0 ∧ v3 = -1 ∧ v4 = 1) (fun _ _ _ _ _ => 0) (fun _ _ _ _ _ _ _ => False) (fun _ _ _ _ _ _ => 0) ?_ (fun _ _ _ _ _ _ _ g => g.elim) _ _ M1 ?_
        · rintro v0 v1 v2 v3 v4 N ⟨rfl, rfl, rfl, rfl⟩
          exact ⟨fun _ => hQ, fun q => absurd (by decide) q⟩
        · refine ⟨wt, r_isT R A ht (fun _ => ⟨fun _ => ⟨wt, ?_⟩, fun q => absurd (by decide) q⟩)⟩
          rw [w_model_1301 W, w_m1301_t W, w_m1301_n W, z1]
          exact ⟨⟨rfl, ht.1, z3⟩, fun q => absurd hz q, fun _ => ⟨rfl, hz, rfl, rfl⟩⟩
    · have hn := (A.1.2.2 t ht.1 ht.2)
      refine ⟨ltF (T.2.1 t) (T.2.2 t) 300 0 1, fun Q hQ => ?_, fun M1 Q R hQ => ?_⟩
      · have W := C.1
        obtain ⟨TT, e1, e2, e3, e4, e5, e6, e7, e8⟩ := c_txt C A ht
        have main : Runs G 7 0 0 [(1, X + (4 + 2 * t))] M (fun r3 M3 => jokM M3 → Q r3 M3) := by
          refine lp_X0_leastTurn (fun v0 v1 v2 N => M = N ∧ X + (4 + 2 * t) = v0 ∧ 0 ≤ v1 ∧ v1 < T.2.1 t ∧ 1 ≤ v2 ∧ v2 ≤ 300 ∧ Fl (fun k => ltF (T.2.1 t) (T.2.2 t) k v1 v2) (T.2.1 t - v2) (ltF (T.2.1 t) (T.2.2 t) 300 0 1)) (fun _ _ v2 => (1000 - v2).toNat) ?_ _ M ⟨rfl, rfl, by omega, by omega, by omega, by omega, Fl.go 300 (by omega)⟩
          rintro v0 v1 v2 N ⟨rfl, rfl, i1, i2, i3, i4, i5⟩
          rw [e1]
          refine ⟨e4, fun q => ?_, fun q => c_turn (c_tf C A ht) ⟨by omega, by omega⟩ ⟨i1, i2⟩ (fun g _ => ⟨fun q => absurd q (by decide), fun _ => ⟨by unfold jR; omega, ⟨rfl, rfl, by omega, by omega, by omega, by omega, i5.step (by omega) (fun k => (cif_t (by omega)).trans (cif_t g)) (by omega)⟩, by omega⟩⟩) (fun g _ => ⟨fun _ => ⟨by unfold jR; omega, ⟨rfl, rfl, i1, i2, by omega, by omega, i5.step (by omega) (fun k => (cif_t (by omega)).trans (cif_f g)) (by omega)⟩, by omega⟩, fun q => absurd rfl q⟩)⟩
          rw [i5.stop (ltF_z q)] at hQ; exact fun _ => hQ
        refine rn_X11_leastRotation _ _ M (sg_X11_leastRotation_0 _ _ M ?_)
        repeat' first | rw [wa_1200 W] | (refine c_lkT C A hX ht ?_) | exact main | apply And.intro | intro _ | exact wt | exact wa_t W | exact w_shelf_t W | assumption | exact Or.inl rfl | exact Or.inr rfl | rfl | omega | (unfold jR; omega)
      · have W := R.1
        have wt := w_model_t W
        obtain ⟨z1, z2, z3, z4, z5⟩ := r_txt R A ht
        refine lp_X12_leastRotation (fun v0 v1 v2 v3 v4 N => M1 = N ∧ X + 218 = v0 ∧ t = v1 ∧ T.2.1 t = v2 ∧ 0 ≤ v3 ∧ v3 < T.2.1 t ∧ 1 ≤ v4 ∧ v4 ≤ 300 ∧ Fl (fun k => ltF (T.2.1 t) (T.2.2 t) k v3 v4) (T.2.1 t - v4) (ltF (T.2.1 t) (T.2.2 t) 300 0 1)) (fun _ _ _ _ v4 => ((1000 - v4) * 1000).toNat) (fun v0 v1 v2 v3 v4 v5 N => M1 = N ∧ X + 218 = v0 ∧ t = v1 ∧ T.2.1 t = v2 ∧ 0 ≤ v3 ∧ v3 < T.2.1 t ∧ 1 ≤ v4 ∧ v4 < T.2.1 t ∧ Fl (fun k => ltF (T.2.1 t) (T.2.2 t) k v3 v4) (T.2.1 t - v4) (ltF (T.2.1 t) (T.2.2 t) 300 0 1) ∧ 0 ≤ v5 ∧ v5 ≤ T.2.1 t ∧ ∀ l, 0 ≤ l → l < v5 → rv (T.2.1 t) (T.2.2 t) v4 l = rv (T.2.1 t) (T.2.2 t) v3 l) (fun _ _ _ _ v4 v5 => ((1000 - v4) * 1000 - 1 - v5).toNat) ?_ ?_ _ _ M1 ?_
        · rintro v0 v1 v2 v3 v4 N ⟨rfl, rfl, rfl, rfl, i1, i2, i3, i4, i5⟩
          refine ⟨fun q => ?_, fun q => ⟨⟨rfl, rfl, rfl, rfl, i1, i2, i3, by omega, i5, by omega, by omega, fun l l0 l1 => by omega⟩, by omega⟩⟩
          rw [i5.stop (ltF_z q)] at hQ; exact hQ
        · rintro v0 v1 v2 v3 v4 v5 N ⟨rfl, rfl, rfl, rfl, i1, i2, i3, i4, i5, i6, i7, i8⟩
          refine ⟨fun q => ⟨fun _ => ⟨by unfold jR; omega, ⟨rfl, rfl, rfl, rfl, i1, i2, by omega, by omega, i5.step (by omega) (fun k => (cif_t (by omega)).trans (cif_f (tls_no (fun l l0 l1 => i8 l l0 (by omega))))) (by omega)⟩, by omega⟩, fun q2 => absurd q q2⟩, fun q => ⟨by unfold jR; omega, wt, r_turned R A ht ⟨by omega, i4⟩ ⟨i6, by omega⟩ (fun _ => ⟨by unfold jR; omega, wt, r_turned R A ht ⟨i1, i2⟩ ⟨i6, by omega⟩ (fun _ => ⟨fun e => ⟨fun q2 => absurd q2 q, fun _ => ⟨by unfold jR; omega, wt, r_turned R A ht ⟨by omega, i4⟩ ⟨i6, by omega⟩ (fun _ => ⟨by unfold jR; omega, wt, r_turned R A ht ⟨i1, i2⟩ ⟨i6, by omega⟩ (fun _ => ⟨fun le => ⟨by unfold jR; omega, ⟨rfl, rfl, rfl, rfl, i1, i2, by omega, by omega, i5.step (by omega) (fun k => (cif_t (by omega)).trans (cif_f (tls_no2 i6 i8 (by omega)))) (by omega)⟩, by omega⟩, fun le => ⟨by unfold jR; omega, ⟨rfl, rfl, rfl, rfl, by omega, by omega, by omega, by omega, i5.step (by omega) (fun k => (cif_t (by omega)).trans (cif_t ⟨v5, i6, by omega, i8, by omega⟩)) (by omega)⟩, by omega⟩⟩)⟩)⟩⟩, fun e => ⟨by unfold jR; omega, ⟨rfl, rfl, rfl, rfl, i1, i2, i3, i4, i5, by omega, by omega, fun l l0 l1 => ?_⟩, by omega⟩⟩)⟩)⟩⟩
          by_cases hl : l = v5
          · rw [hl]; omega
          · exact i8 l l0 (by omega)
        · refine ⟨wt, r_isT R A ht (fun _ => ⟨fun _ => ⟨wt, ?_⟩, fun q => absurd (by decide) q⟩)⟩
          rw [w_model_1301 W, w_m1301_t W, w_m1301_n W, z1]
          exact ⟨⟨rfl, ht.1, z3⟩, fun _ => ⟨rfl, rfl, rfl, rfl, by omega, by omega, by omega, by omega, Fl.go 300 (by omega)⟩, fun q => absurd hz q⟩
  · refine ⟨-2, fun Q hQ => ?_, fun M1 Q R hQ => ?_⟩
    · have W := C.1
      refine rn_X11_leastRotation _ _ M (sg_X11_leastRotation_0 _ _ M ?_)
      repeat' first | rw [wa_1200 W] | (refine c_lkF C A hX ht ?_) | apply And.intro | intro _ | exact wt | exact wa_t W | exact w_shelf_t W | assumption | exact Or.inl rfl | exact Or.inr rfl | rfl | omega | (unfold jR; omega)
    · have W := R.1
      have wt := w_model_t W
      refine lp_X12_leastRotation (fun _ _ _ _ _ _ => False) (fun _ _ _ _ _ => 0) (fun _ _ _ _ _ _ _ => False) (fun _ _ _ _ _ _ => 0) (fun _ _ _ _ _ _ g => g.elim) (fun _ _ _ _ _ _ _ g => g.elim) _ _ M1 ?_
      repeat' first | rw [wa_1200 W] | (refine r_isF R A ht ?_) | apply And.intro | intro _ | exact wt | exact wa_t W | exact w_shelf_t W | assumption | exact Or.inl rfl | exact Or.inr rfl | rfl | omega | (unfold jR; omega)
end FORMS
