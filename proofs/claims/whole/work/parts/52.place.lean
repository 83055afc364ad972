/-! where texts stand in others; steps: equalParts, common, find, countOf, wild, near -/
/-- a Text of the component with its units -/
def Txf (M : JM) (a n : Int) (f : Int → Int) : Prop := M 0 a 0 = 19 ∧ M 2901 a 0 = n ∧ (0 ≤ n ∧ n ≤ 240) ∧ M 0 (M 1000 a 0) 0 = 1 ∧ n ≤ M 1 (M 1000 a 0) 0 ∧ ∀ i, 0 ≤ i → i < n → M 2 (M 1000 a 0) i = f i
/-- place j of what is sought differs -/
def msm (f g : Int → Int) (i sg j : Int) : Prop := f (i + j) ≠ g j ∧ f (i + j) ≠ sg ∧ g j ≠ sg
/-- it stands at i, but for at most c places -/
def Fits (f : Int → Int) (m : Int) (g : Int → Int) (i sg c : Int) : Prop := cntI (msm f g i sg) m ≤ c
theorem cntI_mono {p : Int → Prop} {n m : Int} (h0 : 0 ≤ n) (h : n ≤ m) : cntI p n ≤ cntI p m := by
  obtain ⟨k, hk⟩ := Int.eq_ofNat_of_zero_le (show 0 ≤ m - n by omega)
  have e : m = n + k := by omega
  subst e
  clear hk h
  induction k with
  | zero => rw [show n + ((0 : Nat) : Int) = n by omega]; exact Int.le_refl _
  | succ k ih =>
    rcases Classical.em (p (n + k)) with q | q
    · rw [show n + ((k + 1 : Nat) : Int) = n + k + 1 by omega, cntI_t (by omega) q]; omega
    · rw [show n + ((k + 1 : Nat) : Int) = n + k + 1 by omega, cntI_f (by omega) q]; exact ih
noncomputable def plF (n : Int) (f : Int → Int) (m : Int) (g : Int → Int) (sg c q : Int) : Nat → Int → Int → Int
  | 0, _, _ => -1
  | k + 1, p, i => cif (i + m ≤ n) (cif (Fits f m g i sg c) (cif (p = q) i (plF n f m g sg c q k (p + 1) (i + 1))) (plF n f m g sg c q k p (i + 1))) (-1)
theorem plF_z {n m sg c q p i : Int} {f g : Int → Int} (h : n < i + m) : ∀ k, plF n f m g sg c q k p i = -1
  | 0 => rfl
  | _ + 1 => cif_f (by omega)
section PLACE
variable {G : JG} {X : Int}
/-- a call that changes nothing that lasts -/
theorem mk_sc {y y' : Nat} {as : List JV} (h : ∀ n M T K P D, CB X n M T K P D → CH X M T → AI T K P D → 0 < X → ∃ r : Int, (∀ Q : Int → JM → Prop, (∀ M1, FrC X M M1 → CB X n M1 T K P D → CH X M1 T → M1 1212 X 0 = M 1212 X 0 → M1 1213 X 0 = M 1213 X 0 → Q r M1) → Runs G y 0 0 ((1, X) :: as) M Q) ∧ ∀ (M1 : JM) (Q : Int → JM → Prop), RI X M1 T K P D → (∀ M2, FrR X M1 M2 → RI X M2 T K P D → Q r M2) → Runs G y' 0 0 ((1, X + 218) :: as) M1 Q) : JSt (IV X) 3072 G X y y' as :=
  mk_stp fun n M T K P D C H A hX hn0 hn => by
    obtain ⟨r, hc, hr⟩ := h n M T K P D C H A hX
    exact mk_gen (r := r) (T' := T) (K' := K) (P' := P) (D' := D) (fun Q hQ => hc Q (fun M1 f c s e1 e2 => hQ M1 A f (c.mono (by omega) (by omega)) s e1 e2)) (fun M1 Q R hQ => hr M1 Q R hQ)
section PL1
variable {Q : Int → JM → Prop} {M : JM}
theorem c_tf {n t : Int} {T : ATx} {K : AKp} {P : ATx} {D : ADt} (C : CB X n M T K P D) (A : AI T K P D) (ht : 0 ≤ t ∧ t < T.1) : Txf M (X + (4 + 2 * t)) (T.2.1 t) (T.2.2 t) := by
  obtain ⟨TT, e1, e2, e3, e4, e5, e6, e7, e8⟩ := c_txt C A ht
  exact ⟨e4, e1, ⟨e7, e8⟩, by rw [e2]; exact e5, by rw [e2, e6]; exact e8, fun i i0 i1 => by rw [e2]; exact e3 i i0 i1⟩
theorem c_fits {a b n m i sg c : Int} {f g : Int → Int} (A : Txf M a n f) (B : Txf M b m g) (hi : i ≤ 1000) (hc : 0 ≤ c) (h1 : 0 ≤ i → i + m ≤ n → Fits f m g i sg c → Q 1 M) (h0 : ¬ (0 ≤ i ∧ i + m ≤ n ∧ Fits f m g i sg c) → Q 0 M) : Runs G 17 0 0 [(1, a), (0, i), (1, b), (0, sg), (0, c)] M Q := by
  obtain ⟨A1, A2, A3, A4, A5, A6⟩ := A
  obtain ⟨B1, B2, B3, B4, B5, B6⟩ := B
  refine lp_X3_fits (fun v0 v1 v2 v3 v4 v5 v6 N => M = N ∧ a = v0 ∧ i = v1 ∧ b = v2 ∧ sg = v3 ∧ c = v4 ∧ 0 ≤ i ∧ i + m ≤ n ∧ 0 ≤ v6 ∧ v6 ≤ m ∧ v5 = cntI (msm f g i sg) v6 ∧ v5 ≤ c) (fun _ _ _ _ _ _ v6 => (1000 - v6).toNat) ?_ _ _ _ _ _ M ?_
  · rintro v0 v1 v2 v3 v4 v5 v6 N ⟨rfl, rfl, rfl, rfl, rfl, rfl, i1, i2, i3, i4, rfl, i6⟩
    have b6 := (cntI_r (p := msm f g i sg) i3)
    rw [B2]
    refine ⟨B1, fun q => ⟨Or.inr rfl, h1 i1 i2 ?_⟩, fun q => ?_⟩
    · have : v6 = m := by omega
      subst this; exact i6
    · rw [A6 (i + v6) (by omega) (by omega), B6 v6 i3 (by omega)]
      have same : ¬ msm f g i sg v6 → (M = M ∧ a = a ∧ i = i ∧ b = b ∧ sg = sg ∧ c = c ∧ 0 ≤ i ∧ i + m ≤ n ∧ 0 ≤ v6 + 1 ∧ v6 + 1 ≤ m ∧ cntI (msm f g i sg) v6 = cntI (msm f g i sg) (v6 + 1) ∧ cntI (msm f g i sg) v6 ≤ c) := fun q2 => ⟨rfl, rfl, rfl, rfl, rfl, rfl, i1, i2, by omega, by omega, (cntI_f i3 q2).symm, i6⟩
      refine ⟨A1, by unfold jR; omega, ⟨A4, by omega, by omega⟩, B1, ⟨B4, i3, by omega⟩, fun e => ⟨by unfold jR; omega, same (fun q2 => q2.1 e), by omega⟩, fun e => ⟨fun e2 => ⟨by unfold jR; omega, same (fun q2 => q2.2.1 e2), by omega⟩, fun e2 => ⟨fun e3 => ⟨by unfold jR; omega, same (fun q2 => q2.2.2 e3), by omega⟩, fun e3 => ⟨by unfold jR; omega, fun q2 => ⟨by unfold jR; omega, ⟨rfl, rfl, rfl, rfl, rfl, rfl, i1, i2, by omega, by omega, (cntI_t i3 ⟨e, e2, e3⟩).symm, q2⟩, by omega⟩, fun q2 => ⟨Or.inl rfl, h0 (fun z => q2 ?_)⟩⟩⟩⟩⟩
      have := cntI_mono (p := msm f g i sg) (n := v6 + 1) (m := m) (by omega) (by omega)
      rw [cntI_t i3 ⟨e, e2, e3⟩] at this
      have z3 : cntI (msm f g i sg) m ≤ c := z.2.2
      omega
  · rw [A2, B2]
    exact ⟨fun q => ⟨Or.inl rfl, h0 (by omega)⟩, fun q => ⟨B1, A1, by unfold jR; omega, fun q2 => ⟨rfl, rfl, rfl, rfl, rfl, rfl, by omega, by omega, by omega, by omega, (cntI_z (by omega)).symm, hc⟩, fun q2 => ⟨Or.inl rfl, h0 (by omega)⟩⟩⟩
theorem c_placeOf {a b n m sg c q : Int} {f g : Int → Int} (A : Txf M a n f) (B : Txf M b m g) (hc : 0 ≤ c) (h : Q (plF n f m g sg c q 300 0 0) M) : Runs G 18 0 0 [(1, a), (1, b), (0, sg), (0, c), (0, q)] M Q := by
  have A0 := A
  have B0 := B
  obtain ⟨A1, A2, A3, A4, A5, A6⟩ := A
  obtain ⟨B1, B2, B3, B4, B5, B6⟩ := B
  refine lp_X3_placeOf (fun v0 v1 v2 v3 v4 v5 v6 N => M = N ∧ a = v0 ∧ b = v1 ∧ sg = v2 ∧ c = v3 ∧ q = v4 ∧ 0 ≤ v5 ∧ v5 ≤ v6 ∧ 0 ≤ v6 ∧ v6 ≤ 300 ∧ Fl (fun k => plF n f m g sg c q k v5 v6) (n - v6) (plF n f m g sg c q 300 0 0)) (fun _ _ _ _ _ _ v6 => (1000 - v6).toNat) ?_ _ _ _ _ _ M ⟨rfl, rfl, rfl, rfl, rfl, rfl, by omega, by omega, by omega, by omega, Fl.go 300 (by omega)⟩
  rintro v0 v1 v2 v3 v4 v5 v6 N ⟨rfl, rfl, rfl, rfl, rfl, rfl, i1, i2, i3, i4, i5⟩
  rw [A2, B2]
  refine ⟨A1, B1, by unfold jR; omega, fun g1 => ?_, fun g1 => c_fits A0 B0 (by omega) hc (fun _ _ ft _ => ⟨fun q0 => absurd q0 (by decide), fun _ => ⟨fun g2 => ⟨by unfold jR; omega, by unfold jR; omega, ⟨rfl, rfl, rfl, rfl, rfl, rfl, by omega, by omega, by omega, by omega, i5.step (by omega) (fun k => ((cif_t (by omega)).trans (cif_t ft)).trans (cif_f g2)) (by omega)⟩, by omega⟩, fun g2 => ?_⟩⟩) (fun ft _ => ⟨fun _ => ⟨by unfold jR; omega, ⟨rfl, rfl, rfl, rfl, rfl, rfl, by omega, by omega, by omega, by omega, i5.step (by omega) (fun k => (cif_t (by omega)).trans (cif_f (fun z => ft ⟨i3, by omega, z⟩))) (by omega)⟩, by omega⟩, fun q0 => absurd rfl q0⟩)⟩
  · rw [i5.stop (plF_z (by omega))] at h; exact h
  · rw [i5.done (v := v6) (by omega) (fun k => ((cif_t (by omega)).trans (cif_t ft)).trans (cif_t (by omega)))] at h; exact h
theorem r_stands {t p i sg c : Int} {T : ATx} {K : AKp} {P : ATx} {D : ADt} (R : RI X M T K P D) (A : AI T K P D) (ht : 0 ≤ t ∧ t < T.1) (hp : 0 ≤ p ∧ p < T.1) (hi : 0 ≤ i ∧ i + T.2.1 p ≤ T.2.1 t) (hc : 0 ≤ c) (h1 : Fits (T.2.2 t) (T.2.1 p) (T.2.2 p) i sg c → Q 1 M) (h0 : ¬ Fits (T.2.2 t) (T.2.1 p) (T.2.2 p) i sg c → Q 0 M) : Runs G 204 0 0 [(1, X + 218), (0, t), (0, p), (0, i), (0, sg), (0, c)] M Q := by
  have W := R.1
  have wt := w_model_t W
  obtain ⟨z1, z2, z3, z4, z5⟩ := r_txt R A ht
  obtain ⟨y1, y2, y3, y4, y5⟩ := r_txt R A hp
  refine lp_X12_stands (fun v0 v1 v2 v3 v4 v5 v6 v7 N => M = N ∧ X + 218 = v0 ∧ t = v1 ∧ p = v2 ∧ i = v3 ∧ sg = v4 ∧ c = v5 ∧ 0 ≤ v7 ∧ v7 ≤ T.2.1 p ∧ v6 = cntI (msm (T.2.2 t) (T.2.2 p) i sg) v7 ∧ v6 ≤ c) (fun _ _ _ _ _ _ _ v7 => (1000 - v7).toNat) ?_ _ _ _ _ _ _ M ⟨rfl, rfl, rfl, rfl, rfl, rfl, rfl, by omega, by omega, (cntI_z (by omega)).symm, hc⟩
  rintro v0 v1 v2 v3 v4 v5 v6 v7 N ⟨rfl, rfl, rfl, rfl, rfl, rfl, rfl, i1, i2, rfl, i4⟩
  have b6 := (cntI_r (p := msm (T.2.2 t) (T.2.2 p) i sg) i1)
  rw [w_model_1301 W, w_m1301_t W, w_m1301_n W, y1]
  refine ⟨wt, ⟨rfl, hp.1, y3⟩, fun q => ⟨Or.inr rfl, h1 ?_⟩, fun q => ⟨by unfold jR; omega, wt, r_un R A ht (by omega) (by omega) (fun _ => ⟨wt, r_un R A hp i1 (by omega) (fun _ => ?_)⟩)⟩⟩
  · have : v7 = T.2.1 p := by omega
    subst this; exact i4
  · have same : ¬ msm (T.2.2 t) (T.2.2 p) i sg v7 → jR (cntI (msm (T.2.2 t) (T.2.2 p) i sg) v7 + 0) ∧ ((cntI (msm (T.2.2 t) (T.2.2 p) i sg) v7 + 0 ≤ c → jR (v7 + 1) ∧ (M = M ∧ X + 218 = X + 218 ∧ t = t ∧ p = p ∧ i = i ∧ sg = sg ∧ c = c ∧ 0 ≤ v7 + 1 ∧ v7 + 1 ≤ T.2.1 p ∧ cntI (msm (T.2.2 t) (T.2.2 p) i sg) v7 + 0 = cntI (msm (T.2.2 t) (T.2.2 p) i sg) (v7 + 1) ∧ cntI (msm (T.2.2 t) (T.2.2 p) i sg) v7 + 0 ≤ c) ∧ (1000 - (v7 + 1)).toNat < (1000 - v7).toNat) ∧ (¬ cntI (msm (T.2.2 t) (T.2.2 p) i sg) v7 + 0 ≤ c → ((0 : Int) = 0 ∨ (0 : Int) = 1) ∧ Q 0 M)) := fun q2 => ⟨by unfold jR; omega, fun _ => ⟨by unfold jR; omega, ⟨rfl, rfl, rfl, rfl, rfl, rfl, rfl, by omega, by omega, by rw [Int.add_zero]; exact (cntI_f i1 q2).symm, by omega⟩, by omega⟩, fun q3 => absurd (by omega) q3⟩
    refine ⟨fun e => same (fun q2 => q2.1 e), fun e => ⟨fun e2 => same (fun q2 => q2.2.1 e2), fun e2 => ⟨fun e3 => ⟨by unfold jR; omega, fun q2 => ⟨by unfold jR; omega, ⟨rfl, rfl, rfl, rfl, rfl, rfl, rfl, by omega, by omega, (cntI_t i1 ⟨e, e2, e3⟩).symm, q2⟩, by omega⟩, fun q2 => ⟨Or.inl rfl, h0 (fun z => q2 ?_)⟩⟩, fun e3 => same (fun q2 => q2.2.2 (by omega))⟩⟩⟩
    have := cntI_mono (p := msm (T.2.2 t) (T.2.2 p) i sg) (n := v7 + 1) (m := T.2.1 p) (by omega) (by omega)
    rw [cntI_t i1 ⟨e, e2, e3⟩] at this
    have z3 : cntI (msm (T.2.2 t) (T.2.2 p) i sg) (T.2.1 p) ≤ c := z
    omega
theorem r_place {t p sg c q : Int} {T : ATx} {K : AKp} {P : ATx} {D : ADt} (R : RI X M T K P D) (A : AI T K P D) (ht : 0 ≤ t ∧ t < T.1) (hp : 0 ≤ p ∧ p < T.1) (hc : 0 ≤ c) (h : Q (plF (T.2.1 t) (T.2.2 t) (T.2.1 p) (T.2.2 p) sg c q 300 0 0) M) : Runs G 205 0 0 [(1, X + 218), (0, t), (0, p), (0, sg), (0, c), (0, q)] M Q := by
  have W := R.1
  have wt := w_model_t W
  obtain ⟨z1, z2, z3, z4, z5⟩ := r_txt R A ht
  obtain ⟨y1, y2, y3, y4, y5⟩ := r_txt R A hp
  refine lp_X12_place (fun v0 v1 v2 v3 v4 v5 v6 v7 N => M = N ∧ X + 218 = v0 ∧ t = v1 ∧ p = v2 ∧ sg = v3 ∧ c = v4 ∧ q = v5 ∧ 0 ≤ v6 ∧ v6 ≤ v7 ∧ 0 ≤ v7 ∧ v7 ≤ 300 ∧ Fl (fun k => plF (T.2.1 t) (T.2.2 t) (T.2.1 p) (T.2.2 p) sg c q k v6 v7) (T.2.1 t - v7) (plF (T.2.1 t) (T.2.2 t) (T.2.1 p) (T.2.2 p) sg c q 300 0 0)) (fun _ _ _ _ _ _ _ v7 => (1000 - v7).toNat) ?_ _ _ _ _ _ _ M ⟨rfl, rfl, rfl, rfl, rfl, rfl, rfl, by omega, by omega, by omega, by omega, Fl.go 300 (by omega)⟩
  rintro v0 v1 v2 v3 v4 v5 v6 v7 N ⟨rfl, rfl, rfl, rfl, rfl, rfl, rfl, i1, i2, i3, i4, i5⟩
  rw [w_model_1301 W, w_m1301_t W, w_m1301_n W, y1, z1]
  refine ⟨wt, ⟨rfl, hp.1, y3⟩, by unfold jR; omega, wt, ⟨rfl, ht.1, z3⟩, fun g1 => ?_, fun g1 => ⟨wt, r_stands R A ht hp ⟨i3, by omega⟩ hc (fun ft _ => ⟨fun q0 => absurd q0 (by decide), fun _ => ⟨fun g2 => ⟨by unfold jR; omega, by unfold jR; omega, ⟨rfl, rfl, rfl, rfl, rfl, rfl, rfl, by omega, by omega, by omega, by omega, i5.step (by omega) (fun k => ((cif_t (by omega)).trans (cif_t ft)).trans (cif_f g2)) (by omega)⟩, by omega⟩, fun g2 => ?_⟩⟩) (fun ft _ => ⟨fun _ => ⟨by unfold jR; omega, ⟨rfl, rfl, rfl, rfl, rfl, rfl, rfl, by omega, by omega, by omega, by omega, i5.step (by omega) (fun k => (cif_t (by omega)).trans (cif_f ft)) (by omega)⟩, by omega⟩, fun q0 => absurd rfl q0⟩)⟩⟩
  · rw [i5.stop (plF_z (by omega))] at h; exact h
  · rw [i5.done (v := v7) (by omega) (fun k => ((cif_t (by omega)).trans (cif_t ft)).trans (cif_t (by omega)))] at h; exact h
end PL1
theorem st_find (t p q : Int) : JSt (IV X) 3072 G X 128 206 [(0, t), (0, p), (0, q)] := mk_obs fun n M T K P D C H A hX => by
  by_cases hv : (0 ≤ t ∧ t < T.1) ∧ (0 ≤ p ∧ p < T.1)
  · obtain ⟨ht, hp⟩ := hv
    refine ⟨plF (T.2.1 t) (T.2.2 t) (T.2.1 p) (T.2.2 p) (-1) 0 q 300 0 0, fun Q hQ => ?_, fun M1 Q R hQ => ?_⟩
    · have W := C.1
      refine rn_X11_find _ _ _ _ M (sg_X11_find_0 _ _ _ _ M ?_)
      repeat' first | rw [wa_1200 W] | (refine c_lkT C A hX ht ?_) | (refine c_lkT C A hX hp ?_) | (refine c_placeOf (c_tf C A ht) (c_tf C A hp) (by decide) ?_) | apply And.intro | intro _ | exact wt | exact wa_t W | exact w_shelf_t W | assumption | exact Or.inl rfl | exact Or.inr rfl | rfl | omega | (unfold jR; omega)
    · have W := R.1
      have wt := w_model_t W
      refine rn_X12_find _ _ _ _ M1 (sg_X12_find_0 _ _ _ _ M1 ?_)
      repeat' first | rw [wa_1200 W] | (refine r_isT R A ht ?_) | (refine r_isT R A hp ?_) | (refine r_place R A ht hp (by decide) ?_) | apply And.intro | intro _ | exact wt | exact wa_t W | exact w_shelf_t W | assumption | exact Or.inl rfl | exact Or.inr rfl | rfl | omega | (unfold jR; omega)
  · refine ⟨-2, fun Q hQ => ?_, fun M1 Q R hQ => ?_⟩
    · have W := C.1
      refine rn_X11_find _ _ _ _ M (sg_X11_find_0 _ _ _ _ M ?_)
      by_cases ht : 0 ≤ t ∧ t < T.1
      · by_cases hs : 0 ≤ p ∧ p < T.1
        · exact absurd ⟨ht, hs⟩ hv
        · repeat' first | rw [wa_1200 W] | (refine c_lkT C A hX ht ?_) | (refine c_lkF C A hX hs ?_) | apply And.intro | intro _ | exact wt | exact wa_t W | exact w_shelf_t W | assumption | exact Or.inl rfl | exact Or.inr rfl | rfl | omega | (unfold jR; omega)
      · by_cases hs : 0 ≤ p ∧ p < T.1
        · repeat' first | rw [wa_1200 W] | (refine c_lkF C A hX ht ?_) | (refine c_lkT C A hX hs ?_) | apply And.intro | intro _ | exact wt | exact wa_t W | exact w_shelf_t W | assumption | exact Or.inl rfl | exact Or.inr rfl | rfl | omega | (unfold jR; omega)
        · repeat' first | rw [wa_1200 W] | (refine c_lkF C A hX ht ?_) | (refine c_lkF C A hX hs ?_) | apply And.intro | intro _ | exact wt | exact wa_t W | exact w_shelf_t W | assumption | exact Or.inl rfl | exact Or.inr rfl | rfl | omega | (unfold jR; omega)
    · have W := R.1
      have wt := w_model_t W
      refine rn_X12_find _ _ _ _ M1 (sg_X12_find_0 _ _ _ _ M1 ?_)
      by_cases ht : 0 ≤ t ∧ t < T.1
      · by_cases hs : 0 ≤ p ∧ p < T.1
        · exact absurd ⟨ht, hs⟩ hv
        · repeat' first | rw [wa_1200 W] | (refine r_isT R A ht ?_) | (refine r_isF R A hs ?_) | apply And.intro | intro _ | exact wt | exact wa_t W | exact w_shelf_t W | assumption | exact Or.inl rfl | exact Or.inr rfl | rfl | omega | (unfold jR; omega)
      · repeat' first | rw [wa_1200 W] | (refine r_isF R A ht ?_) | apply And.intro | intro _ | exact wt | exact wa_t W | exact w_shelf_t W | assumption | exact Or.inl rfl | exact Or.inr rfl | rfl | omega | (unfold jR; omega)
end PLACE
