/-! step: matches -/
theorem cntI_none {p : Int → Prop} {m : Int} (h0 : 0 ≤ m) : cntI p m ≤ 0 ↔ ∀ k, 0 ≤ k → k < m → ¬ p k := by
  constructor
  · intro h k k0 k1 q
    have a := cntI_mono (p := p) (n := k + 1) (m := m) (by omega) (by omega)
    rw [cntI_t k0 q] at a
    have b := (cntI_r (p := p) k0).1
    omega
  · intro h
    have e : cntI p m = cntI (fun _ => False) m := cntI_c fun i i0 i1 => ⟨fun q => h i i0 i1 q, fun q => q.elim⟩
    have z : cntI (fun _ => False) m = 0 := by
      unfold cntI
      exact (smI_c (h := fun _ => 0) (fun i _ _ => b01_f (fun q => q))).trans smI_0
    omega
/-- pattern q stands at i -/
def occ (n : Int) (f : Int → Int) (P : ATx) (i q : Int) : Prop := i + P.2.1 q ≤ n ∧ ∀ k, 0 ≤ k → k < P.2.1 q → f (i + k) = P.2.2 q k
noncomputable def pif (p : Prop) (a b : List TR) : List TR := @ite (List TR) p (Classical.propDecidable p) a b
theorem pif_t {p : Prop} {a b : List TR} (h : p) : pif p a b = a := by unfold pif; exact if_pos h
theorem pif_f {p : Prop} {a b : List TR} (h : ¬ p) : pif p a b = b := by unfold pif; exact if_neg h
/-- matches at place i of the first patterns; at all first places -/
noncomputable def mrow (n : Int) (f : Int → Int) (P : ATx) (i : Int) : Nat → List TR
  | 0 => []
  | q + 1 => mrow n f P i q ++ pif (occ n f P i q) [(i, (q : Int), 0)] []
noncomputable def mall (n : Int) (f : Int → Int) (P : ATx) : Nat → List TR
  | 0 => []
  | i + 1 => mall n f P i ++ mrow n f P i P.1.toNat
theorem mrow_len {n : Int} {f : Int → Int} {P : ATx} {i : Int} : ∀ q, (mrow n f P i q).length ≤ q
  | 0 => Nat.le_refl 0
  | q + 1 => by
    have ih := @mrow_len n f P i q
    show (mrow n f P i q ++ pif (occ n f P i q) [(i, (q : Int), 0)] []).length ≤ q + 1
    rw [List.length_append]
    rcases Classical.em (occ n f P i q) with g | g
    · rw [pif_t g]; show _ + 1 ≤ _; omega
    · rw [pif_f g]; show _ + 0 ≤ _; omega
theorem mall_len {n : Int} {f : Int → Int} {P : ATx} (hP : P.1 ≤ 16) : ∀ i, (mall n f P i).length ≤ 16 * i
  | 0 => Nat.le_refl 0
  | i + 1 => by
    have ih := @mall_len n f P hP i
    have r := @mrow_len n f P i P.1.toNat
    show (mall n f P i ++ mrow n f P i P.1.toNat).length ≤ 16 * (i + 1)
    rw [List.length_append]
    omega
theorem mrow_s {n : Int} {f : Int → Int} {P : ATx} {i q : Int} (h : 0 ≤ q) : mrow n f P i (q + 1).toNat = mrow n f P i q.toNat ++ pif (occ n f P i q) [(i, q, 0)] [] := by
  obtain ⟨k, rfl⟩ := Int.eq_ofNat_of_zero_le h
  rw [show ((k : Int) + 1).toNat = k + 1 by omega, show ((k : Int)).toNat = k by omega]
  rfl
theorem mall_s {n : Int} {f : Int → Int} {P : ATx} {i : Int} (h : 0 ≤ i) : mall n f P (i + 1).toNat = mall n f P i.toNat ++ mrow n f P i P.1.toNat := by
  obtain ⟨k, rfl⟩ := Int.eq_ofNat_of_zero_le h
  rw [show ((k : Int) + 1).toNat = k + 1 by omega, show ((k : Int)).toNat = k by omega]
  rfl
section MATCH
variable {G : JG} {X : Int}
theorem c_pf {n q : Int} {M : JM} {T : ATx} {K : AKp} {P : ATx} {D : ADt} (C : CB X n M T K P D) (A : AI T K P D) (hq : 0 ≤ q ∧ q < P.1) : Txf M (X + (167 + 2 * q)) (P.2.1 q) (P.2.2 q) ∧ M 3 (X + 165) q = X + (167 + 2 * q) := by
  obtain ⟨p1, p2, p3⟩ := A.2.2.1
  obtain ⟨b1, b2, -⟩ := p3 q hq.1 hq.2
  obtain ⟨w1, w2, w3, w4, w5⟩ := w_pat C.1 hq.1 (show q < 16 by omega)
  obtain ⟨d1, d2⟩ := C.2.2.2.2.1.2 q hq.1 hq.2
  exact ⟨⟨w2, d1, ⟨by omega, by omega⟩, by rw [w3]; exact w4, by rw [w3, w5]; omega, fun i i0 i1 => by rw [w3]; exact d2 i i0 i1⟩, w1⟩
/-- fits, asked of a pattern, is occ -/
theorem fit_occ {n m q i : Int} {f : Int → Int} {P : ATx} (hf : AU n f) (hq : 0 ≤ P.2.1 q) (hr : ∀ k, 0 ≤ k → k < P.2.1 q → 0 ≤ P.2.2 q k) (hi : 0 ≤ i) : (0 ≤ i ∧ i + P.2.1 q ≤ n ∧ Fits f (P.2.1 q) (P.2.2 q) i (-1) 0) ↔ occ n f P i q := by
  unfold Fits occ
  rw [cntI_none hq]
  unfold msm
  constructor
  · rintro ⟨h0, h1, h2⟩
    refine ⟨h1, fun k k0 k1 => ?_⟩
    have := hr k k0 k1
    have b := (hf.2.2 (i + k) (by omega) (by omega)).1
    have := h2 k k0 k1
    rcases Classical.em (f (i + k) = P.2.2 q k) with g | g
    · exact g
    · exact absurd ⟨g, by omega, by omega⟩ this
  · rintro ⟨h1, h2⟩
    exact ⟨hi, h1, fun k k0 k1 z => z.1 (h2 k k0 k1)⟩
theorem r_occurs {t i q : Int} {M : JM} {Q : Int → JM → Prop} {T : ATx} {K : AKp} {P : ATx} {D : ADt} (R : RI X M T K P D) (A : AI T K P D) (ht : 0 ≤ t ∧ t < T.1) (hi : 0 ≤ i ∧ i ≤ T.2.1 t) (hq : 0 ≤ q ∧ q < P.1) (h1 : occ (T.2.1 t) (T.2.2 t) P i q → Q 1 M) (h0 : ¬ occ (T.2.1 t) (T.2.2 t) P i q → Q 0 M) : Runs G 211 0 0 [(1, X + 218), (0, t), (0, i), (0, q)] M Q := by
  have W := R.1
  have wt := w_model_t W
  obtain ⟨z1, z2, z3, z4, z5⟩ := r_txt R A ht
  obtain ⟨p1, p2, p3⟩ := A.2.2.1
  obtain ⟨b1, b2, -⟩ := p3 q hq.1 hq.2
  obtain ⟨d1, d2⟩ := R.2.2.2.1.2 q hq.1 hq.2
  refine lp_X12_occurs (fun v0 v1 v2 v3 v4 N => M = N ∧ X + 218 = v0 ∧ t = v1 ∧ i = v2 ∧ q = v3 ∧ i + P.2.1 q ≤ T.2.1 t ∧ 0 ≤ v4 ∧ v4 ≤ P.2.1 q ∧ ∀ k, 0 ≤ k → k < v4 → T.2.2 t (i + k) = P.2.2 q k) (fun _ _ _ _ v4 => (1000 - v4).toNat) ?_ _ _ _ _ M ?_
  · rintro v0 v1 v2 v3 v4 N ⟨rfl, rfl, rfl, rfl, rfl, i1, i2, i3, i4⟩
    rw [w_model_1311 W, w_m1311_t W, w_m1311_n W, d1]
    refine ⟨wt, ⟨rfl, hq.1, by omega⟩, fun g => ⟨Or.inr rfl, h1 ⟨i1, fun k k0 k1 => i4 k k0 (by omega)⟩⟩, fun g => ⟨by unfold jR; omega, wt, r_un R A ht (by omega) (by omega) (fun _ => ?_)⟩⟩
    rw [w_model_1312 W, w_m1312_t W, w_m1312_n W, d2 v4 i2 (by omega)]
    refine ⟨wt, by unfold jR; omega, by unfold jR; omega, ⟨rfl, by omega, by omega⟩, fun e => ⟨by unfold jR; omega, ⟨rfl, rfl, rfl, rfl, rfl, i1, by omega, by omega, fun k k0 k1 => ?_⟩, by omega⟩, fun e => ⟨Or.inl rfl, h0 (fun z => e (z.2 v4 i2 (by omega)))⟩⟩
    by_cases hk : k = v4
    · rw [hk]; exact e
    · exact i4 k k0 (by omega)
  · rw [w_model_1311 W, w_m1311_t W, w_m1311_n W, d1, w_model_1301 W, w_m1301_t W, w_m1301_n W, z1]
    exact ⟨wt, ⟨rfl, hq.1, by omega⟩, by unfold jR; omega, wt, ⟨rfl, ht.1, z3⟩, fun g => ⟨rfl, rfl, rfl, rfl, rfl, g, by omega, by omega, fun k k0 k1 => by omega⟩, fun g => ⟨Or.inl rfl, h0 (fun z => g z.1)⟩⟩
theorem AD.put {D : ADt} {i : Nat} {l : List TR} (A : AD D) (h5 : i ≠ 5) (h6 : i ≠ 6) : AD (dset D i l) := by
  have e5 : (dset D i l).1 5 = D.1 5 := if_neg (fun q => h5 q.symm)
  have e6 : (dset D i l).1 6 = D.1 6 := if_neg (fun q => h6 q.symm)
  unfold AD
  rw [e5, e6]
  exact A
set_option maxHeartbeats 1000000 in
theorem st_matches (t : Int) : JSt (IV X) 3072 G X 133 212 [(0, t)] := mk_stp fun n M T K P D C H A hX hn0 hn => by
  by_cases ht : 0 ≤ t ∧ t < T.1
  · have At := A.1.2.2 t ht.1 ht.2
    obtain ⟨u1, u2, u3⟩ := id At
    obtain ⟨p1, p2, p3⟩ := A.2.2.1
    obtain ⟨L, hL⟩ : ∃ L, L = mall (T.2.1 t) (T.2.2 t) P (T.2.1 t).toNat := ⟨_, rfl⟩
    have lm : ∀ i q : Int, 0 ≤ i → 0 ≤ q → ((mall (T.2.1 t) (T.2.2 t) P i.toNat ++ mrow (T.2.1 t) (T.2.2 t) P i q.toNat).length : Int) ≤ 16 * i + q := fun i q i0 q0 => by
      have a := @mall_len (T.2.1 t) (T.2.2 t) P p2 i.toNat
      have b := @mrow_len (T.2.1 t) (T.2.2 t) P i q.toNat
      rw [List.length_append]; omega
    have A' : AI T K P (dset D 0 L) := ⟨A.1, A.2.1, A.2.2.1, A.2.2.2.put (by decide) (by decide)⟩
    refine mk_gen (r := L.length) (T' := T) (K' := K) (P' := P) (D' := dset D 0 L) (fun Q hQ => ?_) (fun M1 Q R hQ => ?_)
    · have W := C.1
      obtain ⟨TT, e1, e2, e3, e4, e5, e6, e7, e8⟩ := c_txt C A ht
      have base : ∀ N l, Tof (X + 208) (X + 209) M N → TdL N (X + 208) (X + 209) 2 3840 l → CB X n N T K P (dset D 0 l) ∧ AI T K P (dset D 0 l) := fun N l o td => ⟨C.tl A (o.tl (by omega) (by omega)) (C.2.2.2.2.2.1.put0 o td), A.1, A.2.1, A.2.2.1, A.2.2.2.put (by decide) (by decide)⟩
      have main : Runs G 12 0 0 [(1, X + 164), (1, X + (4 + 2 * t)), (1, X + 208)] M (fun _ M2 => jokM M2 → M2 0 X 0 = 21 ∧ M2 0 (M2 1207 X 0) 0 = 20 ∧ Q (M2 3003 (M2 1207 X 0) 0) M2) := by
        refine lp_X2_tellMatches (fun v0 v1 v2 v3 N => X + 164 = v0 ∧ X + (4 + 2 * t) = v1 ∧ X + 208 = v2 ∧ 0 ≤ v3 ∧ v3 ≤ T.2.1 t ∧ Tof (X + 208) (X + 209) M N ∧ TdL N (X + 208) (X + 209) 2 3840 (mall (T.2.1 t) (T.2.2 t) P v3.toNat)) (fun _ _ _ v3 => ((1000 - v3) * 1000).toNat) (fun v0 v1 v2 v3 v4 N => X + 164 = v0 ∧ X + (4 + 2 * t) = v1 ∧ X + 208 = v2 ∧ 0 ≤ v3 ∧ v3 < T.2.1 t ∧ 0 ≤ v4 ∧ v4 ≤ P.1 ∧ Tof (X + 208) (X + 209) M N ∧ TdL N (X + 208) (X + 209) 2 3840 (mall (T.2.1 t) (T.2.2 t) P v3.toNat ++ mrow (T.2.1 t) (T.2.2 t) P v3 v4.toNat)) (fun _ _ _ v3 v4 => ((1000 - v3) * 1000 - 1 - v4).toNat) ?_ ?_ _ _ _ M ?_
        · rintro v0 v1 v2 v3 N ⟨rfl, rfl, rfl, i1, i2, i3, i4⟩
          obtain ⟨c1, a1⟩ := base N _ i3 i4
          obtain ⟨-, x1, -, -, x4, -⟩ := c_txt c1 a1 ht
          rw [x1]
          refine ⟨x4, fun q _ => ?_, fun q => ⟨⟨rfl, rfl, rfl, i1, by omega, by omega, by omega, i3, ?_⟩, by omega⟩⟩
          · have : v3 = T.2.1 t := by omega
            subst this
            rw [← hL] at i4 c1
            have W1 := c1.1
            rw [wa_1207 W1, i4.2.2.1.1]
            exact ⟨wa_t W1, w_tmatches_t W1, hQ N A' (FrC.tl (i3.tl (by omega) (by omega))) (c1.mono (by omega) (by omega)) (H.tl C.2.2.2.2.2.2 (i3.tl (by omega) (by omega))) (i3 _ _ _ (by omega) (by omega)) (i3 _ _ _ (by omega) (by omega))⟩
          · rw [show mrow (T.2.1 t) (T.2.2 t) P v3 (0 : Int).toNat = [] from rfl, List.append_nil]; exact i4
        · rintro v0 v1 v2 v3 v4 N ⟨rfl, rfl, rfl, i1, i2, i3, i4, i5, i6⟩
          obtain ⟨c1, a1⟩ := base N _ i5 i6
          have W1 := c1.1
          rw [c1.2.2.2.2.1.1.1, w_patterns_300 W1]
          refine ⟨w_patterns_t W1, fun q => ⟨by unfold jR; omega, ⟨rfl, rfl, rfl, by omega, by omega, i5, ?_⟩, by omega⟩, fun q => ?_⟩
          · have : v4 = P.1 := by omega
            subst this
            rw [mall_s i1]; exact i6
          · obtain ⟨pf, pe⟩ := c_pf c1 a1 (q := v4) ⟨i3, by omega⟩
            obtain ⟨b1, b2, b3⟩ := p3 v4 i3 (by omega)
            have iff := fit_occ (n := T.2.1 t) (m := 0) (q := v4) (i := v3) (f := T.2.2 t) (P := P) At (by omega) (fun k k0 k1 => (b3 k k0 k1).1) i1
            rw [pe]
            refine ⟨w_patterns_t W1, ⟨Or.inl (w_pkept_t W1), i3, by rw [w_pkept_n W1]; omega⟩, c_fits (c_tf c1 a1 ht) pf (by omega) (by decide) (fun g1 g2 g3 _ => ⟨fun q => absurd q (by decide), fun _ => ⟨w_tmatches_t W1, c_add i6 (by have := lm v3 v4 i1 i3; omega) (fun M2 o2 t2 _ => ⟨by unfold jR; omega, ⟨rfl, rfl, rfl, i1, i2, by omega, by omega, i5.trans o2, ?_⟩, by omega⟩)⟩⟩) (fun g _ => ⟨fun _ => ⟨by unfold jR; omega, ⟨rfl, rfl, rfl, i1, i2, by omega, by omega, i5, ?_⟩, by omega⟩, fun q => absurd rfl q⟩)⟩
            · rw [mrow_s i3, pif_t (iff.mp ⟨g1, g2, g3⟩), ← List.append_assoc]; exact t2
            · rw [mrow_s i3, pif_f (fun z => g (iff.mpr z)), List.append_nil]; exact i6
        · exact ⟨w_tmatches_t W, c_clear C.2.2.2.2.2.1.1 (fun M2 o2 t2 _ => ⟨rfl, rfl, rfl, by omega, by omega, o2, t2⟩)⟩
      refine rn_X11_matches _ _ M (sg_X11_matches_0 _ _ M ?_)
      rw [wa_1200 W]
      refine ⟨wa_t W, w_shelf_t W, c_lkT C A hX ht (fun _ => ⟨fun q => absurd q (by omega), fun _ => ⟨wa_t W, wa_t W, by rw [wa_1204 W]; exact w_patterns_t W, ?_⟩⟩)⟩
      rw [wa_1204 W, wa_1207 W]
      exact main
    · have W := R.1
      have wt := w_model_t W
      obtain ⟨z1, z2, z3, z4, z5⟩ := r_txt R A ht
      have base : ∀ N l, Rof0 X M1 N → RD2 X N 3213 229 230 l → RI X N T K P (dset D 0 l) ∧ AI T K P (dset D 0 l) := fun N l o rd => ⟨R.tl o.tl (R.2.2.2.2.put0 o rd), A.1, A.2.1, A.2.2.1, A.2.2.2.put (by decide) (by decide)⟩
      refine lp_X12_matches (fun v0 v1 v2 N => X + 218 = v0 ∧ t = v1 ∧ 0 ≤ v2 ∧ v2 ≤ T.2.1 t ∧ Rof0 X M1 N ∧ RD2 X N 3213 229 230 (mall (T.2.1 t) (T.2.2 t) P v2.toNat)) (fun _ _ v2 => ((1000 - v2) * 1000).toNat) (fun v0 v1 v2 v3 N => X + 218 = v0 ∧ t = v1 ∧ 0 ≤ v2 ∧ v2 < T.2.1 t ∧ 0 ≤ v3 ∧ v3 ≤ P.1 ∧ Rof0 X M1 N ∧ RD2 X N 3213 229 230 (mall (T.2.1 t) (T.2.2 t) P v2.toNat ++ mrow (T.2.1 t) (T.2.2 t) P v2 v3.toNat)) (fun _ _ v2 v3 => ((1000 - v2) * 1000 - 1 - v3).toNat) ?_ ?_ _ _ M1 ?_
      · rintro v0 v1 v2 N ⟨rfl, rfl, i1, i2, i3, i4⟩
        obtain ⟨r1, a1⟩ := base N _ i3 i4
        have W1 := r1.1
        obtain ⟨y1, -⟩ := r_txt r1 a1 ht
        rw [w_model_1301 W1, w_m1301_t W1, w_m1301_n W1, y1]
        refine ⟨w_model_t W1, ⟨rfl, ht.1, z3⟩, fun q => ⟨w_model_t W1, ?_⟩, fun q => ⟨⟨rfl, rfl, i1, by omega, by omega, by omega, i3, ?_⟩, by omega⟩⟩
        · have : v2 = T.2.1 t := by omega
          subst this
          rw [← hL] at i4 r1
          rw [i4.1]
          exact hQ N (FrR.tl i3.tl) r1
        · rw [show mrow (T.2.1 t) (T.2.2 t) P v2 (0 : Int).toNat = [] from rfl, List.append_nil]; exact i4
      · rintro v0 v1 v2 v3 N ⟨rfl, rfl, i1, i2, i3, i4, i5, i6⟩
        obtain ⟨r1, a1⟩ := base N _ i5 i6
        have W1 := r1.1
        have wn := w_model_t W1
        rw [r1.2.2.2.1.1]
        refine ⟨wn, fun q => ⟨by unfold jR; omega, ⟨rfl, rfl, by omega, by omega, i5, ?_⟩, by omega⟩, fun q => ⟨wn, r_occurs r1 a1 ht ⟨i1, by omega⟩ ⟨i3, by omega⟩ (fun g _ => ⟨fun q => absurd q (by decide), fun _ => ?_⟩) (fun g _ => ⟨fun _ => ⟨by unfold jR; omega, ⟨rfl, rfl, i1, i2, by omega, by omega, i5, ?_⟩, by omega⟩, fun q => absurd rfl q⟩)⟩⟩
        · have : v3 = P.1 := by omega
          subst this
          rw [mall_s i1]; exact i6
        · have hl := lm v2 v3 i1 i3
          have en := i6.1
          rw [w_model_1314 W1, w_m1314_t W1, w_m1314_n W1, w_model_1315 W1, w_m1315_t W1, w_m1315_n W1, en]
          refine ⟨wn, wn, ⟨rfl, by omega, by omega⟩, wn, wn, ⟨rfl, by omega, by omega⟩, wn, by unfold jR; omega, wn, by unfold jR; omega, ⟨rfl, rfl, i1, i2, by omega, by omega, i5.trans (fun k a j q1 q2 => ?_), ?_⟩, by omega⟩
          · rw [show jset (jset (jset N 2 (X + 229) _ v2) 2 (X + 230) _ v3) 3213 (X + 218) 0 _ k a j = _ from if_neg (by omega), show jset (jset N 2 (X + 229) _ v2) 2 (X + 230) _ v3 k a j = _ from if_neg (by omega)]
            exact if_neg (by omega)
          · rw [mrow_s i3, pif_t g, ← List.append_assoc]
            exact i6.app (by decide) (by decide)
        · rw [mrow_s i3, pif_f g, List.append_nil]; exact i6
      · refine ⟨wt, r_isT R A ht (fun _ => ⟨fun _ => ⟨wt, ⟨rfl, rfl, by omega, by omega, fun k a j q1 q2 => if_neg (by omega), ⟨jset_s, fun k k0 k1 => by have k1 : k < ((0 : Nat) : Int) := k1; omega⟩⟩⟩, fun q => absurd (by decide) q⟩)⟩
  · refine mk_no (r := -2) C H A ⟨hn0, hn⟩ (fun Q hQ => ?_) (fun M1 Q R hQ => ?_)
    · have W := C.1
      refine rn_X11_matches _ _ M (sg_X11_matches_0 _ _ M ?_)
      repeat' first | rw [wa_1200 W] | (refine c_lkF C A hX ht ?_) | apply And.intro | intro _ | exact wt | exact wa_t W | exact w_shelf_t W | assumption | exact Or.inl rfl | exact Or.inr rfl | rfl | omega | (unfold jR; omega)
    · have W := R.1
      have wt := w_model_t W
      refine lp_X12_matches (fun _ _ _ _ => False) (fun _ _ _ => 0) (fun _ _ _ _ _ => False) (fun _ _ _ _ => 0) (fun _ _ _ _ g => g.elim) (fun _ _ _ _ _ g => g.elim) _ _ M1 ?_
      repeat' first | rw [wa_1200 W] | (refine r_isF R A ht ?_) | apply And.intro | intro _ | exact wt | exact wa_t W | exact w_shelf_t W | assumption | exact Or.inl rfl | exact Or.inr rfl | rfl | omega | (unfold jR; omega)
end MATCH
