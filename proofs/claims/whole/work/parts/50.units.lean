/-! steps: units, point -/
section UNITS
variable {G : JG} {X : Int}
theorem st_units (t m w : Int) : JSt (IV X) 3072 G X 109 179 [(0, t), (0, m), (2, w)] := mk_stp fun n M T K P D C H A hX hn0 hn => by
  by_cases hv : (0 ≤ t ∧ t < T.1) ∧ 1 ≤ m ∧ m ≤ 4
  · obtain ⟨ht, hm⟩ := hv
    obtain ⟨u1, u2, u3⟩ := A.1.2.2 t ht.1 ht.2
    have a2 := A.1.2.1
    by_cases hr : T.2.1 t + m ≤ 240
    · obtain ⟨F, hF⟩ : ∃ F : Int → Int, F = fun i => if i < T.2.1 t then T.2.2 t i else uw w (m - 1 - (i - T.2.1 t)) := ⟨_, rfl⟩
      have F1 : ∀ i, i < T.2.1 t → F i = T.2.2 t i := fun i h => by rw [hF]; exact if_pos h
      have F2 : ∀ k, k ≤ m - 1 → F (T.2.1 t + (m - 1 - k)) = uw w k := fun k h => by
        rw [hF]
        dsimp only
        rw [if_neg (by omega), show m - 1 - (T.2.1 t + (m - 1 - k) - T.2.1 t) = k by omega]
      have sm : Same T (atx T t (T.2.1 t + (m - 1 - (m - 1))) F) := same_atx (by omega) (fun i i0 i1 => F1 i (by omega))
      refine mk_yes (r := T.2.1 t + m) (T' := atx T t (T.2.1 t + m) F) (K' := kpush K t 0 (T.2.1 t) (T.2.2 t)) ⟨hn0, hn⟩ (fun Q hQ => ?_) (fun M1 Q R hQ => ?_)
      · have W := C.1
        obtain ⟨TT, e1, e2, e3, e4, e5, e6, e7, e8⟩ := c_txt C A ht
        refine lp_X11_units (fun v3 v5 v6 N => w = v3 ∧ X + (4 + 2 * t) = v5 ∧ -1 ≤ v6 ∧ v6 ≤ m - 1 ∧ FrC X M N ∧ CB X (n + 1) N (atx T t (T.2.1 t + (m - 1 - v6)) F) (kpush K t 0 (T.2.1 t) (T.2.2 t)) P D ∧ AI (atx T t (T.2.1 t + (m - 1 - v6)) F) (kpush K t 0 (T.2.1 t) (T.2.2 t)) P D ∧ Stale X N ∧ N 1212 X 0 = M 1212 X 0 ∧ N 1213 X 0 = M 1213 X 0) (fun _ _ v6 => (v6 + 1).toNat) ?_ _ _ _ _ M ?_
        · rintro v3 v5 v6 N ⟨rfl, rfl, i1, i2, i3, i4, i5, i6, i7, i8⟩
          obtain ⟨-, x1, -, -, x4, -⟩ := c_txt i4 i5 (t := t) ht
          rw [atx_n] at x1
          rw [x1]
          refine ⟨fun q => ⟨x4, ?_⟩, fun q => ⟨by unfold jR; omega, x4, ?_⟩⟩
          · have : v6 = -1 := by omega
            subst this
            rw [show T.2.1 t + (m - 1 - -1) = T.2.1 t + m by omega] at i4 i5 ⊢
            exact hQ N i5 i3 i4 i6 i7 i8
          · refine c_putF i4 i5 ht (by omega) (F2 v6 i2).symm (by rw [F2 v6 i2]; exact uw_r w v6) (fun M2 co c2 A2 _ => ⟨by unfold jR; omega, ⟨rfl, rfl, by omega, by omega, i3.trans (co.FrC ht.1 (by omega)), ?_, ?_, co.stale i4.2.2.2.2.2.2 ht.1 (by omega) i6, (co _ _ _ (by omega) (by omega)).trans i7, (co _ _ _ (by omega) (by omega)).trans i8⟩, by omega⟩)
            · rw [show T.2.1 t + (m - 1 - (v6 + -1)) = T.2.1 t + (m - 1 - v6) + 1 by omega]; exact c2
            · rw [show T.2.1 t + (m - 1 - (v6 + -1)) = T.2.1 t + (m - 1 - v6) + 1 by omega]; exact A2
        · rw [wa_1200 W]
          refine ⟨wa_t W, w_shelf_t W, c_lkT C A hX ht (fun _ => ⟨fun q => absurd q (by omega), fun _ => ⟨fun q => absurd q (by omega), fun _ => ⟨fun _ => ⟨e4, c_room TT (fun _ => ⟨fun _ => ⟨wa_t W, by rw [wa_1200 W]; exact w_shelf_t W, ?_⟩, fun q => absurd (by omega) q⟩)⟩, fun q => absurd hm.2 q⟩⟩⟩)⟩
          rw [wa_1200 W]
          exact c_keepA C H A hX (by omega) ht (fun M2 o fr c2 A2 st q1 q2 _ => ⟨by unfold jR; omega, ⟨rfl, rfl, by omega, by omega, fr, sm.CB c2, sm.AI A2, st, q1, q2⟩⟩)
      · have W := R.1
        have wt := w_model_t W
        obtain ⟨z1, z2, z3, z4, z5⟩ := r_txt R A ht
        have AK2 := A.2.1.push (t := t) (b := 0) (l := T.2.1 t) (u := T.2.2 t) (q := T.1) ⟨A.1.1, Or.inr ⟨rfl, ht.1, ht.2, rfl, ⟨u1, u2, u3⟩⟩⟩
        refine lp_X12_units (fun v0 v1 v3 v5 N => X + 218 = v0 ∧ t = v1 ∧ w = v3 ∧ -1 ≤ v5 ∧ v5 ≤ m - 1 ∧ FrR X M1 N ∧ RI X N (atx T t (T.2.1 t + (m - 1 - v5)) F) (kpush K t 0 (T.2.1 t) (T.2.2 t)) P D ∧ AI (atx T t (T.2.1 t + (m - 1 - v5)) F) (kpush K t 0 (T.2.1 t) (T.2.2 t)) P D) (fun _ _ _ v5 => (v5 + 1).toNat) ?_ _ _ _ _ M1 ?_
        · rintro v0 v1 v3 v5 N ⟨rfl, rfl, rfl, i1, i2, i3, i4, i5⟩
          have WN := i4.1
          refine ⟨fun q => ⟨w_model_t WN, ?_⟩, fun q => ⟨by unfold jR; omega, w_model_t WN, ?_⟩⟩
          · have : v5 = -1 := by omega
            subst this
            rw [show T.2.1 t + (m - 1 - -1) = T.2.1 t + m by omega] at i4 i5
            obtain ⟨y1, -, y3, -, -⟩ := r_txt i4 i5 (t := t) ht
            rw [atx_n] at y1
            rw [w_model_1301 WN, w_m1301_t WN, w_m1301_n WN, y1]
            exact ⟨⟨rfl, ht.1, by omega⟩, hQ N i3 i4⟩
          · rw [uw_ref (by omega) (by omega)]
            refine r_putF i4 i5 ht (by omega) (F2 v5 i2).symm (by rw [F2 v5 i2]; exact uw_r w v5) (fun M2 x2 r2 A2 _ => ⟨by unfold jR; omega, ⟨rfl, rfl, rfl, by omega, by omega, i3.trans x2.FrR, ?_, ?_⟩, by omega⟩)
            · rw [show T.2.1 t + (m - 1 - (v5 + -1)) = T.2.1 t + (m - 1 - v5) + 1 by omega]; exact r2
            · rw [show T.2.1 t + (m - 1 - (v5 + -1)) = T.2.1 t + (m - 1 - v5) + 1 by omega]; exact A2
        · refine ⟨wt, r_isT R A ht (fun _ => ⟨fun q => absurd q (by decide), fun _ => r_in (fun _ _ _ => ⟨fun _ => ⟨wt, ?_⟩, fun q => absurd (by decide) q⟩) (fun q => absurd hm q)⟩)⟩
          rw [w_model_1301 W, w_m1301_t W, w_m1301_n W, z1]
          exact ⟨⟨rfl, ht.1, by omega⟩, by unfold jR; omega, fun _ => ⟨wt, r_keepA R A ht.1 (by omega) (Or.inr ⟨rfl, ht.2, rfl⟩) (fun M2 k2 r2 _ => ⟨by unfold jR; omega, ⟨rfl, rfl, rfl, by omega, by omega, k2.FrR, sm.RI r2, sm.AI ⟨A.1, AK2, A.2.2⟩⟩⟩)⟩, fun q => absurd hr q⟩
    · refine mk_no (r := -3) C H A ⟨hn0, hn⟩ (fun Q hQ => ?_) (fun M1 Q R hQ => ?_)
      · have W := C.1
        obtain ⟨TT, e1, e2, e3, e4, e5, e6, e7, e8⟩ := c_txt C A ht
        refine lp_X11_units (fun _ _ _ _ => False) (fun _ _ _ => 0) (fun _ _ _ _ q => q.elim) _ _ _ _ M ?_
        repeat' first | rw [wa_1200 W] | (refine c_lkT C A hX ht ?_) | (refine c_room TT ?_) | apply And.intro | intro _ | exact wt | exact wa_t W | exact w_shelf_t W | assumption | exact Or.inl rfl | exact Or.inr rfl | rfl | omega | (unfold jR; omega)
      · have W := R.1
        have wt := w_model_t W
        obtain ⟨z1, z2, z3, z4, z5⟩ := r_txt R A ht
        refine lp_X12_units (fun _ _ _ _ _ => False) (fun _ _ _ _ => 0) (fun _ _ _ _ _ q => q.elim) _ _ _ _ M1 ?_
        repeat' first | rw [wa_1200 W] | (refine r_isT R A ht ?_) | (refine r_in ?_ ?_) | (rw [w_model_1301 W]) | (rw [w_m1301_n W]) | exact w_m1301_t W | (rw [z1]) | apply And.intro | intro _ | exact wt | exact wa_t W | exact w_shelf_t W | assumption | exact Or.inl rfl | exact Or.inr rfl | rfl | omega | (unfold jR; omega)
  · refine mk_no (r := -2) C H A ⟨hn0, hn⟩ (fun Q hQ => ?_) (fun M1 Q R hQ => ?_)
    · have W := C.1
      refine lp_X11_units (fun _ _ _ _ => False) (fun _ _ _ => 0) (fun _ _ _ _ q => q.elim) _ _ _ _ M ?_
      by_cases ht : 0 ≤ t ∧ t < T.1
      · obtain ⟨TT, e1, e2, e3, e4, e5, e6, e7, e8⟩ := c_txt C A ht
        repeat' first | rw [wa_1200 W] | (refine c_lkT C A hX ht ?_) | apply And.intro | intro _ | exact wt | exact wa_t W | exact w_shelf_t W | assumption | exact Or.inl rfl | exact Or.inr rfl | rfl | omega | (unfold jR; omega)
      · repeat' first | rw [wa_1200 W] | (refine c_lkF C A hX ht ?_) | apply And.intro | intro _ | exact wt | exact wa_t W | exact w_shelf_t W | assumption | exact Or.inl rfl | exact Or.inr rfl | rfl | omega | (unfold jR; omega)
    · have W := R.1
      have wt := w_model_t W
      refine lp_X12_units (fun _ _ _ _ _ => False) (fun _ _ _ _ => 0) (fun _ _ _ _ _ q => q.elim) _ _ _ _ M1 ?_
      by_cases ht : 0 ≤ t ∧ t < T.1
      · repeat' first | rw [wa_1200 W] | (refine r_isT R A ht ?_) | (refine r_in ?_ ?_) | apply And.intro | intro _ | exact wt | exact wa_t W | exact w_shelf_t W | assumption | exact Or.inl rfl | exact Or.inr rfl | rfl | omega | (unfold jR; omega)
      · repeat' first | rw [wa_1200 W] | (refine r_isF R A ht ?_) | apply And.intro | intro _ | exact wt | exact wa_t W | exact w_shelf_t W | assumption | exact Or.inl rfl | exact Or.inr rfl | rfl | omega | (unfold jR; omega)
theorem st_point (t p : Int) : JSt (IV X) 3072 G X 110 180 [(0, t), (0, p)] := mk_stp fun n M T K P D C H A hX hn0 hn => by
  by_cases hv : (0 ≤ t ∧ t < T.1) ∧ 0 ≤ p ∧ p ≤ 1114111
  · obtain ⟨ht, hp⟩ := hv
    obtain ⟨u1, u2, u3⟩ := A.1.2.2 t ht.1 ht.2
    have a2 := A.1.2.1
    obtain ⟨m, hm⟩ : ∃ m : Int, m = if p ≤ 65535 then 1 else 2 := ⟨_, rfl⟩
    have hm2 : (p ≤ 65535 ∧ m = 1) ∨ (65535 < p ∧ m = 2) := by
      by_cases q : p ≤ 65535
      · rw [if_pos q] at hm; exact Or.inl ⟨q, hm⟩
      · rw [if_neg q] at hm; exact Or.inr ⟨by omega, hm⟩
    by_cases hr : T.2.1 t + m ≤ 240
    · obtain ⟨F, hF⟩ : ∃ F : Int → Int, F = fun i => if i < T.2.1 t then T.2.2 t i else if i = T.2.1 t then (if p ≤ 65535 then p else 55296 + (p - 65536) / 1024) else 56320 + (p - 65536) % 1024 := ⟨_, rfl⟩
      have F1 : ∀ i, i < T.2.1 t → F i = T.2.2 t i := fun i h => by rw [hF]; exact if_pos h
      have F2 : p ≤ 65535 → F (T.2.1 t) = p := fun h => by rw [hF]; dsimp only; rw [if_neg (by omega), if_pos rfl, if_pos h]
      have F3 : 65535 < p → F (T.2.1 t) = 55296 + (p - 65536) / 1024 := fun h => by rw [hF]; dsimp only; rw [if_neg (by omega), if_pos rfl, if_neg (by omega)]
      have F4 : F (T.2.1 t + 1) = 56320 + (p - 65536) % 1024 := by rw [hF]; dsimp only; rw [if_neg (by omega), if_neg (by omega)]
      have sm : Same T (atx T t (T.2.1 t) F) := same_atx rfl (fun i i0 i1 => F1 i i1)
      refine mk_yes (r := T.2.1 t + m) (T' := atx T t (T.2.1 t + m) F) (K' := kpush K t 0 (T.2.1 t) (T.2.2 t)) ⟨hn0, hn⟩ (fun Q hQ => ?_) (fun M1 Q R hQ => ?_)
      · have W := C.1
        obtain ⟨TT, e1, e2, e3, e4, e5, e6, e7, e8⟩ := c_txt C A ht
        have fin : ∀ M2, FrC X M M2 → CB X (n + 1) M2 T (kpush K t 0 (T.2.1 t) (T.2.2 t)) P D → AI T (kpush K t 0 (T.2.1 t) (T.2.2 t)) P D → Stale X M2 → M2 1212 X 0 = M 1212 X 0 → M2 1213 X 0 = M 1213 X 0 → M2 0 (X + (4 + 2 * t)) 0 = 19 ∧ Runs G 89 0 0 [(1, X + (4 + 2 * t)), (0, p)] M2 (fun _ M4 => jokM M4 → M4 0 (X + (4 + 2 * t)) 0 = 19 ∧ Q (M4 2901 (X + (4 + 2 * t)) 0) M4) := fun M2 fr c2 A2 st q1 q2 => by
          have c3 := sm.CB c2
          have A3 := sm.AI A2
          obtain ⟨-, -, -, -, x4, -⟩ := c_txt c3 A3 (t := t) ht
          have up : ∀ k M3, k = T.2.1 t + m → Cof X t M2 M3 → CB X (n + 1) M3 (atx T t k F) (kpush K t 0 (T.2.1 t) (T.2.2 t)) P D → AI (atx T t k F) (kpush K t 0 (T.2.1 t) (T.2.2 t)) P D → M3 0 (X + (4 + 2 * t)) 0 = 19 ∧ Q (M3 2901 (X + (4 + 2 * t)) 0) M3 := fun k M3 hk co c5 A5 => by
            subst hk
            obtain ⟨-, x1, -, -, x4, -⟩ := c_txt c5 A5 (t := t) ht
            rw [atx_n] at x1
            rw [x1]
            exact ⟨x4, hQ M3 A5 (fr.trans (co.FrC ht.1 (by omega))) c5 (co.stale c2.2.2.2.2.2.2 ht.1 (by omega) st) ((co _ _ _ (by omega) (by omega)).trans q1) ((co _ _ _ (by omega) (by omega)).trans q2)⟩
          refine ⟨x4, rn_X9_putPoint _ _ M2 (sg_X9_putPoint_0 _ _ M2 ⟨fun q => ?_, fun q => ⟨x4, c_putF c3 A3 ht (by omega) (F2 (by omega)).symm (by rw [F2 (by omega)]; omega) (fun M3 co c5 A5 _ => ?_)⟩⟩)⟩
          · rw [jshr_10 (by omega) (by unfold jR; omega), jand_1023]
            refine ⟨by unfold jR; omega, by unfold jR; omega, x4, c_putF c3 A3 ht (by omega) (F3 q).symm (by rw [F3 q]; omega) (fun M3 co c5 A5 _ => ?_)⟩
            obtain ⟨-, -, -, -, y4, -⟩ := c_txt c5 A5 (t := t) ht
            refine ⟨by unfold jR; omega, y4, c_putF c5 A5 ht (by omega) F4.symm (by rw [F4]; omega) (fun M4 co2 c6 A6 _ => ?_)⟩
            exact fun _ => up _ M4 (by omega) (co.trans co2) c6 A6
          · exact fun _ => up _ M3 (by omega) co c5 A5
        refine rn_X11_point _ _ _ M (sg_X11_point_0 _ _ _ M ?_)
        rw [wa_1200 W]
        refine ⟨wa_t W, w_shelf_t W, c_lkT C A hX ht (fun _ => ⟨fun q => absurd q (by omega), fun _ => ⟨fun q => absurd q (by omega), fun _ => ⟨fun _ => ⟨e4, c_room TT (fun _ => ⟨fun q0 => ⟨fun _ => ⟨wa_t W, by rw [wa_1200 W]; exact w_shelf_t W, ?_⟩, fun q => absurd (by omega) q⟩, fun q0 => ⟨fun _ => ⟨wa_t W, by rw [wa_1200 W]; exact w_shelf_t W, ?_⟩, fun q => absurd (by omega) q⟩⟩)⟩, fun q => absurd hp.2 q⟩⟩⟩)⟩
        · rw [wa_1200 W]
          exact c_keepA C H A hX (by omega) ht (fun M2 o fr c2 A2 st q1 q2 _ => fin M2 fr c2 A2 st q1 q2)
        · rw [wa_1200 W]
          exact c_keepA C H A hX (by omega) ht (fun M2 o fr c2 A2 st q1 q2 _ => fin M2 fr c2 A2 st q1 q2)
      · have W := R.1
        have wt := w_model_t W
        obtain ⟨z1, z2, z3, z4, z5⟩ := r_txt R A ht
        have AK2 := A.2.1.push (t := t) (b := 0) (l := T.2.1 t) (u := T.2.2 t) (q := T.1) ⟨A.1.1, Or.inr ⟨rfl, ht.1, ht.2, rfl, ⟨u1, u2, u3⟩⟩⟩
        have up : ∀ k M3, k = T.2.1 t + m → FrR X M1 M3 → RI X M3 (atx T t k F) (kpush K t 0 (T.2.1 t) (T.2.2 t)) P D → AI (atx T t k F) (kpush K t 0 (T.2.1 t) (T.2.2 t)) P D → M3 0 (X + 218) 0 = 22 ∧ (M3 0 (M3 1301 (X + 218) 0) 0 = 1 ∧ 0 ≤ t ∧ t < M3 1 (M3 1301 (X + 218) 0) 0) ∧ Q (M3 2 (M3 1301 (X + 218) 0) t) M3 := fun k M3 hk fr r3 A3 => by
          subst hk
          have W3 := r3.1
          obtain ⟨y1, -, y3, -, -⟩ := r_txt r3 A3 (t := t) ht
          rw [atx_n] at y1
          rw [w_model_1301 W3, w_m1301_t W3, w_m1301_n W3, y1]
          exact ⟨w_model_t W3, ⟨rfl, ht.1, by omega⟩, hQ M3 fr r3⟩
        refine rn_X12_point _ _ _ M1 (sg_X12_point_0 _ _ _ M1 ⟨wt, r_isT R A ht (fun _ => ⟨fun q => absurd q (by decide), fun _ => r_in (fun _ _ _ => ⟨fun _ => ⟨fun q0 => ⟨wt, ?_⟩, fun q0 => ⟨wt, ?_⟩⟩, fun q => absurd (by decide) q⟩) (fun q => absurd hp q)⟩)⟩)
        · rw [w_model_1301 W, w_m1301_t W, w_m1301_n W, z1]
          refine ⟨⟨rfl, ht.1, by omega⟩, by unfold jR; omega, fun _ => ⟨wt, r_keepA R A ht.1 (by omega) (Or.inr ⟨rfl, ht.2, rfl⟩) (fun M2 k2 r2 _ => ⟨fun _ => ⟨w_model_t r2.1, r_putF (sm.RI r2) (sm.AI ⟨A.1, AK2, A.2.2⟩) ht (by omega) (F2 q0).symm (by rw [F2 q0]; omega) (fun M3 x3 r3 A3 _ => up _ M3 (by omega) (k2.FrR.trans x3.FrR) r3 A3)⟩, fun q => absurd (by decide) q⟩)⟩, fun q => absurd (by omega) q⟩
        · rw [w_model_1301 W, w_m1301_t W, w_m1301_n W, z1]
          refine ⟨⟨rfl, ht.1, by omega⟩, by unfold jR; omega, fun _ => ⟨wt, r_keepA R A ht.1 (by omega) (Or.inr ⟨rfl, ht.2, rfl⟩) (fun M2 k2 r2 _ => ⟨fun q => absurd rfl q, fun _ => ?_⟩)⟩, fun q => absurd (by omega) q⟩
          rw [jshr_10 (by omega) (by unfold jR; omega), jand_1023]
          refine ⟨by unfold jR; omega, by unfold jR; omega, w_model_t r2.1, r_putF (sm.RI r2) (sm.AI ⟨A.1, AK2, A.2.2⟩) ht (by omega) (F3 (by omega)).symm (by rw [F3 (by omega)]; omega) (fun M3 x3 r3 A3 _ => ⟨by unfold jR; omega, by unfold jR; omega, w_model_t r3.1, r_putF r3 A3 ht (by omega) F4.symm (by rw [F4]; omega) (fun M4 x4 r4 A4 _ => up _ M4 (by omega) ((k2.FrR.trans x3.FrR).trans x4.FrR) r4 A4)⟩)⟩
    · refine mk_no (r := -3) C H A ⟨hn0, hn⟩ (fun Q hQ => ?_) (fun M1 Q R hQ => ?_)
      · have W := C.1
        obtain ⟨TT, e1, e2, e3, e4, e5, e6, e7, e8⟩ := c_txt C A ht
        refine rn_X11_point _ _ _ M (sg_X11_point_0 _ _ _ M ?_)
        repeat' first | rw [wa_1200 W] | (refine c_lkT C A hX ht ?_) | (refine c_room TT ?_) | apply And.intro | intro _ | exact wt | exact wa_t W | exact w_shelf_t W | assumption | exact Or.inl rfl | exact Or.inr rfl | rfl | omega | (unfold jR; omega)
      · have W := R.1
        have wt := w_model_t W
        obtain ⟨z1, z2, z3, z4, z5⟩ := r_txt R A ht
        refine rn_X12_point _ _ _ M1 (sg_X12_point_0 _ _ _ M1 ?_)
        repeat' first | rw [wa_1200 W] | (refine r_isT R A ht ?_) | (refine r_in ?_ ?_) | (rw [w_model_1301 W]) | (rw [w_m1301_n W]) | exact w_m1301_t W | (rw [z1]) | apply And.intro | intro _ | exact wt | exact wa_t W | exact w_shelf_t W | assumption | exact Or.inl rfl | exact Or.inr rfl | rfl | omega | (unfold jR; omega)
  · refine mk_no (r := -2) C H A ⟨hn0, hn⟩ (fun Q hQ => ?_) (fun M1 Q R hQ => ?_)
    · have W := C.1
      refine rn_X11_point _ _ _ M (sg_X11_point_0 _ _ _ M ?_)
      by_cases ht : 0 ≤ t ∧ t < T.1
      · obtain ⟨TT, e1, e2, e3, e4, e5, e6, e7, e8⟩ := c_txt C A ht
        repeat' first | rw [wa_1200 W] | (refine c_lkT C A hX ht ?_) | apply And.intro | intro _ | exact wt | exact wa_t W | exact w_shelf_t W | assumption | exact Or.inl rfl | exact Or.inr rfl | rfl | omega | (unfold jR; omega)
      · repeat' first | rw [wa_1200 W] | (refine c_lkF C A hX ht ?_) | apply And.intro | intro _ | exact wt | exact wa_t W | exact w_shelf_t W | assumption | exact Or.inl rfl | exact Or.inr rfl | rfl | omega | (unfold jR; omega)
    · have W := R.1
      have wt := w_model_t W
      refine rn_X12_point _ _ _ M1 (sg_X12_point_0 _ _ _ M1 ?_)
      by_cases ht : 0 ≤ t ∧ t < T.1
      · repeat' first | rw [wa_1200 W] | (refine r_isT R A ht ?_) | (refine r_in ?_ ?_) | apply And.intro | intro _ | exact wt | exact wa_t W | exact w_shelf_t W | assumption | exact Or.inl rfl | exact Or.inr rfl | rfl | omega | (unfold jR; omega)
      · repeat' first | rw [wa_1200 W] | (refine r_isF R A ht ?_) | apply And.intro | intro _ | exact wt | exact wa_t W | exact w_shelf_t W | assumption | exact Or.inl rfl | exact Or.inr rfl | rfl | omega | (unfold jR; omega)
end UNITS
