/-! steps: append, reversed, point -/
section CHG2
variable {G : JG} {X : Int}
theorem st_append (t s f e : Int) : JSt (IV X) 3072 G X 112 182 [(0, t), (0, s), (0, f), (0, e)] := mk_stp fun n M T K P D C H A hX hn0 hn => by
  by_cases hv : (0 ≤ t ∧ t < T.1) ∧ (0 ≤ s ∧ s < T.1) ∧ 0 ≤ f ∧ f ≤ e ∧ e ≤ T.2.1 s
  · obtain ⟨ht, hs, f0, f1, f2⟩ := hv
    obtain ⟨u1, u2, u3⟩ := A.1.2.2 t ht.1 ht.2
    obtain ⟨w1, w2, w3⟩ := A.1.2.2 s hs.1 hs.2
    by_cases hm : T.2.1 t + (e - f) ≤ 240
    · refine mk_yes (r := T.2.1 t + (e - f)) (T' := atx T t (T.2.1 t + (e - f)) (fun i => if i < T.2.1 t then T.2.2 t i else T.2.2 s (f + (i - T.2.1 t)))) (K' := kpush K t 0 (T.2.1 t) (T.2.2 t)) ⟨hn0, hn⟩ (fun Q hQ => ?_) (fun M1 Q R hQ => ?_)
      · have W := C.1
        have a2 := A.1.2.1
        obtain ⟨TT, e1, e2, e3, e4, e5, e6, e7, e8⟩ := c_txt C A ht
        obtain ⟨SS, p1, p2, p3, p4, p5, p6, p7, p8⟩ := c_txt C A hs
        refine rn_X11_append _ _ _ _ _ M (sg_X11_append_0 _ _ _ _ _ M ?_)
        rw [wa_1200 W]
        refine ⟨wa_t W, w_shelf_t W, c_lkT C A hX ht (fun _ => ⟨wa_t W, by rw [wa_1200 W]; exact w_shelf_t W, ?_⟩)⟩
        rw [wa_1200 W]
        refine c_lkT C A hX hs (fun _ => ⟨fun q => absurd q (by omega), fun _ => ⟨fun q => absurd q (by omega), fun _ => ⟨p4, c_hasPart SS (fun _ _ _ _ => ⟨fun _ => ⟨e4, c_room TT (fun _ => ⟨by unfold jR; omega, fun _ => ⟨wa_t W, by rw [wa_1200 W]; exact w_shelf_t W, ?_⟩, fun q => absurd (by omega) q⟩)⟩, fun q => absurd (by decide) q⟩) (fun q => absurd ⟨f0, f1, by omega⟩ q)⟩⟩⟩)
        rw [wa_1200 W]
        refine c_keepA C H A hX (by omega) ht (fun M2 o fr c2 A2 st q1 q2 _ => ?_)
        obtain ⟨TT2, z1, z2, z3, z4, z5, z6, z7, z8⟩ := c_txt c2 A2 ht
        obtain ⟨SS2, y1, y2, y3, y4, y5, y6, y7, y8⟩ := c_txt c2 A2 hs
        refine ⟨z4, c_ppA (g := T.2.2 s) c2 A2 ht SS2 (fun i i0 i1 => by rw [y2]; exact y3 i i0 (by omega)) (fun i i0 i1 => w3 i (by omega) (by omega)) f0 f1 (by omega) hm (fun M3 co c3 A3 _ => ?_)⟩
        obtain ⟨-, x1, -, -, x4, -⟩ := c_txt c3 A3 (t := t) ht
        rw [atx_n] at x1
        rw [x1]
        exact ⟨x4, hQ M3 A3 (fr.trans (co.FrC ht.1 (by omega))) c3 (co.stale c2.2.2.2.2.2.2 ht.1 (by omega) st) ((co _ _ _ (by omega) (by omega)).trans q1) ((co _ _ _ (by omega) (by omega)).trans q2)⟩
      · have W := R.1
        have wt := w_model_t W
        obtain ⟨z1, z2, z3, z4, z5⟩ := r_txt R A ht
        have AK2 := A.2.1.push (t := t) (b := 0) (l := T.2.1 t) (u := T.2.2 t) (q := T.1) ⟨A.1.1, Or.inr ⟨rfl, ht.1, ht.2, rfl, ⟨u1, u2, u3⟩⟩⟩
        refine lp_X12_append (fun v0 v1 v2 v4 v5 N => X + 218 = v0 ∧ t = v1 ∧ s = v2 ∧ e = v4 ∧ f ≤ v5 ∧ v5 ≤ e ∧ FrR X M1 N ∧ RI X N (atx T t (T.2.1 t + (v5 - f)) (fun i => if i < T.2.1 t then T.2.2 t i else T.2.2 s (f + (i - T.2.1 t)))) (kpush K t 0 (T.2.1 t) (T.2.2 t)) P D ∧ AI (atx T t (T.2.1 t + (v5 - f)) (fun i => if i < T.2.1 t then T.2.2 t i else T.2.2 s (f + (i - T.2.1 t)))) (kpush K t 0 (T.2.1 t) (T.2.2 t)) P D) (fun _ _ _ _ v5 => (1000 - v5).toNat) ?_ _ _ _ _ _ M1 ?_
        · rintro v0 v1 v2 v4 v5 N ⟨rfl, rfl, rfl, rfl, i1, i2, i3, i4, i5⟩
          have WN := i4.1
          refine ⟨fun q => ⟨w_model_t WN, ?_⟩, fun q => ⟨w_model_t WN, ?_⟩⟩
          · have : v5 = e := by omega
            subst this
            obtain ⟨y1, -, y3, -, -⟩ := r_txt i4 i5 (t := t) ht
            rw [atx_n] at y1
            rw [w_model_1301 WN, w_m1301_t WN, w_m1301_n WN, y1]
            exact ⟨⟨rfl, ht.1, by omega⟩, hQ N i3 i4⟩
          · have ev : (atx T t (T.2.1 t + (v5 - f)) (fun i => if i < T.2.1 t then T.2.2 t i else T.2.2 s (f + (i - T.2.1 t)))).2.2 s v5 = T.2.2 s v5 ∧ v5 < (atx T t (T.2.1 t + (v5 - f)) (fun i => if i < T.2.1 t then T.2.2 t i else T.2.2 s (f + (i - T.2.1 t)))).2.1 s := by
              by_cases h2 : s = t
              · subst h2
                rw [atx_f, atx_n]
                exact ⟨if_pos (by omega), by omega⟩
              · rw [atx_of h2, atx_on h2]
                exact ⟨rfl, by omega⟩
            refine r_un i4 i5 (t := s) hs (by omega) ev.2 (fun _ => ⟨w_model_t WN, ?_⟩)
            rw [ev.1]
            have hw := w3 v5 (by omega) (by omega)
            have hF : (fun i => if i < T.2.1 t then T.2.2 t i else T.2.2 s (f + (i - T.2.1 t))) (T.2.1 t + (v5 - f)) = T.2.2 s v5 := by
              dsimp only
              rw [if_neg (by omega), show f + (T.2.1 t + (v5 - f) - T.2.1 t) = v5 by omega]
            refine r_putF i4 i5 ht (by omega) hF.symm (by have h5 := hF; dsimp only at h5; rw [h5]; exact hw) (fun M2 x2 r2 a2 _ => ⟨by unfold jR; omega, ⟨rfl, rfl, rfl, rfl, by omega, by omega, i3.trans x2.FrR, ?_, ?_⟩, by omega⟩)
            · rw [show T.2.1 t + (v5 + 1 - f) = T.2.1 t + (v5 - f) + 1 by omega]; exact r2
            · rw [show T.2.1 t + (v5 + 1 - f) = T.2.1 t + (v5 - f) + 1 by omega]; exact a2
        · refine ⟨wt, r_isT R A ht (fun _ => ⟨fun q => absurd q (by decide), fun _ => ⟨wt, r_isPart R.1 R.2.1 A.1 (fun _ _ _ _ _ _ => ⟨fun _ => ⟨wt, ?_⟩, fun q => absurd (by decide) q⟩) (fun q => absurd ⟨hs.1, hs.2, f0, f1, f2⟩ q)⟩⟩)⟩
          rw [w_model_1301 W, w_m1301_t W, w_m1301_n W, z1]
          refine ⟨⟨rfl, ht.1, by omega⟩, by unfold jR; omega, by unfold jR; omega, fun _ => ⟨wt, r_keepA R A ht.1 (by omega) (Or.inr ⟨rfl, ht.2, rfl⟩) (fun M2 k2 r2 _ => ?_)⟩, fun q => absurd (by omega) q⟩
          have sm : Same T (atx T t (T.2.1 t + (f - f)) (fun i => if i < T.2.1 t then T.2.2 t i else T.2.2 s (f + (i - T.2.1 t)))) := same_atx (by omega) (fun i i0 i1 => if_pos (by omega))
          exact ⟨rfl, rfl, rfl, rfl, by omega, by omega, k2.FrR, sm.RI r2, sm.AI ⟨A.1, AK2, A.2.2⟩⟩
    · refine mk_no (r := -3) C H A ⟨hn0, hn⟩ (fun Q hQ => ?_) (fun M1 Q R hQ => ?_)
      · have W := C.1
        obtain ⟨TT, e1, e2, e3, e4, e5, e6, e7, e8⟩ := c_txt C A ht
        obtain ⟨SS, p1, p2, p3, p4, p5, p6, p7, p8⟩ := c_txt C A hs
        refine rn_X11_append _ _ _ _ _ M (sg_X11_append_0 _ _ _ _ _ M ?_)
        repeat' first | rw [wa_1200 W] | (refine c_lkT C A hX ht ?_) | (refine c_lkT C A hX hs ?_) | (refine c_hasPart SS ?_ ?_) | (refine c_room TT ?_) | apply And.intro | intro _ | exact wt | exact wa_t W | exact w_shelf_t W | assumption | exact Or.inl rfl | exact Or.inr rfl | rfl | omega | (unfold jR; omega)
      · have W := R.1
        have wt := w_model_t W
        obtain ⟨z1, z2, z3, z4, z5⟩ := r_txt R A ht
        refine lp_X12_append (fun _ _ _ _ _ _ => False) (fun _ _ _ _ _ => 0) (fun _ _ _ _ _ _ q => q.elim) _ _ _ _ _ M1 ?_
        repeat' first | rw [wa_1200 W] | (refine r_isT R A ht ?_) | (refine r_isPart R.1 R.2.1 A.1 ?_ ?_) | (rw [w_model_1301 W]) | (rw [w_m1301_n W]) | exact w_m1301_t W | (rw [z1]) | apply And.intro | intro _ | exact wt | exact wa_t W | exact w_shelf_t W | assumption | exact Or.inl rfl | exact Or.inr rfl | rfl | omega | (unfold jR; omega)
  · refine mk_no (r := -2) C H A ⟨hn0, hn⟩ (fun Q hQ => ?_) (fun M1 Q R hQ => ?_)
    · have W := C.1
      refine rn_X11_append _ _ _ _ _ M (sg_X11_append_0 _ _ _ _ _ M ?_)
      by_cases ht : 0 ≤ t ∧ t < T.1
      · by_cases hs : 0 ≤ s ∧ s < T.1
        · obtain ⟨SS, p1, p2, p3, p4, p5, p6, p7, p8⟩ := c_txt C A hs
          repeat' first | rw [wa_1200 W] | (refine c_lkT C A hX ht ?_) | (refine c_lkT C A hX hs ?_) | (refine c_hasPart SS ?_ ?_) | apply And.intro | intro _ | exact wt | exact wa_t W | exact w_shelf_t W | assumption | exact Or.inl rfl | exact Or.inr rfl | rfl | omega | (unfold jR; omega)
        · repeat' first | rw [wa_1200 W] | (refine c_lkT C A hX ht ?_) | (refine c_lkF C A hX hs ?_) | apply And.intro | intro _ | exact wt | exact wa_t W | exact w_shelf_t W | assumption | exact Or.inl rfl | exact Or.inr rfl | rfl | omega | (unfold jR; omega)
      · by_cases hs : 0 ≤ s ∧ s < T.1
        · repeat' first | rw [wa_1200 W] | (refine c_lkF C A hX ht ?_) | (refine c_lkT C A hX hs ?_) | apply And.intro | intro _ | exact wt | exact wa_t W | exact w_shelf_t W | assumption | exact Or.inl rfl | exact Or.inr rfl | rfl | omega | (unfold jR; omega)
        · repeat' first | rw [wa_1200 W] | (refine c_lkF C A hX ht ?_) | (refine c_lkF C A hX hs ?_) | apply And.intro | intro _ | exact wt | exact wa_t W | exact w_shelf_t W | assumption | exact Or.inl rfl | exact Or.inr rfl | rfl | omega | (unfold jR; omega)
    · have W := R.1
      have wt := w_model_t W
      refine lp_X12_append (fun _ _ _ _ _ _ => False) (fun _ _ _ _ _ => 0) (fun _ _ _ _ _ _ q => q.elim) _ _ _ _ _ M1 ?_
      by_cases ht : 0 ≤ t ∧ t < T.1
      · repeat' first | rw [wa_1200 W] | (refine r_isT R A ht ?_) | (refine r_isPart R.1 R.2.1 A.1 ?_ ?_) | apply And.intro | intro _ | exact wt | exact wa_t W | exact w_shelf_t W | assumption | exact Or.inl rfl | exact Or.inr rfl | rfl | omega | (unfold jR; omega)
      · repeat' first | rw [wa_1200 W] | (refine r_isF R A ht ?_) | apply And.intro | intro _ | exact wt | exact wa_t W | exact w_shelf_t W | assumption | exact Or.inl rfl | exact Or.inr rfl | rfl | omega | (unfold jR; omega)
theorem st_reversed (t : Int) : JSt (IV X) 3072 G X 113 183 [(0, t)] := mk_stp fun n M T K P D C H A hX hn0 hn => by
  by_cases ht : 0 ≤ t ∧ t < T.1
  · obtain ⟨u1, u2, u3⟩ := A.1.2.2 t ht.1 ht.2
    have a1 := A.1.1
    have a2 := A.1.2.1
    have hne : t ≠ T.1 := by omega
    by_cases hm : T.1 < 40
    · have hM : 0 ≤ T.1 ∧ T.1 < (aopen T).1 := ⟨a1, by show T.1 < T.1 + 1; omega⟩
      have hT : 0 ≤ t ∧ t < (aopen T).1 := ⟨ht.1, by show t < T.1 + 1; omega⟩
      have on : ∀ k, (atx (aopen T) T.1 k (fun i => T.2.2 t (T.2.1 t - 1 - i))).2.1 t = T.2.1 t := fun k => by
        rw [atx_on hne]; exact if_neg hne
      have of : ∀ k, (atx (aopen T) T.1 k (fun i => T.2.2 t (T.2.1 t - 1 - i))).2.2 t = T.2.2 t := fun k => by
        rw [atx_of hne]; rfl
      have sm : Same (aopen T) (atx (aopen T) T.1 0 (fun i => T.2.2 t (T.2.1 t - 1 - i))) := same_atx (by show 0 = if T.1 = T.1 then 0 else _; rw [if_pos rfl]) (fun i i0 i1 => by omega)
      refine mk_yes (r := T.1) (T' := atx (aopen T) T.1 (T.2.1 t) (fun i => T.2.2 t (T.2.1 t - 1 - i))) (K' := kpush K T.1 1 0 (T.2.2 T.1)) ⟨hn0, hn⟩ (fun Q hQ => ?_) (fun M1 Q R hQ => ?_)
      · have W := C.1
        obtain ⟨TT, e1, e2, e3, e4, e5, e6, e7, e8⟩ := c_txt C A ht
        refine lp_X11_reversed (fun v0 v2 v3 v4 N => X = v0 ∧ X + (4 + 2 * t) = v2 ∧ X + (4 + 2 * T.1) = v3 ∧ -1 ≤ v4 ∧ v4 < T.2.1 t ∧ FrC X M N ∧ CB X (n + 1) N (atx (aopen T) T.1 (T.2.1 t - 1 - v4) (fun i => T.2.2 t (T.2.1 t - 1 - i))) (kpush K T.1 1 0 (T.2.2 T.1)) P D ∧ AI (atx (aopen T) T.1 (T.2.1 t - 1 - v4) (fun i => T.2.2 t (T.2.1 t - 1 - i))) (kpush K T.1 1 0 (T.2.2 T.1)) P D ∧ Stale X N ∧ N 1212 X 0 = M 1212 X 0 ∧ N 1213 X 0 = M 1213 X 0) (fun _ _ _ v4 => (v4 + 1).toNat) ?_ _ _ M ?_
        · rintro v0 v2 v3 v4 N ⟨rfl, rfl, rfl, i1, i2, i3, i4, i5, i6, i7, i8⟩
          have WN := i4.1
          refine ⟨fun q => ?_, fun q => ?_⟩
          · have : v4 = -1 := by omega
            subst this
            rw [show T.2.1 t - 1 - -1 = T.2.1 t by omega] at i4 i5
            have em := i4.2.1.1
            have b2 := i5.1.2.1
            rw [wa_1200 WN]
            refine ⟨wa_t WN, w_shelf_t WN, c_newest WN (by rw [em]; exact ⟨by show 0 ≤ T.1 + 1; omega, b2⟩) (fun _ => ?_)⟩
            rw [em, show (atx (aopen T) T.1 (T.2.1 t) (fun i => T.2.2 t (T.2.1 t - 1 - i))).1 - 1 = T.1 by show T.1 + 1 - 1 = T.1; omega]
            exact hQ N i5 i3 i4 i6 i7 i8
          · obtain ⟨-, y1, y2, y3, y4, y5, y6, -, -⟩ := c_txt i4 i5 (t := t) hT
            obtain ⟨-, -, -, -, x4, -⟩ := c_txt i4 i5 (t := T.1) hM
            rw [on] at y1 y3
            rw [of] at y3
            rw [y2]
            refine ⟨y4, ⟨y5, by omega, by omega⟩, x4, c_putF i4 i5 hM (by omega) (by rw [y3 v4 (by omega) i2]; show T.2.2 t v4 = T.2.2 t (T.2.1 t - 1 - (T.2.1 t - 1 - v4)); rw [show T.2.1 t - 1 - (T.2.1 t - 1 - v4) = v4 by omega]) (u3 _ (by omega) (by omega)) (fun M2 co c2 A2 _ => ⟨by unfold jR; omega, ⟨rfl, rfl, rfl, by omega, by omega, i3.trans (co.FrC a1 hm), ?_, ?_, co.stale i4.2.2.2.2.2.2 a1 hm i6, (co _ _ _ (by omega) (by omega)).trans i7, (co _ _ _ (by omega) (by omega)).trans i8⟩, by omega⟩)⟩
            · rw [show T.2.1 t - 1 - (v4 + -1) = T.2.1 t - 1 - v4 + 1 by omega]; exact c2
            · rw [show T.2.1 t - 1 - (v4 + -1) = T.2.1 t - 1 - v4 + 1 by omega]; exact A2
        · rw [wa_1200 W]
          refine ⟨wa_t W, w_shelf_t W, c_lkT C A hX ht (fun _ => ⟨fun q => absurd q (by omega), fun _ => ⟨wa_t W, by rw [wa_1200 W]; exact w_shelf_t W, ?_⟩⟩)⟩
          rw [wa_1200 W]
          refine c_openA C H A hX (by omega) hm (fun M2 o fr c2 A2 st q1 q2 _ => ⟨fun q => absurd q (by omega), fun _ => ?_⟩)
          obtain ⟨-, y1, -, -, y4, -⟩ := c_txt c2 A2 (t := t) hT
          rw [show (aopen T).2.1 t = T.2.1 t from if_neg hne] at y1
          rw [y1]
          refine ⟨y4, by unfold jR; omega, ⟨rfl, rfl, rfl, by omega, by omega, fr, ?_, ?_, st, q1, q2⟩⟩
          · rw [show T.2.1 t - 1 - (T.2.1 t - 1) = 0 by omega]; exact sm.CB c2
          · rw [show T.2.1 t - 1 - (T.2.1 t - 1) = 0 by omega]; exact sm.AI A2
      · have W := R.1
        have wt := w_model_t W
        have em := R.2.1.1
        refine lp_X12_reversed (fun v0 v1 v2 v3 N => X + 218 = v0 ∧ t = v1 ∧ T.1 = v2 ∧ -1 ≤ v3 ∧ v3 < T.2.1 t ∧ FrR X M1 N ∧ RI X N (atx (aopen T) T.1 (T.2.1 t - 1 - v3) (fun i => T.2.2 t (T.2.1 t - 1 - i))) (kpush K T.1 1 0 (T.2.2 T.1)) P D ∧ AI (atx (aopen T) T.1 (T.2.1 t - 1 - v3) (fun i => T.2.2 t (T.2.1 t - 1 - i))) (kpush K T.1 1 0 (T.2.2 T.1)) P D) (fun _ _ _ v3 => (v3 + 1).toNat) ?_ _ _ M1 ?_
        · rintro v0 v1 v2 v3 N ⟨rfl, rfl, rfl, i1, i2, i3, i4, i5⟩
          refine ⟨fun q => ?_, fun q => ⟨w_model_t i4.1, ?_⟩⟩
          · have : v3 = -1 := by omega
            subst this
            rw [show T.2.1 t - 1 - -1 = T.2.1 t by omega] at i4
            exact hQ N i3 i4
          · refine r_un i4 i5 (t := t) hT (by omega) (by rw [on]; omega) (fun _ => ⟨w_model_t i4.1, ?_⟩)
            rw [of]
            refine r_putF i4 i5 hM (by omega) (by show T.2.2 t v3 = T.2.2 t (T.2.1 t - 1 - (T.2.1 t - 1 - v3)); rw [show T.2.1 t - 1 - (T.2.1 t - 1 - v3) = v3 by omega]) (u3 _ (by omega) (by omega)) (fun M2 x2 r2 A2 _ => ⟨by unfold jR; omega, ⟨rfl, rfl, rfl, by omega, by omega, i3.trans x2.FrR, ?_, ?_⟩, by omega⟩)
            · rw [show T.2.1 t - 1 - (v3 + -1) = T.2.1 t - 1 - v3 + 1 by omega]; exact r2
            · rw [show T.2.1 t - 1 - (v3 + -1) = T.2.1 t - 1 - v3 + 1 by omega]; exact A2
        · refine ⟨wt, r_isT R A ht (fun _ => ⟨fun _ => ⟨wt, fun _ => ⟨wt, r_newText R A hm (fun M2 f2 r2 A2 _ => ?_)⟩, fun q => absurd (by omega) q⟩, fun q => absurd (by decide) q⟩)⟩
          obtain ⟨y1, -, y3, -, -⟩ := r_txt r2 A2 (t := t) hT
          have W2 := r2.1
          rw [w_model_1301 W2, w_m1301_t W2, w_m1301_n W2, y1, show (aopen T).2.1 t = T.2.1 t from if_neg hne]
          refine ⟨w_model_t W2, ⟨rfl, ht.1, by omega⟩, by unfold jR; omega, ⟨rfl, rfl, rfl, by omega, by omega, f2, ?_, ?_⟩⟩
          · rw [show T.2.1 t - 1 - (T.2.1 t - 1) = 0 by omega]; exact sm.RI r2
          · rw [show T.2.1 t - 1 - (T.2.1 t - 1) = 0 by omega]; exact sm.AI A2
    · refine mk_no (r := -3) C H A ⟨hn0, hn⟩ (fun Q hQ => ?_) (fun M1 Q R hQ => ?_)
      · have W := C.1
        have em := C.2.1.1
        refine lp_X11_reversed (fun _ _ _ _ _ => False) (fun _ _ _ _ => 0) (fun _ _ _ _ _ q => q.elim) _ _ M ?_
        repeat' first | rw [wa_1200 W] | (refine c_lkT C A hX ht ?_) | (refine c_open W (C.sh A) ?_ ?_) | apply And.intro | intro _ | exact wt | exact wa_t W | exact w_shelf_t W | assumption | exact Or.inl rfl | exact Or.inr rfl | rfl | omega | (unfold jR; omega)
      · have W := R.1
        have wt := w_model_t W
        have em := R.2.1.1
        refine lp_X12_reversed (fun _ _ _ _ _ => False) (fun _ _ _ _ => 0) (fun _ _ _ _ _ q => q.elim) _ _ M1 ?_
        repeat' first | rw [wa_1200 W] | (refine r_isT R A ht ?_) | apply And.intro | intro _ | exact wt | exact wa_t W | exact w_shelf_t W | assumption | exact Or.inl rfl | exact Or.inr rfl | rfl | omega | (unfold jR; omega)
  · refine mk_no (r := -2) C H A ⟨hn0, hn⟩ (fun Q hQ => ?_) (fun M1 Q R hQ => ?_)
    · have W := C.1
      refine lp_X11_reversed (fun _ _ _ _ _ => False) (fun _ _ _ _ => 0) (fun _ _ _ _ _ q => q.elim) _ _ M ?_
      repeat' first | rw [wa_1200 W] | (refine c_lkF C A hX ht ?_) | apply And.intro | intro _ | exact wt | exact wa_t W | exact w_shelf_t W | assumption | exact Or.inl rfl | exact Or.inr rfl | rfl | omega | (unfold jR; omega)
    · have W := R.1
      have wt := w_model_t W
      refine lp_X12_reversed (fun _ _ _ _ _ => False) (fun _ _ _ _ => 0) (fun _ _ _ _ _ q => q.elim) _ _ M1 ?_
      repeat' first | rw [wa_1200 W] | (refine r_isF R A ht ?_) | apply And.intro | intro _ | exact wt | exact wa_t W | exact w_shelf_t W | assumption | exact Or.inl rfl | exact Or.inr rfl | rfl | omega | (unfold jR; omega)
end CHG2
