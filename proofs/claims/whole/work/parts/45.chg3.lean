/-! steps: insert, remove -/
section CHG3
variable {G : JG} {X : Int}
theorem c_isUnit {Q : Int → JM → Prop} {M : JM} {u : Int} (h1 : 0 ≤ u ∧ u ≤ 65535 → Q 1 M) (h0 : ¬ (0 ≤ u ∧ u ≤ 65535) → Q 0 M) : Runs G 165 0 0 [(0, u)] M Q := by
  refine rn_X11_isUnit _ M (sg_X11_isUnit_0 _ M ⟨fun g => ⟨Or.inl rfl, h0 (by omega)⟩, fun g => ⟨fun g2 => ⟨Or.inl rfl, h0 (by omega)⟩, fun g2 => ⟨Or.inr rfl, h1 (by omega)⟩⟩⟩)
theorem st_insert (t i u : Int) : JSt (IV X) 3072 G X 114 184 [(0, t), (0, i), (0, u)] := mk_stp fun n M T K P D C H A hX hn0 hn => by
  by_cases hv : (0 ≤ t ∧ t < T.1) ∧ (0 ≤ i ∧ i ≤ T.2.1 t) ∧ 0 ≤ u ∧ u ≤ 65535
  · obtain ⟨ht, hi, hu⟩ := hv
    obtain ⟨u1, u2, u3⟩ := A.1.2.2 t ht.1 ht.2
    have a2 := A.1.2.1
    by_cases hm : T.2.1 t < 240
    · refine mk_yes (r := T.2.1 t + 1) (T' := atx T t (T.2.1 t + 1) (fun j => if j < i then T.2.2 t j else if j = i then u else T.2.2 t (j - 1))) (K' := kpush K t 0 (T.2.1 t) (T.2.2 t)) ⟨hn0, hn⟩ (fun Q hQ => ?_) (fun M1 Q R hQ => ?_)
      · have W := C.1
        obtain ⟨TT, e1, e2, e3, e4, e5, e6, e7, e8⟩ := c_txt C A ht
        refine rn_X11_insert _ _ _ _ M (sg_X11_insert_0 _ _ _ _ M ?_)
        rw [wa_1200 W]
        refine ⟨wa_t W, w_shelf_t W, c_lkT C A hX ht (fun _ => ⟨fun q => absurd q (by omega), fun _ => ⟨fun q => absurd q (by omega), fun _ => ⟨e4, fun q => absurd q (by omega), fun _ => c_isUnit (fun _ _ => ⟨fun _ => ⟨e4, c_room TT (fun _ => ⟨fun _ => ⟨wa_t W, by rw [wa_1200 W]; exact w_shelf_t W, ?_⟩, fun q => absurd (by omega) q⟩)⟩, fun q => absurd (by decide) q⟩) (fun q => absurd hu q)⟩⟩⟩)⟩
        rw [wa_1200 W]
        refine c_keepA C H A hX (by omega) ht (fun M2 o fr c2 A2 st q1 q2 _ => ?_)
        obtain ⟨-, -, -, -, z4, -⟩ := c_txt c2 A2 ht
        refine ⟨z4, c_paA c2 A2 ht hi.1 hi.2 hm hu (fun M3 co c3 A3 _ => ?_)⟩
        obtain ⟨-, x1, -, -, x4, -⟩ := c_txt c3 A3 (t := t) ht
        rw [atx_n] at x1
        rw [x1]
        exact ⟨x4, hQ M3 A3 (fr.trans (co.FrC ht.1 (by omega))) c3 (co.stale c2.2.2.2.2.2.2 ht.1 (by omega) st) ((co _ _ _ (by omega) (by omega)).trans q1) ((co _ _ _ (by omega) (by omega)).trans q2)⟩
      · have W := R.1
        have wt := w_model_t W
        obtain ⟨z1, z2, z3, z4, z5⟩ := r_txt R A ht
        have AK2 := A.2.1.push (t := t) (b := 0) (l := T.2.1 t) (u := T.2.2 t) (q := T.1) ⟨A.1.1, Or.inr ⟨rfl, ht.1, ht.2, rfl, ⟨u1, u2, u3⟩⟩⟩
        refine lp_X12_insert (fun v0 v1 v2 v3 v4 N => X + 218 = v0 ∧ t = v1 ∧ i = v2 ∧ u = v3 ∧ i ≤ v4 ∧ v4 ≤ T.2.1 t ∧ ∃ M2, FrR X M1 M2 ∧ RI X M2 T (kpush K t 0 (T.2.1 t) (T.2.2 t)) P D ∧ Rtx X M2 N ∧ (∀ s, N 2 (X + 219) s = M2 2 (X + 219) s) ∧ (∀ j, ¬ (240 * t ≤ j ∧ j < 240 * t + 240) → N 2 (X + 220) j = M2 2 (X + 220) j) ∧ (∀ j, v4 < j → j ≤ T.2.1 t → N 2 (X + 220) (240 * t + j) = T.2.2 t (j - 1)) ∧ ∀ j, 0 ≤ j → j ≤ v4 → j < T.2.1 t → N 2 (X + 220) (240 * t + j) = T.2.2 t j) (fun _ _ _ _ v4 => v4.toNat) ?_ _ _ _ _ M1 ?_
        · rintro v0 v1 v2 v3 v4 N ⟨rfl, rfl, rfl, rfl, i1, i2, M2, i3, i4, i5, i6, i7, i8, i9⟩
          have WN := i5.W i4.1
          have wn := w_model_t WN
          obtain ⟨y1, y2, -, -, -⟩ := r_txt i4 ⟨A.1, AK2, A.2.2⟩ ht
          have y1 : N 2 (X + 219) t = T.2.1 t := (i6 t).trans y1
          rw [w_model_1301 WN, w_model_1302 WN, w_m1301_t WN, w_m1301_n WN, w_m1302_t WN, w_m1302_n WN, jset_a (show X + 219 ≠ X + 220 by omega), y1, jset_s]
          refine ⟨fun q => ?_, fun q => ?_⟩
          · have : v4 = i := by omega
            subst this
            have x5 : Rtx X M2 (jset (jset N 2 (X + 220) (240 * t + v4) u) 2 (X + 219) t (T.2.1 t + 1)) := fun k a j g => by
              rw [show jset (jset N 2 (X + 220) (240 * t + v4) u) 2 (X + 219) t (T.2.1 t + 1) k a j = _ from if_neg (by omega), show jset N 2 (X + 220) (240 * t + v4) u k a j = _ from if_neg (by omega)]
              exact i5 k a j g
            have rt := i4.2.1.atx A.1 ht (k := T.2.1 t + 1) (f := fun j => if j < v4 then T.2.2 t j else if j = v4 then u else T.2.2 t (j - 1)) x5 jset_s (fun s hs => by rw [jset_j hs, jset_a (by omega)]; exact i6 s) (fun j j0 j1 => by
              rw [jset_a (by omega)]
              by_cases h1 : j < v4
              · rw [if_pos h1, jset_j (by omega)]; exact i9 j j0 (by omega) (by omega)
              · rw [if_neg h1]
                by_cases h2 : j = v4
                · subst h2; rw [if_pos rfl, jset_s]
                · rw [if_neg h2, jset_j (by omega)]; exact i8 j (by omega) (by omega)) (fun j hj => by rw [jset_a (by omega), jset_j (by omega)]; exact i7 j hj)
            exact ⟨wn, by unfold jR; omega, by unfold jR; omega, ⟨rfl, by omega, by omega⟩, wn, ⟨rfl, ht.1, by omega⟩, by unfold jR; omega, ⟨rfl, ht.1, by omega⟩, wn, ⟨rfl, ht.1, by omega⟩, hQ _ (i3.trans x5.FrR) (x5.RI i4 rt)⟩
          · have ev : N 2 (X + 220) (240 * t + v4 - 1) = T.2.2 t (v4 - 1) := by
              rw [show 240 * t + v4 - 1 = 240 * t + (v4 - 1) by omega]; exact i9 _ (by omega) (by omega) (by omega)
            rw [ev]
            refine ⟨wn, by unfold jR; omega, by unfold jR; omega, wn, by unfold jR; omega, by unfold jR; omega, by unfold jR; omega, ⟨rfl, by omega, by omega⟩, ⟨rfl, by omega, by omega⟩, by unfold jR; omega, ⟨rfl, rfl, rfl, rfl, by omega, by omega, M2, i3, i4, fun k a j g => ?_, fun s => ?_, fun j hj => ?_, fun j h1 h2 => ?_, fun j h1 h2 h3 => ?_⟩, by omega⟩
            · rw [show jset N 2 (X + 220) (240 * t + v4) (T.2.2 t (v4 - 1)) k a j = _ from if_neg (by omega)]; exact i5 k a j g
            · rw [jset_a (by omega)]; exact i6 s
            · rw [jset_j (by omega)]; exact i7 j hj
            · by_cases hj : j = v4
              · subst hj; exact jset_s
              · rw [jset_j (by omega)]; exact i8 j (by omega) h2
            · rw [jset_j (by omega)]; exact i9 j h1 (by omega) h3
        · refine ⟨wt, r_isT R A ht (fun _ => ⟨fun q => absurd q (by decide), fun _ => ⟨wt, ?_⟩⟩)⟩
          rw [w_model_1301 W, w_m1301_t W, w_m1301_n W, z1]
          refine ⟨⟨rfl, ht.1, by omega⟩, r_in (fun _ _ _ => ⟨fun q => absurd q (by decide), fun _ => r_in (fun _ _ _ => ⟨fun _ => ⟨wt, ?_⟩, fun q => absurd (by decide) q⟩) (fun q => absurd hu q)⟩) (fun q => absurd hi q)⟩
          rw [w_model_1301 W, w_m1301_t W, w_m1301_n W, z1]
          refine ⟨⟨rfl, ht.1, by omega⟩, fun _ => ⟨wt, r_keepA R A ht.1 (by omega) (Or.inr ⟨rfl, ht.2, rfl⟩) (fun M2 k2 r2 _ => ?_)⟩, fun q => absurd (by omega) q⟩
          have W2 := r2.1
          obtain ⟨y1, y2, -, -, -⟩ := r_txt r2 ⟨A.1, AK2, A.2.2⟩ ht
          rw [w_model_1301 W2, w_m1301_t W2, w_m1301_n W2, y1]
          exact ⟨w_model_t W2, ⟨rfl, ht.1, by omega⟩, ⟨rfl, rfl, rfl, rfl, hi.2, by omega, M2, k2.FrR, r2, Rtx.refl X M2, fun _ => rfl, fun _ _ => rfl, fun j h1 h2 => by omega, fun j h1 h2 h3 => y2 j h1 h3⟩⟩
    · refine mk_no (r := -3) C H A ⟨hn0, hn⟩ (fun Q hQ => ?_) (fun M1 Q R hQ => ?_)
      · have W := C.1
        obtain ⟨TT, e1, e2, e3, e4, e5, e6, e7, e8⟩ := c_txt C A ht
        refine rn_X11_insert _ _ _ _ M (sg_X11_insert_0 _ _ _ _ M ?_)
        repeat' first | rw [wa_1200 W] | (refine c_lkT C A hX ht ?_) | (refine c_isUnit ?_ ?_) | (refine c_room TT ?_) | apply And.intro | intro _ | exact wt | exact wa_t W | exact w_shelf_t W | assumption | exact Or.inl rfl | exact Or.inr rfl | rfl | omega | (unfold jR; omega)
      · have W := R.1
        have wt := w_model_t W
        obtain ⟨z1, z2, z3, z4, z5⟩ := r_txt R A ht
        refine lp_X12_insert (fun _ _ _ _ _ _ => False) (fun _ _ _ _ _ => 0) (fun _ _ _ _ _ _ q => q.elim) _ _ _ _ M1 ?_
        repeat' first | rw [wa_1200 W] | (refine r_isT R A ht ?_) | (refine r_in ?_ ?_) | (rw [w_model_1301 W]) | (rw [w_m1301_n W]) | exact w_m1301_t W | (rw [z1]) | apply And.intro | intro _ | exact wt | exact wa_t W | exact w_shelf_t W | assumption | exact Or.inl rfl | exact Or.inr rfl | rfl | omega | (unfold jR; omega)
  · refine mk_no (r := -2) C H A ⟨hn0, hn⟩ (fun Q hQ => ?_) (fun M1 Q R hQ => ?_)
    · have W := C.1
      refine rn_X11_insert _ _ _ _ M (sg_X11_insert_0 _ _ _ _ M ?_)
      by_cases ht : 0 ≤ t ∧ t < T.1
      · obtain ⟨TT, e1, e2, e3, e4, e5, e6, e7, e8⟩ := c_txt C A ht
        repeat' first | rw [wa_1200 W] | (refine c_lkT C A hX ht ?_) | (refine c_isUnit ?_ ?_) | apply And.intro | intro _ | exact wt | exact wa_t W | exact w_shelf_t W | assumption | exact Or.inl rfl | exact Or.inr rfl | rfl | omega | (unfold jR; omega)
      · repeat' first | rw [wa_1200 W] | (refine c_lkF C A hX ht ?_) | apply And.intro | intro _ | exact wt | exact wa_t W | exact w_shelf_t W | assumption | exact Or.inl rfl | exact Or.inr rfl | rfl | omega | (unfold jR; omega)
    · have W := R.1
      have wt := w_model_t W
      refine lp_X12_insert (fun _ _ _ _ _ _ => False) (fun _ _ _ _ _ => 0) (fun _ _ _ _ _ _ q => q.elim) _ _ _ _ M1 ?_
      by_cases ht : 0 ≤ t ∧ t < T.1
      · obtain ⟨z1, z2, z3, z4, z5⟩ := r_txt R A ht
        repeat' first | rw [wa_1200 W] | (refine r_isT R A ht ?_) | (refine r_in ?_ ?_) | (rw [w_model_1301 W]) | (rw [w_m1301_n W]) | exact w_m1301_t W | (rw [z1]) | apply And.intro | intro _ | exact wt | exact wa_t W | exact w_shelf_t W | assumption | exact Or.inl rfl | exact Or.inr rfl | rfl | omega | (unfold jR; omega)
      · repeat' first | rw [wa_1200 W] | (refine r_isF R A ht ?_) | apply And.intro | intro _ | exact wt | exact wa_t W | exact w_shelf_t W | assumption | exact Or.inl rfl | exact Or.inr rfl | rfl | omega | (unfold jR; omega)
theorem st_remove (t i m : Int) : JSt (IV X) 3072 G X 115 185 [(0, t), (0, i), (0, m)] := mk_stp fun n M T K P D C H A hX hn0 hn => by
  by_cases hv : (0 ≤ t ∧ t < T.1) ∧ 0 ≤ i ∧ 0 ≤ m ∧ i + m ≤ T.2.1 t
  · obtain ⟨ht, hi, hm, him⟩ := hv
    obtain ⟨u1, u2, u3⟩ := A.1.2.2 t ht.1 ht.2
    have a2 := A.1.2.1
    refine mk_yes (r := T.2.1 t - m) (T' := atx T t (T.2.1 t - m) (fun j => if j < i then T.2.2 t j else T.2.2 t (j + m))) (K' := kpush K t 0 (T.2.1 t) (T.2.2 t)) ⟨hn0, hn⟩ (fun Q hQ => ?_) (fun M1 Q R hQ => ?_)
    · have W := C.1
      obtain ⟨TT, e1, e2, e3, e4, e5, e6, e7, e8⟩ := c_txt C A ht
      refine rn_X11_remove _ _ _ _ M (sg_X11_remove_0 _ _ _ _ M ?_)
      rw [wa_1200 W]
      refine ⟨wa_t W, w_shelf_t W, c_lkT C A hX ht (fun _ => ⟨fun q => absurd q (by omega), fun _ => ⟨e4, c_hasSome TT (fun _ _ _ _ => ⟨fun _ => ⟨wa_t W, by rw [wa_1200 W]; exact w_shelf_t W, ?_⟩, fun q => absurd (by decide) q⟩) (fun q => absurd ⟨hi, hm, by omega⟩ q)⟩⟩)⟩
      rw [wa_1200 W]
      refine c_keepA C H A hX (by omega) ht (fun M2 o fr c2 A2 st q1 q2 _ => ?_)
      obtain ⟨-, -, -, -, z4, -⟩ := c_txt c2 A2 ht
      refine ⟨z4, c_drA c2 A2 ht hi hm him (fun M3 co c3 A3 _ => ?_)⟩
      obtain ⟨-, x1, -, -, x4, -⟩ := c_txt c3 A3 (t := t) ht
      rw [atx_n] at x1
      rw [x1]
      exact ⟨x4, hQ M3 A3 (fr.trans (co.FrC ht.1 (by omega))) c3 (co.stale c2.2.2.2.2.2.2 ht.1 (by omega) st) ((co _ _ _ (by omega) (by omega)).trans q1) ((co _ _ _ (by omega) (by omega)).trans q2)⟩
    · have W := R.1
      have wt := w_model_t W
      obtain ⟨z1, z2, z3, z4, z5⟩ := r_txt R A ht
      have AK2 := A.2.1.push (t := t) (b := 0) (l := T.2.1 t) (u := T.2.2 t) (q := T.1) ⟨A.1.1, Or.inr ⟨rfl, ht.1, ht.2, rfl, ⟨u1, u2, u3⟩⟩⟩
      refine lp_X12_remove (fun v0 v1 v3 v4 N => X + 218 = v0 ∧ t = v1 ∧ m = v3 ∧ i + m ≤ v4 ∧ v4 ≤ T.2.1 t ∧ ∃ M2, FrR X M1 M2 ∧ RI X M2 T (kpush K t 0 (T.2.1 t) (T.2.2 t)) P D ∧ Rtx X M2 N ∧ (∀ s, N 2 (X + 219) s = M2 2 (X + 219) s) ∧ (∀ j, ¬ (240 * t ≤ j ∧ j < 240 * t + 240) → N 2 (X + 220) j = M2 2 (X + 220) j) ∧ (∀ j, 0 ≤ j → j < i → N 2 (X + 220) (240 * t + j) = T.2.2 t j) ∧ (∀ j, i ≤ j → j < v4 - m → N 2 (X + 220) (240 * t + j) = T.2.2 t (j + m)) ∧ ∀ j, i ≤ j → v4 - m ≤ j → j < T.2.1 t → N 2 (X + 220) (240 * t + j) = T.2.2 t j) (fun _ _ _ v4 => (1000 - v4).toNat) ?_ _ _ _ _ M1 ?_
      · rintro v0 v1 v3 v4 N ⟨rfl, rfl, rfl, i1, i2, M2, i3, i4, i5, i6, i7, i8, i9, i10⟩
        have WN := i5.W i4.1
        have wn := w_model_t WN
        obtain ⟨y1, y2, -, -, -⟩ := r_txt i4 ⟨A.1, AK2, A.2.2⟩ ht
        have y1 : N 2 (X + 219) t = T.2.1 t := (i6 t).trans y1
        rw [w_model_1301 WN, w_model_1302 WN, w_m1301_t WN, w_m1301_n WN, w_m1302_t WN, w_m1302_n WN, y1, jset_s]
        refine ⟨wn, ⟨rfl, ht.1, by omega⟩, fun q => ?_, fun q => ?_⟩
        · have : v4 = T.2.1 t := by omega
          subst this
          have x5 : Rtx X M2 (jset N 2 (X + 219) t (T.2.1 t - m)) := fun k a j g => by
            rw [show jset N 2 (X + 219) t (T.2.1 t - m) k a j = _ from if_neg (by omega)]
            exact i5 k a j g
          have rt := i4.2.1.atx A.1 ht (k := T.2.1 t - m) (f := fun j => if j < i then T.2.2 t j else T.2.2 t (j + m)) x5 jset_s (fun s hs => by rw [jset_j hs]; exact i6 s) (fun j j0 j1 => by
            rw [jset_a (by omega)]
            by_cases h1 : j < i
            · rw [if_pos h1]; exact i8 j j0 h1
            · rw [if_neg h1]; exact i9 j (by omega) j1) (fun j hj => by rw [jset_a (by omega)]; exact i7 j hj)
          exact ⟨wn, ⟨rfl, ht.1, by omega⟩, by unfold jR; omega, ⟨rfl, ht.1, by omega⟩, wn, ⟨rfl, ht.1, by omega⟩, hQ _ (i3.trans x5.FrR) (x5.RI i4 rt)⟩
        · rw [i10 v4 (by omega) (by omega) (by omega)]
          refine ⟨wn, by unfold jR; omega, by unfold jR; omega, by unfold jR; omega, wn, by unfold jR; omega, by unfold jR; omega, ⟨rfl, by omega, by omega⟩, ⟨rfl, by omega, by omega⟩, by unfold jR; omega, ⟨rfl, rfl, rfl, by omega, by omega, M2, i3, i4, fun k a j g => ?_, fun s => ?_, fun j hj => ?_, fun j h1 h2 => ?_, fun j h1 h2 => ?_, fun j h1 h2 h3 => ?_⟩, by omega⟩
          · rw [show jset N 2 (X + 220) (240 * t + v4 - m) (T.2.2 t v4) k a j = _ from if_neg (by omega)]; exact i5 k a j g
          · rw [jset_a (by omega)]; exact i6 s
          · rw [jset_j (by omega)]; exact i7 j hj
          · rw [jset_j (by omega)]; exact i8 j h1 h2
          · by_cases hj : j = v4 - m
            · subst hj; rw [show 240 * t + v4 - m = 240 * t + (v4 - m) by omega, jset_s, show v4 - m + m = v4 by omega]
            · rw [jset_j (by omega)]; exact i9 j h1 (by omega)
          · rw [jset_j (by omega)]; exact i10 j h1 (by omega) h3
      · refine ⟨wt, r_isT R A ht (fun _ => ⟨fun q => absurd q (by decide), fun _ => ⟨fun q => absurd q (by omega), fun _ => ⟨fun q => absurd q (by omega), fun _ => ⟨wt, ?_⟩⟩⟩⟩)⟩
        rw [w_model_1301 W, w_m1301_t W, w_m1301_n W, z1]
        refine ⟨⟨rfl, ht.1, by omega⟩, fun q => absurd q (by omega), fun _ => ⟨wt, ⟨rfl, ht.1, by omega⟩, by unfold jR; omega, fun _ => ⟨wt, r_keepA R A ht.1 (by omega) (Or.inr ⟨rfl, ht.2, rfl⟩) (fun M2 k2 r2 _ => ?_)⟩, fun q => absurd (by omega) q⟩⟩
        obtain ⟨y1, y2, -, -, -⟩ := r_txt r2 ⟨A.1, AK2, A.2.2⟩ ht
        exact ⟨by unfold jR; omega, ⟨rfl, rfl, rfl, by omega, by omega, M2, k2.FrR, r2, Rtx.refl X M2, fun _ => rfl, fun _ _ => rfl, fun j h1 h2 => y2 j h1 (by omega), fun j h1 h2 => by omega, fun j h1 h2 h3 => y2 j (by omega) h3⟩⟩
  · refine mk_no (r := -2) C H A ⟨hn0, hn⟩ (fun Q hQ => ?_) (fun M1 Q R hQ => ?_)
    · have W := C.1
      refine rn_X11_remove _ _ _ _ M (sg_X11_remove_0 _ _ _ _ M ?_)
      by_cases ht : 0 ≤ t ∧ t < T.1
      · obtain ⟨TT, e1, e2, e3, e4, e5, e6, e7, e8⟩ := c_txt C A ht
        repeat' first | rw [wa_1200 W] | (refine c_lkT C A hX ht ?_) | (refine c_hasSome TT ?_ ?_) | apply And.intro | intro _ | exact wt | exact wa_t W | exact w_shelf_t W | assumption | exact Or.inl rfl | exact Or.inr rfl | rfl | omega | (unfold jR; omega)
      · repeat' first | rw [wa_1200 W] | (refine c_lkF C A hX ht ?_) | apply And.intro | intro _ | exact wt | exact wa_t W | exact w_shelf_t W | assumption | exact Or.inl rfl | exact Or.inr rfl | rfl | omega | (unfold jR; omega)
    · have W := R.1
      have wt := w_model_t W
      refine lp_X12_remove (fun _ _ _ _ _ => False) (fun _ _ _ _ => 0) (fun _ _ _ _ _ q => q.elim) _ _ _ _ M1 ?_
      by_cases ht : 0 ≤ t ∧ t < T.1
      · obtain ⟨z1, z2, z3, z4, z5⟩ := r_txt R A ht
        repeat' first | rw [wa_1200 W] | (refine r_isT R A ht ?_) | (rw [w_model_1301 W]) | (rw [w_m1301_n W]) | exact w_m1301_t W | (rw [z1]) | apply And.intro | intro _ | exact wt | exact wa_t W | exact w_shelf_t W | assumption | exact Or.inl rfl | exact Or.inr rfl | rfl | omega | (unfold jR; omega)
      · repeat' first | rw [wa_1200 W] | (refine r_isF R A ht ?_) | apply And.intro | intro _ | exact wt | exact wa_t W | exact w_shelf_t W | assumption | exact Or.inl rfl | exact Or.inr rfl | rfl | omega | (unfold jR; omega)
end CHG3
