/-! steps: wild, near, countOf, equalParts, common -/
noncomputable def coF (n : Int) (f : Int → Int) (m : Int) (g : Int → Int) : Nat → Int → Int → Int
  | 0, p, _ => p
  | k + 1, p, i => cif (i + m ≤ n) (cif (Fits f m g i (-1) 0) (coF n f m g k (p + 1) (i + 1)) (coF n f m g k p (i + 1))) p
theorem coF_z {n m p i : Int} {f g : Int → Int} (h : n < i + m) : ∀ k, coF n f m g k p i = p
  | 0 => rfl
  | _ + 1 => cif_f (by omega)
section PLACE2
variable {G : JG} {X : Int}
theorem st_wild (t p sg q : Int) : JSt (IV X) 3072 G X 130 208 [(0, t), (0, p), (0, sg), (0, q)] := mk_obs fun n M T K P D C H A hX => by
  by_cases hv : (0 ≤ t ∧ t < T.1) ∧ (0 ≤ p ∧ p < T.1) ∧ 0 ≤ sg ∧ sg ≤ 65535
  · obtain ⟨ht, hp, hg⟩ := hv
    refine ⟨plF (T.2.1 t) (T.2.2 t) (T.2.1 p) (T.2.2 p) sg 0 q 300 0 0, fun Q hQ => ?_, fun M1 Q R hQ => ?_⟩
    · have W := C.1
      refine rn_X11_wild _ _ _ _ _ M (sg_X11_wild_0 _ _ _ _ _ M ?_)
      repeat' first | rw [wa_1200 W] | (refine c_lkT C A hX ht ?_) | (refine c_lkT C A hX hp ?_) | (refine c_isUnit ?_ ?_) | (refine c_placeOf (c_tf C A ht) (c_tf C A hp) (by decide) ?_) | apply And.intro | intro _ | exact wt | exact wa_t W | exact w_shelf_t W | assumption | exact Or.inl rfl | exact Or.inr rfl | rfl | omega | (unfold jR; omega)
    · have W := R.1
      have wt := w_model_t W
      refine rn_X12_wild _ _ _ _ _ M1 (sg_X12_wild_0 _ _ _ _ _ M1 ?_)
      repeat' first | rw [wa_1200 W] | (refine r_isT R A ht ?_) | (refine r_isT R A hp ?_) | (refine r_in ?_ ?_) | (refine r_place R A ht hp (by decide) ?_) | apply And.intro | intro _ | exact wt | exact wa_t W | exact w_shelf_t W | assumption | exact Or.inl rfl | exact Or.inr rfl | rfl | omega | (unfold jR; omega)
  · refine ⟨-2, fun Q hQ => ?_, fun M1 Q R hQ => ?_⟩
    · have W := C.1
      refine rn_X11_wild _ _ _ _ _ M (sg_X11_wild_0 _ _ _ _ _ M ?_)
      by_cases ht : 0 ≤ t ∧ t < T.1
      · by_cases hs : 0 ≤ p ∧ p < T.1
        · obtain ⟨TT, e1, e2, e3, e4, e5, e6, e7, e8⟩ := c_txt C A ht
          obtain ⟨SS, p1, p2, p3, p4, p5, p6, p7, p8⟩ := c_txt C A hs
          repeat' first | rw [wa_1200 W] | (refine c_lkT C A hX ht ?_) | (refine c_lkT C A hX hs ?_) | (refine c_isUnit ?_ ?_) | apply And.intro | intro _ | exact wt | exact wa_t W | exact w_shelf_t W | assumption | exact Or.inl rfl | exact Or.inr rfl | rfl | omega | (unfold jR; omega)
        · repeat' first | rw [wa_1200 W] | (refine c_lkT C A hX ht ?_) | (refine c_lkF C A hX hs ?_) | (refine c_isUnit ?_ ?_) | apply And.intro | intro _ | exact wt | exact wa_t W | exact w_shelf_t W | assumption | exact Or.inl rfl | exact Or.inr rfl | rfl | omega | (unfold jR; omega)
      · by_cases hs : 0 ≤ p ∧ p < T.1
        · repeat' first | rw [wa_1200 W] | (refine c_lkF C A hX ht ?_) | (refine c_lkT C A hX hs ?_) | (refine c_isUnit ?_ ?_) | apply And.intro | intro _ | exact wt | exact wa_t W | exact w_shelf_t W | assumption | exact Or.inl rfl | exact Or.inr rfl | rfl | omega | (unfold jR; omega)
        · repeat' first | rw [wa_1200 W] | (refine c_lkF C A hX ht ?_) | (refine c_lkF C A hX hs ?_) | (refine c_isUnit ?_ ?_) | apply And.intro | intro _ | exact wt | exact wa_t W | exact w_shelf_t W | assumption | exact Or.inl rfl | exact Or.inr rfl | rfl | omega | (unfold jR; omega)
    · have W := R.1
      have wt := w_model_t W
      refine rn_X12_wild _ _ _ _ _ M1 (sg_X12_wild_0 _ _ _ _ _ M1 ?_)
      by_cases ht : 0 ≤ t ∧ t < T.1
      · by_cases hs : 0 ≤ p ∧ p < T.1
        · obtain ⟨z1, z2, z3, z4, z5⟩ := r_txt R A ht
          obtain ⟨y1, y2, y3, y4, y5⟩ := r_txt R A hs
          repeat' first | rw [wa_1200 W] | (refine r_isT R A ht ?_) | (refine r_isT R A hs ?_) | (refine r_in ?_ ?_) | apply And.intro | intro _ | exact wt | exact wa_t W | exact w_shelf_t W | assumption | exact Or.inl rfl | exact Or.inr rfl | rfl | omega | (unfold jR; omega)
        · repeat' first | rw [wa_1200 W] | (refine r_isT R A ht ?_) | (refine r_isF R A hs ?_) | (refine r_in ?_ ?_) | apply And.intro | intro _ | exact wt | exact wa_t W | exact w_shelf_t W | assumption | exact Or.inl rfl | exact Or.inr rfl | rfl | omega | (unfold jR; omega)
      · by_cases hs : 0 ≤ p ∧ p < T.1
        · repeat' first | rw [wa_1200 W] | (refine r_isF R A ht ?_) | (refine r_isT R A hs ?_) | (refine r_in ?_ ?_) | apply And.intro | intro _ | exact wt | exact wa_t W | exact w_shelf_t W | assumption | exact Or.inl rfl | exact Or.inr rfl | rfl | omega | (unfold jR; omega)
        · repeat' first | rw [wa_1200 W] | (refine r_isF R A ht ?_) | (refine r_isF R A hs ?_) | (refine r_in ?_ ?_) | apply And.intro | intro _ | exact wt | exact wa_t W | exact w_shelf_t W | assumption | exact Or.inl rfl | exact Or.inr rfl | rfl | omega | (unfold jR; omega)
theorem st_near (t p c q : Int) : JSt (IV X) 3072 G X 131 209 [(0, t), (0, p), (0, c), (0, q)] := mk_obs fun n M T K P D C H A hX => by
  by_cases hv : (0 ≤ t ∧ t < T.1) ∧ (0 ≤ p ∧ p < T.1) ∧ 0 ≤ c ∧ c ≤ 3
  · obtain ⟨ht, hp, hg⟩ := hv
    refine ⟨plF (T.2.1 t) (T.2.2 t) (T.2.1 p) (T.2.2 p) (-1) c q 300 0 0, fun Q hQ => ?_, fun M1 Q R hQ => ?_⟩
    · have W := C.1
      refine rn_X11_near _ _ _ _ _ M (sg_X11_near_0 _ _ _ _ _ M ?_)
      repeat' first | rw [wa_1200 W] | (refine c_lkT C A hX ht ?_) | (refine c_lkT C A hX hp ?_) | (refine c_placeOf (c_tf C A ht) (c_tf C A hp) (by omega) ?_) | apply And.intro | intro _ | exact wt | exact wa_t W | exact w_shelf_t W | assumption | exact Or.inl rfl | exact Or.inr rfl | rfl | omega | (unfold jR; omega)
    · have W := R.1
      have wt := w_model_t W
      refine rn_X12_near _ _ _ _ _ M1 (sg_X12_near_0 _ _ _ _ _ M1 ?_)
      repeat' first | rw [wa_1200 W] | (refine r_isT R A ht ?_) | (refine r_isT R A hp ?_) | (refine r_in ?_ ?_) | (refine r_place R A ht hp (by omega) ?_) | apply And.intro | intro _ | exact wt | exact wa_t W | exact w_shelf_t W | assumption | exact Or.inl rfl | exact Or.inr rfl | rfl | omega | (unfold jR; omega)
  · refine ⟨-2, fun Q hQ => ?_, fun M1 Q R hQ => ?_⟩
    · have W := C.1
      refine rn_X11_near _ _ _ _ _ M (sg_X11_near_0 _ _ _ _ _ M ?_)
      by_cases ht : 0 ≤ t ∧ t < T.1
      · by_cases hs : 0 ≤ p ∧ p < T.1
        · obtain ⟨TT, e1, e2, e3, e4, e5, e6, e7, e8⟩ := c_txt C A ht
          obtain ⟨SS, p1, p2, p3, p4, p5, p6, p7, p8⟩ := c_txt C A hs
          repeat' first | rw [wa_1200 W] | (refine c_lkT C A hX ht ?_) | (refine c_lkT C A hX hs ?_) | apply And.intro | intro _ | exact wt | exact wa_t W | exact w_shelf_t W | assumption | exact Or.inl rfl | exact Or.inr rfl | rfl | omega | (unfold jR; omega)
        · repeat' first | rw [wa_1200 W] | (refine c_lkT C A hX ht ?_) | (refine c_lkF C A hX hs ?_) | apply And.intro | intro _ | exact wt | exact wa_t W | exact w_shelf_t W | assumption | exact Or.inl rfl | exact Or.inr rfl | rfl | omega | (unfold jR; omega)
      · by_cases hs : 0 ≤ p ∧ p < T.1
        · repeat' first | rw [wa_1200 W] | (refine c_lkF C A hX ht ?_) | (refine c_lkT C A hX hs ?_) | apply And.intro | intro _ | exact wt | exact wa_t W | exact w_shelf_t W | assumption | exact Or.inl rfl | exact Or.inr rfl | rfl | omega | (unfold jR; omega)
        · repeat' first | rw [wa_1200 W] | (refine c_lkF C A hX ht ?_) | (refine c_lkF C A hX hs ?_) | apply And.intro | intro _ | exact wt | exact wa_t W | exact w_shelf_t W | assumption | exact Or.inl rfl | exact Or.inr rfl | rfl | omega | (unfold jR; omega)
    · have W := R.1
      have wt := w_model_t W
      refine rn_X12_near _ _ _ _ _ M1 (sg_X12_near_0 _ _ _ _ _ M1 ?_)
      by_cases ht : 0 ≤ t ∧ t < T.1
      · by_cases hs : 0 ≤ p ∧ p < T.1
        · obtain ⟨z1, z2, z3, z4, z5⟩ := r_txt R A ht
          obtain ⟨y1, y2, y3, y4, y5⟩ := r_txt R A hs
          repeat' first | rw [wa_1200 W] | (refine r_isT R A ht ?_) | (refine r_isT R A hs ?_) | (refine r_in ?_ ?_) | apply And.intro | intro _ | exact wt | exact wa_t W | exact w_shelf_t W | assumption | exact Or.inl rfl | exact Or.inr rfl | rfl | omega | (unfold jR; omega)
        · repeat' first | rw [wa_1200 W] | (refine r_isT R A ht ?_) | (refine r_isF R A hs ?_) | (refine r_in ?_ ?_) | apply And.intro | intro _ | exact wt | exact wa_t W | exact w_shelf_t W | assumption | exact Or.inl rfl | exact Or.inr rfl | rfl | omega | (unfold jR; omega)
      · by_cases hs : 0 ≤ p ∧ p < T.1
        · repeat' first | rw [wa_1200 W] | (refine r_isF R A ht ?_) | (refine r_isT R A hs ?_) | (refine r_in ?_ ?_) | apply And.intro | intro _ | exact wt | exact wa_t W | exact w_shelf_t W | assumption | exact Or.inl rfl | exact Or.inr rfl | rfl | omega | (unfold jR; omega)
        · repeat' first | rw [wa_1200 W] | (refine r_isF R A ht ?_) | (refine r_isF R A hs ?_) | (refine r_in ?_ ?_) | apply And.intro | intro _ | exact wt | exact wa_t W | exact w_shelf_t W | assumption | exact Or.inl rfl | exact Or.inr rfl | rfl | omega | (unfold jR; omega)
theorem st_countOf (t p : Int) : JSt (IV X) 3072 G X 129 207 [(0, t), (0, p)] := mk_obs fun n M T K P D C H A hX => by
  by_cases hv : (0 ≤ t ∧ t < T.1) ∧ (0 ≤ p ∧ p < T.1)
  · obtain ⟨ht, hp⟩ := hv
    refine ⟨coF (T.2.1 t) (T.2.2 t) (T.2.1 p) (T.2.2 p) 300 0 0, fun Q hQ => ?_, fun M1 Q R hQ => ?_⟩
    · have W := C.1
      have A0 := c_tf C A ht
      have B0 := c_tf C A hp
      obtain ⟨A1, A2, A3, A4, A5, A6⟩ := id A0
      obtain ⟨B1, B2, B3, B4, B5, B6⟩ := id B0
      have main : Runs G 19 0 0 [(1, X + (4 + 2 * t)), (1, X + (4 + 2 * p))] M (fun r3 M3 => jokM M3 → Q r3 M3) := by
        refine lp_X3_placesOf (fun v0 v1 v2 v3 N => M = N ∧ X + (4 + 2 * t) = v0 ∧ X + (4 + 2 * p) = v1 ∧ 0 ≤ v2 ∧ v2 ≤ v3 ∧ 0 ≤ v3 ∧ v3 ≤ 300 ∧ Fl (fun k => coF (T.2.1 t) (T.2.2 t) (T.2.1 p) (T.2.2 p) k v2 v3) (T.2.1 t - v3) (coF (T.2.1 t) (T.2.2 t) (T.2.1 p) (T.2.2 p) 300 0 0)) (fun _ _ _ v3 => (1000 - v3).toNat) ?_ _ _ M ⟨rfl, rfl, rfl, by omega, by omega, by omega, by omega, Fl.go 300 (by omega)⟩
        rintro v0 v1 v2 v3 N ⟨rfl, rfl, rfl, i1, i2, i3, i4, i5⟩
        rw [A2, B2]
        refine ⟨A1, B1, by unfold jR; omega, fun g1 => ?_, fun g1 => c_fits A0 B0 (by omega) (by decide) (fun _ _ ft _ => ⟨fun q0 => absurd q0 (by decide), fun _ => ⟨by unfold jR; omega, by unfold jR; omega, ⟨rfl, rfl, rfl, by omega, by omega, by omega, by omega, i5.step (by omega) (fun k => (cif_t (by omega)).trans (cif_t ft)) (by omega)⟩, by omega⟩⟩) (fun ft _ => ⟨fun _ => ⟨by unfold jR; omega, ⟨rfl, rfl, rfl, by omega, by omega, by omega, by omega, i5.step (by omega) (fun k => (cif_t (by omega)).trans (cif_f (fun z => ft ⟨i3, by omega, z⟩))) (by omega)⟩, by omega⟩, fun q0 => absurd rfl q0⟩)⟩
        rw [i5.stop (coF_z (by omega))] at hQ; exact fun _ => hQ
      refine rn_X11_countOf _ _ _ M (sg_X11_countOf_0 _ _ _ M ?_)
      rw [wa_1200 W]
      refine ⟨wa_t W, w_shelf_t W, c_lkT C A hX ht (fun _ => ⟨wa_t W, by rw [wa_1200 W]; exact w_shelf_t W, ?_⟩)⟩
      rw [wa_1200 W]
      exact c_lkT C A hX hp (fun _ => ⟨fun q => absurd q (by omega), fun _ => ⟨fun q => absurd q (by omega), fun _ => main⟩⟩)
    · have W := R.1
      have wt := w_model_t W
      obtain ⟨z1, z2, z3, z4, z5⟩ := r_txt R A ht
      obtain ⟨y1, y2, y3, y4, y5⟩ := r_txt R A hp
      refine lp_X12_countOf (fun v0 v1 v2 v3 v4 N => M1 = N ∧ X + 218 = v0 ∧ t = v1 ∧ p = v2 ∧ 0 ≤ v3 ∧ v3 ≤ v4 ∧ 0 ≤ v4 ∧ v4 ≤ 300 ∧ Fl (fun k => coF (T.2.1 t) (T.2.2 t) (T.2.1 p) (T.2.2 p) k v3 v4) (T.2.1 t - v4) (coF (T.2.1 t) (T.2.2 t) (T.2.1 p) (T.2.2 p) 300 0 0)) (fun _ _ _ _ v4 => (1000 - v4).toNat) ?_ _ _ _ M1 ?_
      · rintro v0 v1 v2 v3 v4 N ⟨rfl, rfl, rfl, rfl, i1, i2, i3, i4, i5⟩
        rw [w_model_1301 W, w_m1301_t W, w_m1301_n W, y1, z1]
        refine ⟨wt, ⟨rfl, hp.1, y3⟩, by unfold jR; omega, wt, ⟨rfl, ht.1, z3⟩, fun g1 => ?_, fun g1 => ⟨wt, r_stands R A ht hp ⟨i3, by omega⟩ (by decide) (fun ft _ => ⟨fun q0 => absurd q0 (by decide), fun _ => ⟨by unfold jR; omega, by unfold jR; omega, ⟨rfl, rfl, rfl, rfl, by omega, by omega, by omega, by omega, i5.step (by omega) (fun k => (cif_t (by omega)).trans (cif_t ft)) (by omega)⟩, by omega⟩⟩) (fun ft _ => ⟨fun _ => ⟨by unfold jR; omega, by unfold jR; omega, ⟨rfl, rfl, rfl, rfl, by omega, by omega, by omega, by omega, by rw [Int.add_zero]; exact i5.step (by omega) (fun k => (cif_t (by omega)).trans (cif_f ft)) (by omega)⟩, by omega⟩, fun q0 => absurd rfl q0⟩)⟩⟩
        rw [i5.stop (coF_z (by omega))] at hQ; exact hQ
      · exact ⟨wt, r_isT R A ht (fun _ => ⟨fun q => absurd q (by decide), fun _ => ⟨wt, r_isT R A hp (fun _ => ⟨fun _ => ⟨rfl, rfl, rfl, rfl, by omega, by omega, by omega, by omega, Fl.go 300 (by omega)⟩, fun q => absurd (by decide) q⟩)⟩⟩)⟩
  · refine ⟨-2, fun Q hQ => ?_, fun M1 Q R hQ => ?_⟩
    · have W := C.1
      refine rn_X11_countOf _ _ _ M (sg_X11_countOf_0 _ _ _ M ?_)
      by_cases ht : 0 ≤ t ∧ t < T.1
      · by_cases hs : 0 ≤ p ∧ p < T.1
        · obtain ⟨TT, e1, e2, e3, e4, e5, e6, e7, e8⟩ := c_txt C A ht
          obtain ⟨SS, p1, p2, p3, p4, p5, p6, p7, p8⟩ := c_txt C A hs
          repeat' first | rw [wa_1200 W] | (refine c_lkT C A hX ht ?_) | (refine c_lkT C A hX hs ?_) | apply And.intro | intro _ | exact wt | exact wa_t W | exact w_shelf_t W | assumption | exact Or.inl rfl | exact Or.inr rfl | rfl | omega | (unfold jR; omega)
        · repeat' first | rw [wa_1200 W] | (refine c_lkT C A hX ht ?_) | (refine c_lkF C A hX hs ?_) | apply And.intro | intro _ | exact wt | exact wa_t W | exact w_shelf_t W | assumption | exact Or.inl rfl | exact Or.inr rfl | rfl | omega | (unfold jR; omega)
      · by_cases hs : 0 ≤ p ∧ p < T.1
        · repeat' first | rw [wa_1200 W] | (refine c_lkF C A hX ht ?_) | (refine c_lkT C A hX hs ?_) | apply And.intro | intro _ | exact wt | exact wa_t W | exact w_shelf_t W | assumption | exact Or.inl rfl | exact Or.inr rfl | rfl | omega | (unfold jR; omega)
        · repeat' first | rw [wa_1200 W] | (refine c_lkF C A hX ht ?_) | (refine c_lkF C A hX hs ?_) | apply And.intro | intro _ | exact wt | exact wa_t W | exact w_shelf_t W | assumption | exact Or.inl rfl | exact Or.inr rfl | rfl | omega | (unfold jR; omega)
    · have W := R.1
      have wt := w_model_t W
      refine lp_X12_countOf (fun _ _ _ _ _ _ => False) (fun _ _ _ _ _ => 0) (fun _ _ _ _ _ _ g => g.elim) _ _ _ M1 ?_
      by_cases ht : 0 ≤ t ∧ t < T.1
      · by_cases hs : 0 ≤ p ∧ p < T.1
        · obtain ⟨z1, z2, z3, z4, z5⟩ := r_txt R A ht
          obtain ⟨y1, y2, y3, y4, y5⟩ := r_txt R A hs
          repeat' first | rw [wa_1200 W] | (refine r_isT R A ht ?_) | (refine r_isT R A hs ?_) | apply And.intro | intro _ | exact wt | exact wa_t W | exact w_shelf_t W | assumption | exact Or.inl rfl | exact Or.inr rfl | rfl | omega | (unfold jR; omega)
        · repeat' first | rw [wa_1200 W] | (refine r_isT R A ht ?_) | (refine r_isF R A hs ?_) | apply And.intro | intro _ | exact wt | exact wa_t W | exact w_shelf_t W | assumption | exact Or.inl rfl | exact Or.inr rfl | rfl | omega | (unfold jR; omega)
      · by_cases hs : 0 ≤ p ∧ p < T.1
        · repeat' first | rw [wa_1200 W] | (refine r_isF R A ht ?_) | (refine r_isT R A hs ?_) | apply And.intro | intro _ | exact wt | exact wa_t W | exact w_shelf_t W | assumption | exact Or.inl rfl | exact Or.inr rfl | rfl | omega | (unfold jR; omega)
        · repeat' first | rw [wa_1200 W] | (refine r_isF R A ht ?_) | (refine r_isF R A hs ?_) | apply And.intro | intro _ | exact wt | exact wa_t W | exact w_shelf_t W | assumption | exact Or.inl rfl | exact Or.inr rfl | rfl | omega | (unfold jR; omega)
theorem st_equalParts (t i s j m : Int) : JSt (IV X) 3072 G X 123 195 [(0, t), (0, i), (0, s), (0, j), (0, m)] := mk_obs fun n M T K P D C H A hX => by
  by_cases hv : (0 ≤ t ∧ t < T.1) ∧ (0 ≤ s ∧ s < T.1) ∧ (0 ≤ i ∧ 0 ≤ m ∧ i + m ≤ T.2.1 t) ∧ (0 ≤ j ∧ 0 ≤ m ∧ j + m ≤ T.2.1 s)
  · obtain ⟨ht, hs, hi, hj⟩ := hv
    refine ⟨cif (∀ k, 0 ≤ k → k < m → T.2.2 t (i + k) = T.2.2 s (j + k)) 1 0, fun Q hQ => ?_, fun M1 Q R hQ => ?_⟩
    · have W := C.1
      obtain ⟨TT, e1, e2, e3, e4, e5, e6, e7, e8⟩ := c_txt C A ht
      obtain ⟨SS, p1, p2, p3, p4, p5, p6, p7, p8⟩ := c_txt C A hs
      refine lp_X11_equalParts (fun v2 v4 v5 v6 v7 v8 N => M = N ∧ i = v2 ∧ j = v4 ∧ m = v5 ∧ X + (4 + 2 * t) = v6 ∧ X + (4 + 2 * s) = v7 ∧ 0 ≤ v8 ∧ v8 ≤ m ∧ ∀ k, 0 ≤ k → k < v8 → T.2.2 t (i + k) = T.2.2 s (j + k)) (fun _ _ _ _ _ v8 => (1000 - v8).toNat) ?_ _ _ _ _ _ _ M ?_
      · rintro v2 v4 v5 v6 v7 v8 N ⟨rfl, rfl, rfl, rfl, rfl, rfl, i1, i2, i3⟩
        rw [e2, p2]
        refine ⟨fun q => ?_, fun q => ?_⟩
        · rw [cif_t (fun k k0 k1 => i3 k k0 (by omega))] at hQ; exact hQ
        · rw [e3 (i + v8) (by omega) (by omega), p3 (j + v8) (by omega) (by omega)]
          refine ⟨e4, by unfold jR; omega, ⟨e5, by omega, by omega⟩, p4, by unfold jR; omega, ⟨p5, by omega, by omega⟩, fun e => ⟨by unfold jR; omega, ⟨rfl, rfl, rfl, rfl, rfl, rfl, by omega, by omega, fun k k0 k1 => ?_⟩, by omega⟩, fun e => ?_⟩
          · by_cases hk : k = v8
            · rw [hk]; exact e
            · exact i3 k k0 (by omega)
          · rw [cif_f (fun z => e (z v8 i1 (by omega)))] at hQ; exact hQ
      · rw [wa_1200 W]
        refine ⟨wa_t W, w_shelf_t W, c_lkT C A hX ht (fun _ => ⟨wa_t W, by rw [wa_1200 W]; exact w_shelf_t W, ?_⟩)⟩
        rw [wa_1200 W]
        exact c_lkT C A hX hs (fun _ => ⟨fun q => absurd q (by omega), fun _ => ⟨fun q => absurd q (by omega), fun _ => ⟨e4, c_hasSome TT (fun _ _ _ _ => ⟨fun q => absurd q (by decide), fun _ => ⟨p4, c_hasSome SS (fun _ _ _ _ => ⟨fun _ => ⟨rfl, rfl, rfl, rfl, rfl, rfl, by omega, by omega, fun k k0 k1 => by omega⟩, fun q => absurd (by decide) q⟩) (fun q => absurd ⟨hj.1, hj.2.1, by omega⟩ q)⟩⟩) (fun q => absurd ⟨hi.1, hi.2.1, by omega⟩ q)⟩⟩⟩)
    · have W := R.1
      have wt := w_model_t W
      obtain ⟨z1, z2, z3, z4, z5⟩ := r_txt R A ht
      obtain ⟨y1, y2, y3, y4, y5⟩ := r_txt R A hs
      refine lp_X12_equalParts (fun v0 v1 v2 v3 v4 v5 v6 N => M1 = N ∧ X + 218 = v0 ∧ t = v1 ∧ i = v2 ∧ s = v3 ∧ j = v4 ∧ m = v5 ∧ 0 ≤ v6 ∧ v6 ≤ m ∧ ∀ k, 0 ≤ k → k < v6 → T.2.2 t (i + k) = T.2.2 s (j + k)) (fun _ _ _ _ _ _ v6 => (1000 - v6).toNat) ?_ _ _ _ _ _ _ M1 ?_
      · rintro v0 v1 v2 v3 v4 v5 v6 N ⟨rfl, rfl, rfl, rfl, rfl, rfl, rfl, i1, i2, i3⟩
        refine ⟨fun q => ?_, fun q => ⟨by unfold jR; omega, wt, r_un R A ht (by omega) (by omega) (fun _ => ⟨by unfold jR; omega, wt, r_un R A hs (by omega) (by omega) (fun _ => ⟨fun e => ⟨by unfold jR; omega, ⟨rfl, rfl, rfl, rfl, rfl, rfl, rfl, by omega, by omega, fun k k0 k1 => ?_⟩, by omega⟩, fun e => ?_⟩)⟩)⟩⟩
        · rw [cif_t (fun k k0 k1 => i3 k k0 (by omega))] at hQ; exact hQ
        · by_cases hk : k = v6
          · rw [hk]; exact e
          · exact i3 k k0 (by omega)
        · rw [cif_f (fun z => e (z v6 i1 (by omega)))] at hQ; exact hQ
      · refine ⟨wt, r_isT R A ht (fun _ => ⟨fun q => absurd q (by decide), fun _ => ⟨wt, r_isT R A hs (fun _ => ⟨fun q => absurd q (by decide), fun _ => ⟨fun q => absurd q (by omega), fun _ => ⟨fun q => absurd q (by omega), fun _ => ⟨fun q => absurd q (by omega), fun _ => ⟨wt, ?_⟩⟩⟩⟩⟩)⟩⟩)⟩
        rw [w_model_1301 W, w_m1301_t W, w_m1301_n W, z1, y1]
        exact ⟨⟨rfl, ht.1, z3⟩, fun q => absurd q (by omega), fun _ => ⟨wt, ⟨rfl, ht.1, z3⟩, by unfold jR; omega, fun q => absurd q (by omega), fun _ => ⟨wt, ⟨rfl, hs.1, y3⟩, fun q => absurd q (by omega), fun _ => ⟨wt, ⟨rfl, hs.1, y3⟩, by unfold jR; omega, fun _ => ⟨rfl, rfl, rfl, rfl, rfl, rfl, rfl, by omega, by omega, fun k k0 k1 => by omega⟩, fun q => absurd (by omega) q⟩⟩⟩⟩
  · refine ⟨-2, fun Q hQ => ?_, fun M1 Q R hQ => ?_⟩
    · have W := C.1
      refine lp_X11_equalParts (fun _ _ _ _ _ _ _ => False) (fun _ _ _ _ _ _ => 0) (fun _ _ _ _ _ _ _ g => g.elim) _ _ _ _ _ _ M ?_
      by_cases ht : 0 ≤ t ∧ t < T.1
      · by_cases hs : 0 ≤ s ∧ s < T.1
        · obtain ⟨TT, e1, e2, e3, e4, e5, e6, e7, e8⟩ := c_txt C A ht
          obtain ⟨SS, p1, p2, p3, p4, p5, p6, p7, p8⟩ := c_txt C A hs
          repeat' first | rw [wa_1200 W] | (refine c_lkT C A hX ht ?_) | (refine c_lkT C A hX hs ?_) | (refine c_hasSome TT ?_ ?_) | (refine c_hasSome SS ?_ ?_) | apply And.intro | intro _ | exact wt | exact wa_t W | exact w_shelf_t W | assumption | exact Or.inl rfl | exact Or.inr rfl | rfl | omega | (unfold jR; omega)
        · repeat' first | rw [wa_1200 W] | (refine c_lkT C A hX ht ?_) | (refine c_lkF C A hX hs ?_) | (refine c_hasSome TT ?_ ?_) | (refine c_hasSome SS ?_ ?_) | apply And.intro | intro _ | exact wt | exact wa_t W | exact w_shelf_t W | assumption | exact Or.inl rfl | exact Or.inr rfl | rfl | omega | (unfold jR; omega)
      · by_cases hs : 0 ≤ s ∧ s < T.1
        · repeat' first | rw [wa_1200 W] | (refine c_lkF C A hX ht ?_) | (refine c_lkT C A hX hs ?_) | (refine c_hasSome TT ?_ ?_) | (refine c_hasSome SS ?_ ?_) | apply And.intro | intro _ | exact wt | exact wa_t W | exact w_shelf_t W | assumption | exact Or.inl rfl | exact Or.inr rfl | rfl | omega | (unfold jR; omega)
        · repeat' first | rw [wa_1200 W] | (refine c_lkF C A hX ht ?_) | (refine c_lkF C A hX hs ?_) | (refine c_hasSome TT ?_ ?_) | (refine c_hasSome SS ?_ ?_) | apply And.intro | intro _ | exact wt | exact wa_t W | exact w_shelf_t W | assumption | exact Or.inl rfl | exact Or.inr rfl | rfl | omega | (unfold jR; omega)
    · have W := R.1
      have wt := w_model_t W
      refine lp_X12_equalParts (fun _ _ _ _ _ _ _ _ => False) (fun _ _ _ _ _ _ _ => 0) (fun _ _ _ _ _ _ _ _ g => g.elim) _ _ _ _ _ _ M1 ?_
      by_cases ht : 0 ≤ t ∧ t < T.1
      · by_cases hs : 0 ≤ s ∧ s < T.1
        · obtain ⟨z1, z2, z3, z4, z5⟩ := r_txt R A ht
          obtain ⟨y1, y2, y3, y4, y5⟩ := r_txt R A hs
          repeat' first | rw [wa_1200 W] | (refine r_isT R A ht ?_) | (refine r_isT R A hs ?_) | (rw [w_model_1301 W]) | (rw [w_m1301_n W]) | exact w_m1301_t W | (rw [z1]) | (rw [y1]) | apply And.intro | intro _ | exact wt | exact wa_t W | exact w_shelf_t W | assumption | exact Or.inl rfl | exact Or.inr rfl | rfl | omega | (unfold jR; omega)
        · repeat' first | rw [wa_1200 W] | (refine r_isT R A ht ?_) | (refine r_isF R A hs ?_) | (rw [w_model_1301 W]) | (rw [w_m1301_n W]) | exact w_m1301_t W | (rw [z1]) | (rw [y1]) | apply And.intro | intro _ | exact wt | exact wa_t W | exact w_shelf_t W | assumption | exact Or.inl rfl | exact Or.inr rfl | rfl | omega | (unfold jR; omega)
      · by_cases hs : 0 ≤ s ∧ s < T.1
        · repeat' first | rw [wa_1200 W] | (refine r_isF R A ht ?_) | (refine r_isT R A hs ?_) | (rw [w_model_1301 W]) | (rw [w_m1301_n W]) | exact w_m1301_t W | (rw [z1]) | (rw [y1]) | apply And.intro | intro _ | exact wt | exact wa_t W | exact w_shelf_t W | assumption | exact Or.inl rfl | exact Or.inr rfl | rfl | omega | (unfold jR; omega)
        · repeat' first | rw [wa_1200 W] | (refine r_isF R A ht ?_) | (refine r_isF R A hs ?_) | (rw [w_model_1301 W]) | (rw [w_m1301_n W]) | exact w_m1301_t W | (rw [z1]) | (rw [y1]) | apply And.intro | intro _ | exact wt | exact wa_t W | exact w_shelf_t W | assumption | exact Or.inl rfl | exact Or.inr rfl | rfl | omega | (unfold jR; omega)
theorem st_common (t i j : Int) : JSt (IV X) 3072 G X 126 202 [(0, t), (0, i), (0, j)] := mk_sc fun n M T K P D C H A hX => by
  by_cases hv : (0 ≤ t ∧ t < T.1) ∧ (0 ≤ i ∧ i < T.2.1 t) ∧ (0 ≤ j ∧ j < T.2.1 t)
  · obtain ⟨ht, hi, hj⟩ := hv
    refine ⟨lcp2 (T.2.1 t) (T.2.2 t) (T.2.1 t) (T.2.2 t) i j, fun Q hQ => ?_, fun M1 Q R hQ => ?_⟩
    · have hQ := hQ M (FrC.refl X M) C H rfl rfl
      have W := C.1
      obtain ⟨TT, e1, e2, e3, e4, e5, e6, e7, e8⟩ := c_txt C A ht
      have fin : ∀ v, 0 ≤ v → i + v ≤ T.2.1 t → j + v ≤ T.2.1 t → (∀ k, 0 ≤ k → k < v → T.2.2 t (i + k) = T.2.2 t (j + k)) → ¬ (i + v < T.2.1 t ∧ j + v < T.2.1 t ∧ T.2.2 t (i + v) = T.2.2 t (j + v)) → Q v M := fun v h0 h1 h2 h3 h4 => by
        rw [lcp2_eq (c := v) ⟨h0, Or.inr ⟨h1, h2⟩, h3, h4⟩] at hQ; exact hQ
      refine lp_X11_common (fun v2 v3 v4 v5 v6 N => M = N ∧ i = v2 ∧ j = v3 ∧ X + (4 + 2 * t) = v4 ∧ v5 = v6 ∧ 0 ≤ v6 ∧ i + v6 ≤ T.2.1 t ∧ j + v6 ≤ T.2.1 t ∧ ∀ k, 0 ≤ k → k < v6 → T.2.2 t (i + k) = T.2.2 t (j + k)) (fun _ _ _ _ v6 => (1000 - v6).toNat) ?_ _ _ _ _ M ?_
      · rintro v2 v3 v4 v5 v6 N ⟨rfl, rfl, rfl, rfl, rfl, i1, i2, i3, i4⟩
        rw [e1, e2]
        refine ⟨by unfold jR; omega, e4, fun q => fin _ i1 i2 i3 i4 (by omega), fun q => ⟨by unfold jR; omega, e4, fun q2 => fin _ i1 i2 i3 i4 (by omega), fun q2 => ?_⟩⟩
        rw [e3 (i + v5) (by omega) (by omega), e3 (j + v5) (by omega) (by omega)]
        refine ⟨e4, by unfold jR; omega, ⟨e5, by omega, by omega⟩, e4, by unfold jR; omega, ⟨e5, by omega, by omega⟩, fun e => ⟨by unfold jR; omega, by unfold jR; omega, ⟨rfl, rfl, rfl, rfl, rfl, by omega, by omega, by omega, fun k k0 k1 => ?_⟩, by omega⟩, fun e => fin _ i1 i2 i3 i4 (fun z => e z.2.2)⟩
        by_cases hk : k = v5
        · rw [hk]; exact e
        · exact i4 k k0 (by omega)
      · rw [wa_1200 W]
        exact ⟨wa_t W, w_shelf_t W, c_lkT C A hX ht (fun _ => ⟨fun q => absurd q (by omega), fun _ => ⟨e4, c_hasPlace TT (fun _ _ _ => ⟨fun q => absurd q (by decide), fun _ => ⟨e4, c_hasPlace TT (fun _ _ _ => ⟨fun _ => ⟨rfl, rfl, rfl, rfl, rfl, by omega, by omega, by omega, fun k k0 k1 => by omega⟩, fun q => absurd (by decide) q⟩) (fun q => absurd ⟨hj.1, by omega⟩ q)⟩⟩) (fun q => absurd ⟨hi.1, by omega⟩ q)⟩⟩)⟩
    · have W := R.1
      have wt := w_model_t W
      obtain ⟨z1, z2, z3, z4, z5⟩ := r_txt R A ht
      refine rn_X12_common _ _ _ _ M1 (sg_X12_common_0 _ _ _ _ M1 ⟨wt, r_isPlace R.1 R.2.1 A.1 (fun _ _ _ _ _ => ⟨fun q => absurd q (by decide), fun _ => ⟨wt, r_isPlace R.1 R.2.1 A.1 (fun _ _ _ _ _ => ⟨fun _ => ⟨wt, r_look R.1 R.2.1 A.1 ht ht (fun M2 lk lv _ => ?_)⟩, fun q => absurd (by decide) q⟩) (fun q => absurd ⟨ht.1, ht.2, hj⟩ q)⟩⟩) (fun q => absurd ⟨ht.1, ht.2, hi⟩ q)⟩)
      have W2 := lk.W W
      rw [w_model_1308 W2, w_m1308_t W2, w_m1308_n W2, lv i j hi.1 (by omega) hj.1 (by omega)]
      exact ⟨w_model_t W2, by unfold jR; omega, by unfold jR; omega, ⟨rfl, by omega, by omega⟩, hQ M2 lk.FrR (lk.RI R)⟩
  · refine ⟨-2, fun Q hQ => ?_, fun M1 Q R hQ => ?_⟩
    · have hQ := hQ M (FrC.refl X M) C H rfl rfl
      have W := C.1
      refine lp_X11_common (fun _ _ _ _ _ _ => False) (fun _ _ _ _ _ => 0) (fun _ _ _ _ _ _ g => g.elim) _ _ _ _ M ?_
      by_cases ht : 0 ≤ t ∧ t < T.1
      · obtain ⟨TT, e1, e2, e3, e4, e5, e6, e7, e8⟩ := c_txt C A ht
        repeat' first | rw [wa_1200 W] | (refine c_lkT C A hX ht ?_) | (refine c_hasPlace TT ?_ ?_) | apply And.intro | intro _ | exact wt | exact wa_t W | exact w_shelf_t W | assumption | exact Or.inl rfl | exact Or.inr rfl | rfl | omega | (unfold jR; omega)
      · repeat' first | rw [wa_1200 W] | (refine c_lkF C A hX ht ?_) | apply And.intro | intro _ | exact wt | exact wa_t W | exact w_shelf_t W | assumption | exact Or.inl rfl | exact Or.inr rfl | rfl | omega | (unfold jR; omega)
    · have hQ := hQ M1 (FrR.refl X M1) R
      have W := R.1
      have wt := w_model_t W
      refine rn_X12_common _ _ _ _ M1 (sg_X12_common_0 _ _ _ _ M1 ?_)
      repeat' first | rw [wa_1200 W] | (refine r_isPlace R.1 R.2.1 A.1 ?_ ?_) | apply And.intro | intro _ | exact wt | exact wa_t W | exact w_shelf_t W | assumption | exact Or.inl rfl | exact Or.inr rfl | rfl | omega | (unfold jR; omega)
end PLACE2
