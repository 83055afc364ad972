/-! steps: order, equalParts, common -/
noncomputable def otl (n m : Int) : Int := if n = m then 0 else if n < m then -1 else 1
noncomputable def ordF (n : Int) (f : Int → Int) (m : Int) (g : Int → Int) : Nat → Int → Int
  | 0, _ => otl n m
  | k + 1, i => cif (i < n ∧ i < m) (cif (f i = g i) (ordF n f m g k (i + 1)) (cif (f i < g i) (-1) 1)) (otl n m)
noncomputable def orpF (n : Int) (f : Int → Int) (m : Int) (g : Int → Int) : Nat → Int → Int
  | 0, _ => otl n m
  | k + 1, i => cif (i < n ∧ i < m) (cif (ptAt n f i = ptAt m g i) (orpF n f m g k (nx n f i)) (cif (ptAt n f i < ptAt m g i) (-1) 1)) (otl n m)
theorem ordF_z {n m i : Int} {f g : Int → Int} (h : ¬ (i < n ∧ i < m)) : ∀ k, ordF n f m g k i = otl n m
  | 0 => rfl
  | _ + 1 => cif_f h
theorem orpF_z {n m i : Int} {f g : Int → Int} (h : ¬ (i < n ∧ i < m)) : ∀ k, orpF n f m g k i = otl n m
  | 0 => rfl
  | _ + 1 => cif_f h
theorem pt_same {n m i : Int} {f g : Int → Int} (hf : AU n f) (hg : AU m g) (h0 : 0 ≤ i) (h1 : i < n) (h2 : i < m) (e : ptAt n f i = ptAt m g i) : isP n f i ↔ isP m g i := by
  have a := (hf.2.2 i h0 h1)
  have b := (hg.2.2 i h0 h2)
  constructor
  · intro h
    rcases Classical.em (isP m g i) with q | q
    · exact q
    · rw [ptAt_pair h, ptAt_one q] at e
      obtain ⟨c1, c2, c3, c4, c5, c6⟩ := h
      omega
  · intro h
    rcases Classical.em (isP n f i) with q | q
    · exact q
    · rw [ptAt_pair h, ptAt_one q] at e
      obtain ⟨c1, c2, c3, c4, c5, c6⟩ := h
      omega
section ORDER
variable {G : JG} {X : Int}
section ORD1
variable {Q : Int → JM → Prop} {M : JM} {n t s : Int} {T : ATx} {K : AKp} {P : ATx} {D : ADt}
theorem c_bySz (C : CB X n M T K P D) (A : AI T K P D) (ht : 0 ≤ t ∧ t < T.1) (hs : 0 ≤ s ∧ s < T.1) (h : Q (otl (T.2.1 t) (T.2.1 s)) M) : Runs G 99 0 0 [(1, X + (4 + 2 * t)), (1, X + (4 + 2 * s))] M Q := by
  obtain ⟨TT, e1, -⟩ := c_txt C A ht
  obtain ⟨SS, p1, -⟩ := c_txt C A hs
  refine c_bySize TT SS ?_
  rw [e1, p1]
  exact h
theorem c_against (C : CB X n M T K P D) (A : AI T K P D) (ht : 0 ≤ t ∧ t < T.1) (hs : 0 ≤ s ∧ s < T.1) (h : Q (ordF (T.2.1 t) (T.2.2 t) (T.2.1 s) (T.2.2 s) 241 0) M) : Runs G 97 0 0 [(1, X + (4 + 2 * t)), (1, X + (4 + 2 * s))] M Q := by
  obtain ⟨TT, e1, e2, e3, e4, e5, e6, e7, e8⟩ := c_txt C A ht
  obtain ⟨SS, p1, p2, p3, p4, p5, p6, p7, p8⟩ := c_txt C A hs
  refine lp_X9_against (fun v0 v1 v2 N => M = N ∧ X + (4 + 2 * t) = v0 ∧ X + (4 + 2 * s) = v1 ∧ 0 ≤ v2 ∧ v2 ≤ 300 ∧ Fl (fun k => ordF (T.2.1 t) (T.2.2 t) (T.2.1 s) (T.2.2 s) k v2) (T.2.1 t - v2) (ordF (T.2.1 t) (T.2.2 t) (T.2.1 s) (T.2.2 s) 241 0)) (fun _ _ v2 => (1000 - v2).toNat) ?_ _ _ M ⟨rfl, rfl, rfl, by omega, by omega, Fl.go 241 (by omega)⟩
  rintro v0 v1 v2 N ⟨rfl, rfl, rfl, i1, i2, i3⟩
  rw [e1, p1, e2, p2]
  refine ⟨e4, fun q => ⟨e4, c_bySz C A ht hs (fun _ => ?_)⟩, fun q => ⟨p4, fun q2 => ⟨e4, c_bySz C A ht hs (fun _ => ?_)⟩, fun q2 => ?_⟩⟩
  · rw [i3.stop (ordF_z (by omega))] at h; exact h
  · rw [i3.stop (ordF_z (by omega))] at h; exact h
  · rw [e3 v2 i1 (by omega), p3 v2 i1 (by omega)]
    refine ⟨e4, ⟨e5, i1, by omega⟩, p4, ⟨p5, i1, by omega⟩, fun q3 => ⟨by unfold jR; omega, ⟨rfl, rfl, rfl, by omega, by omega, i3.step (by omega) (fun k => (cif_t (by omega)).trans (cif_t q3)) (by omega)⟩, by omega⟩, fun q3 => ⟨e4, ⟨e5, i1, by omega⟩, p4, ⟨p5, i1, by omega⟩, fun q4 => ?_, fun q4 => ?_⟩⟩
    · rw [i3.done (v := 1) (by omega) (fun k => ((cif_t (by omega)).trans (cif_f q3)).trans (cif_f (by omega)))] at h; exact h
    · rw [i3.done (v := -1) (by omega) (fun k => ((cif_t (by omega)).trans (cif_f q3)).trans (cif_t (by omega)))] at h; exact h
theorem c_againstP (C : CB X n M T K P D) (A : AI T K P D) (ht : 0 ≤ t ∧ t < T.1) (hs : 0 ≤ s ∧ s < T.1) (h : Q (orpF (T.2.1 t) (T.2.2 t) (T.2.1 s) (T.2.2 s) 241 0) M) : Runs G 98 0 0 [(1, X + (4 + 2 * t)), (1, X + (4 + 2 * s))] M Q := by
  obtain ⟨TT, e1, e2, e3, e4, e5, e6, e7, e8⟩ := c_txt C A ht
  obtain ⟨SS, p1, p2, p3, p4, p5, p6, p7, p8⟩ := c_txt C A hs
  refine lp_X9_againstByPoints (fun v0 v1 v2 N => M = N ∧ X + (4 + 2 * t) = v0 ∧ X + (4 + 2 * s) = v1 ∧ 0 ≤ v2 ∧ v2 ≤ 300 ∧ Fl (fun k => orpF (T.2.1 t) (T.2.2 t) (T.2.1 s) (T.2.2 s) k v2) (T.2.1 t - v2) (orpF (T.2.1 t) (T.2.2 t) (T.2.1 s) (T.2.2 s) 241 0)) (fun _ _ v2 => (1000 - v2).toNat) ?_ _ _ M ⟨rfl, rfl, rfl, by omega, by omega, Fl.go 241 (by omega)⟩
  rintro v0 v1 v2 N ⟨rfl, rfl, rfl, i1, i2, i3⟩
  rw [e1, p1]
  refine ⟨e4, fun q => ⟨e4, c_bySz C A ht hs (fun _ => ?_)⟩, fun q => ⟨p4, fun q2 => ⟨e4, c_bySz C A ht hs (fun _ => ?_)⟩, fun q2 => ⟨e4, c_ptF C A ht i1 (by omega) (fun _ => ⟨p4, c_ptF C A hs i1 (by omega) (fun _ => ⟨fun q3 => ⟨e4, c_isPr C A ht (by omega) (fun g2 _ => ⟨fun q => absurd q (by decide), fun _ => ⟨by unfold jR; omega, by unfold jR; omega, ⟨rfl, rfl, rfl, by omega, by omega, ?_⟩, by omega⟩⟩) (fun g2 _ => ⟨fun _ => ⟨by unfold jR; omega, ⟨rfl, rfl, rfl, by omega, by omega, ?_⟩, by omega⟩, fun q => absurd rfl q⟩)⟩, fun q3 => ⟨fun q4 => ?_, fun q4 => ?_⟩⟩)⟩)⟩⟩⟩
  · rw [i3.stop (orpF_z (by omega))] at h; exact h
  · rw [i3.stop (orpF_z (by omega))] at h; exact h
  · have i4 := i3.step (F' := fun k => orpF (T.2.1 t) (T.2.2 t) (T.2.1 s) (T.2.2 s) k (nx (T.2.1 t) (T.2.2 t) v2)) (m' := T.2.1 t - v2 - 1) (by omega) (fun k => (cif_t (by omega)).trans (cif_t q3)) (by omega)
    rw [nx_t g2] at i4
    rw [show v2 + 1 + 1 = v2 + 2 by omega]
    obtain ⟨k, k1, k2⟩ := i4
    exact ⟨k, by omega, k2⟩
  · have i4 := i3.step (F' := fun k => orpF (T.2.1 t) (T.2.2 t) (T.2.1 s) (T.2.2 s) k (nx (T.2.1 t) (T.2.2 t) v2)) (m' := T.2.1 t - v2 - 1) (by omega) (fun k => (cif_t (by omega)).trans (cif_t q3)) (by omega)
    rw [nx_f g2] at i4
    obtain ⟨k, k1, k2⟩ := i4
    exact ⟨k, by omega, k2⟩
  · rw [i3.done (v := 1) (by omega) (fun k => ((cif_t (by omega)).trans (cif_f q3)).trans (cif_f (by omega)))] at h; exact h
  · rw [i3.done (v := -1) (by omega) (fun k => ((cif_t (by omega)).trans (cif_f q3)).trans (cif_t (by omega)))] at h; exact h
end ORD1
set_option maxHeartbeats 1000000 in
theorem st_order (t s b : Int) : JSt (IV X) 3072 G X 122 194 [(0, t), (0, s), (0, b)] := mk_obs fun n M T K P D C H A hX => by
  by_cases hv : (0 ≤ t ∧ t < T.1) ∧ (0 ≤ s ∧ s < T.1)
  · obtain ⟨ht, hs⟩ := hv
    have At := A.1.2.2 t ht.1 ht.2
    have As := A.1.2.2 s hs.1 hs.2
    refine ⟨if b = 0 then ordF (T.2.1 t) (T.2.2 t) (T.2.1 s) (T.2.2 s) 241 0 else orpF (T.2.1 t) (T.2.2 t) (T.2.1 s) (T.2.2 s) 241 0, fun Q hQ => ?_, fun M1 Q R hQ => ?_⟩
    · have W := C.1
      obtain ⟨TT, e1, e2, e3, e4, e5, e6, e7, e8⟩ := c_txt C A ht
      refine rn_X11_order _ _ _ _ M (sg_X11_order_0 _ _ _ _ M ?_)
      rw [wa_1200 W]
      refine ⟨wa_t W, w_shelf_t W, c_lkT C A hX ht (fun _ => ⟨wa_t W, by rw [wa_1200 W]; exact w_shelf_t W, ?_⟩)⟩
      rw [wa_1200 W]
      refine c_lkT C A hX hs (fun _ => ⟨fun q => absurd q (by omega), fun _ => ⟨fun q => absurd q (by omega), fun _ => ⟨fun q => ⟨e4, c_against C A ht hs (fun _ => ?_)⟩, fun q => ⟨e4, c_againstP C A ht hs (fun _ => ?_)⟩⟩⟩⟩)
      · rw [if_pos q] at hQ; exact hQ
      · rw [if_neg q] at hQ; exact hQ
    · have W := R.1
      have wt := w_model_t W
      obtain ⟨z1, z2, z3, z4, z5⟩ := r_txt R A ht
      obtain ⟨y1, y2, y3, y4, y5⟩ := r_txt R A hs
      by_cases hb : b = 0
      · rw [if_pos hb] at hQ
        refine lp_X12_order (fun v0 v1 v2 v3 v4 v5 N => M1 = N ∧ X + 218 = v0 ∧ t = v1 ∧ s = v2 ∧ b = v3 ∧ v4 = v5 ∧ 0 ≤ v5 ∧ v5 ≤ 300 ∧ v5 ≤ T.2.1 t ∧ v5 ≤ T.2.1 s ∧ Fl (fun k => ordF (T.2.1 t) (T.2.2 t) (T.2.1 s) (T.2.2 s) k v5) (T.2.1 t - v5) (ordF (T.2.1 t) (T.2.2 t) (T.2.1 s) (T.2.2 s) 241 0)) (fun _ _ _ _ _ v5 => (1000 - v5).toNat) ?_ _ _ _ _ M1 ?_
        · rintro v0 v1 v2 v3 v4 v5 N ⟨rfl, rfl, rfl, rfl, rfl, rfl, i1, i2, j1, j2, i3⟩
          rw [w_model_1301 W, w_m1301_t W, w_m1301_n W, z1, y1]
          have l1 : (1 : Int) = 1 ∧ 0 ≤ t ∧ t < 40 := ⟨rfl, ht.1, z3⟩
          have l2 : (1 : Int) = 1 ∧ 0 ≤ s ∧ s < 40 := ⟨rfl, hs.1, y3⟩
          refine ⟨wt, l1, fun g => ⟨wt, l1, fun _ => ⟨wt, l2, fun g5 => ?_, fun g5 => ?_⟩, fun q => absurd g q⟩, fun g => ⟨wt, l2, fun g5 => ⟨wt, l1, fun q => absurd q g, fun _ => ?_⟩, fun g5 => ⟨fun _ => ⟨wt, r_un R A ht i1 (by omega) (fun _ => ⟨fun _ => ⟨wt, r_un R A hs i1 (by omega) (fun _ => ⟨fun e => ⟨fun _ => ⟨by unfold jR; omega, fun _ => ⟨by unfold jR; omega, ⟨rfl, rfl, rfl, rfl, rfl, rfl, by omega, by omega, by omega, by omega, ?_⟩, by omega⟩, fun q => absurd hb q⟩, fun q => absurd hb q⟩, fun e => ⟨fun le => ?_, fun le => ?_⟩⟩)⟩, fun q => absurd hb q⟩)⟩, fun q => absurd hb q⟩⟩⟩
          · have e := i3.stop (ordF_z (by omega))
            unfold otl at e
            rw [if_pos (by omega)] at e
            rw [e] at hQ; exact hQ
          · have e := i3.stop (ordF_z (by omega))
            unfold otl at e
            rw [if_neg (by omega), if_pos (by omega)] at e
            rw [e] at hQ; exact hQ
          · have e := i3.stop (ordF_z (by omega))
            unfold otl at e
            rw [if_neg (by omega), if_neg (by omega)] at e
            rw [e] at hQ; exact hQ
          · exact i3.step (by omega) (fun k => (cif_t (by omega)).trans (cif_t e)) (by omega)
          · rw [i3.done (v := 1) (by omega) (fun k => ((cif_t (by omega)).trans (cif_f e)).trans (cif_f (by omega)))] at hQ; exact hQ
          · rw [i3.done (v := -1) (by omega) (fun k => ((cif_t (by omega)).trans (cif_f e)).trans (cif_t (by omega)))] at hQ; exact hQ
        · exact ⟨wt, r_isT R A ht (fun _ => ⟨fun q => absurd q (by decide), fun _ => ⟨wt, r_isT R A hs (fun _ => ⟨fun _ => ⟨rfl, rfl, rfl, rfl, rfl, rfl, by omega, by omega, by omega, by omega, Fl.go 241 (by omega)⟩, fun q => absurd (by decide) q⟩)⟩⟩)⟩
      · rw [if_neg hb] at hQ
        refine lp_X12_order (fun v0 v1 v2 v3 v4 v5 N => M1 = N ∧ X + 218 = v0 ∧ t = v1 ∧ s = v2 ∧ b = v3 ∧ v4 = v5 ∧ 0 ≤ v5 ∧ v5 ≤ 300 ∧ v5 ≤ T.2.1 t ∧ v5 ≤ T.2.1 s ∧ Fl (fun k => orpF (T.2.1 t) (T.2.2 t) (T.2.1 s) (T.2.2 s) k v5) (T.2.1 t - v5) (orpF (T.2.1 t) (T.2.2 t) (T.2.1 s) (T.2.2 s) 241 0)) (fun _ _ _ _ _ v5 => (1000 - v5).toNat) ?_ _ _ _ _ M1 ?_
        · rintro v0 v1 v2 v3 v4 v5 N ⟨rfl, rfl, rfl, rfl, rfl, rfl, i1, i2, j1, j2, i3⟩
          rw [w_model_1301 W, w_m1301_t W, w_m1301_n W, z1, y1]
          have l1 : (1 : Int) = 1 ∧ 0 ≤ t ∧ t < 40 := ⟨rfl, ht.1, z3⟩
          have l2 : (1 : Int) = 1 ∧ 0 ≤ s ∧ s < 40 := ⟨rfl, hs.1, y3⟩
          refine ⟨wt, l1, fun g => ⟨wt, l1, fun _ => ⟨wt, l2, fun g5 => ?_, fun g5 => ?_⟩, fun q => absurd g q⟩, fun g => ⟨wt, l2, fun g5 => ⟨wt, l1, fun q => absurd q g, fun _ => ?_⟩, fun g5 => ⟨fun q => absurd q hb, fun _ => ⟨wt, r_ptF R A ht i1 (by omega) (fun _ => ⟨fun q => absurd q hb, fun _ => ⟨wt, r_ptF R A hs i1 (by omega) (fun _ => ⟨fun e => ⟨fun q => absurd q hb, fun _ => ⟨wt, r_isPr R A ht i1 (by omega) (fun h1 _ => ⟨fun q => absurd q (by decide), fun _ => ⟨by unfold jR; omega, fun q => absurd q hb, fun _ => ⟨wt, r_isPr R A hs i1 (by omega) (fun _ _ => ⟨fun q => absurd q (by decide), fun _ => ⟨by unfold jR; omega, ⟨rfl, rfl, rfl, rfl, rfl, rfl, by omega, by omega, by have := h1.2.1; omega, by have := ((pt_same At As i1 (by omega) (by omega) e).mp h1).2.1; omega, ?_⟩, by omega⟩⟩) (fun h2 => absurd ((pt_same At As i1 (by omega) (by omega) e).mp h1) h2)⟩⟩⟩) (fun h1 _ => ⟨fun _ => ⟨by unfold jR; omega, fun q => absurd q hb, fun _ => ⟨wt, r_isPr R A hs i1 (by omega) (fun h2 => absurd ((pt_same At As i1 (by omega) (by omega) e).mpr h2) h1) (fun _ _ => ⟨fun _ => ⟨by unfold jR; omega, ⟨rfl, rfl, rfl, rfl, rfl, rfl, by omega, by omega, by omega, by omega, ?_⟩, by omega⟩, fun q => absurd rfl q⟩)⟩⟩, fun q => absurd rfl q⟩)⟩⟩, fun e => ⟨fun le => ?_, fun le => ?_⟩⟩)⟩⟩)⟩⟩⟩⟩
          · have e := i3.stop (orpF_z (by omega))
            unfold otl at e
            rw [if_pos (by omega)] at e
            rw [e] at hQ; exact hQ
          · have e := i3.stop (orpF_z (by omega))
            unfold otl at e
            rw [if_neg (by omega), if_pos (by omega)] at e
            rw [e] at hQ; exact hQ
          · have e := i3.stop (orpF_z (by omega))
            unfold otl at e
            rw [if_neg (by omega), if_neg (by omega)] at e
            rw [e] at hQ; exact hQ
          · have i4 := i3.step (F' := fun k => orpF (T.2.1 t) (T.2.2 t) (T.2.1 s) (T.2.2 s) k (nx (T.2.1 t) (T.2.2 t) v4)) (m' := T.2.1 t - v4 - 1) (by omega) (fun k => (cif_t (by omega)).trans (cif_t e)) (by omega)
            rw [nx_t h1] at i4
            obtain ⟨k, k1, k2⟩ := i4
            exact ⟨k, by omega, k2⟩
          · have i4 := i3.step (F' := fun k => orpF (T.2.1 t) (T.2.2 t) (T.2.1 s) (T.2.2 s) k (nx (T.2.1 t) (T.2.2 t) v4)) (m' := T.2.1 t - v4 - 1) (by omega) (fun k => (cif_t (by omega)).trans (cif_t e)) (by omega)
            rw [nx_f h1] at i4
            obtain ⟨k, k1, k2⟩ := i4
            exact ⟨k, by omega, k2⟩
          · rw [i3.done (v := 1) (by omega) (fun k => ((cif_t (by omega)).trans (cif_f e)).trans (cif_f (by omega)))] at hQ; exact hQ
          · rw [i3.done (v := -1) (by omega) (fun k => ((cif_t (by omega)).trans (cif_f e)).trans (cif_t (by omega)))] at hQ; exact hQ
        · exact ⟨wt, r_isT R A ht (fun _ => ⟨fun q => absurd q (by decide), fun _ => ⟨wt, r_isT R A hs (fun _ => ⟨fun _ => ⟨rfl, rfl, rfl, rfl, rfl, rfl, by omega, by omega, by omega, by omega, Fl.go 241 (by omega)⟩, fun q => absurd (by decide) q⟩)⟩⟩)⟩
  · refine ⟨-2, fun Q hQ => ?_, fun M1 Q R hQ => ?_⟩
    · have W := C.1
      refine rn_X11_order _ _ _ _ M (sg_X11_order_0 _ _ _ _ M ?_)
      by_cases ht : 0 ≤ t ∧ t < T.1
      · by_cases hs : 0 ≤ s ∧ s < T.1
        · exact absurd ⟨ht, hs⟩ hv
        · repeat' first | rw [wa_1200 W] | (refine c_lkT C A hX ht ?_) | (refine c_lkF C A hX hs ?_) | apply And.intro | intro _ | exact wt | exact wa_t W | exact w_shelf_t W | assumption | exact Or.inl rfl | exact Or.inr rfl | rfl | omega | (unfold jR; omega)
      · by_cases hs : 0 ≤ s ∧ s < T.1
        · repeat' first | rw [wa_1200 W] | (refine c_lkF C A hX ht ?_) | (refine c_lkT C A hX hs ?_) | apply And.intro | intro _ | exact wt | exact wa_t W | exact w_shelf_t W | assumption | exact Or.inl rfl | exact Or.inr rfl | rfl | omega | (unfold jR; omega)
        · repeat' first | rw [wa_1200 W] | (refine c_lkF C A hX ht ?_) | (refine c_lkF C A hX hs ?_) | apply And.intro | intro _ | exact wt | exact wa_t W | exact w_shelf_t W | assumption | exact Or.inl rfl | exact Or.inr rfl | rfl | omega | (unfold jR; omega)
    · have W := R.1
      have wt := w_model_t W
      refine lp_X12_order (fun _ _ _ _ _ _ _ => False) (fun _ _ _ _ _ _ => 0) (fun _ _ _ _ _ _ _ g => g.elim) _ _ _ _ M1 ?_
      by_cases ht : 0 ≤ t ∧ t < T.1
      · by_cases hs : 0 ≤ s ∧ s < T.1
        · exact absurd ⟨ht, hs⟩ hv
        · repeat' first | rw [wa_1200 W] | (refine r_isT R A ht ?_) | (refine r_isF R A hs ?_) | apply And.intro | intro _ | exact wt | exact wa_t W | exact w_shelf_t W | assumption | exact Or.inl rfl | exact Or.inr rfl | rfl | omega | (unfold jR; omega)
      · repeat' first | rw [wa_1200 W] | (refine r_isF R A ht ?_) | apply And.intro | intro _ | exact wt | exact wa_t W | exact w_shelf_t W | assumption | exact Or.inl rfl | exact Or.inr rfl | rfl | omega | (unfold jR; omega)
end ORDER
