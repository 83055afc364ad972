/-! step: undo -/
section UNDO
variable {G : JG} {X : Int}
def kpop (K : AKp) : AKp := (K.1 - 1, K.2)
theorem st_undo : JSt (IV X) 3072 G X 116 186 [] := mk_stp fun n M T K P D C H A hX hn0 hn => by
  obtain ⟨b1, b2, g, g1, g2⟩ := id A.2.1
  have a1 := A.1.1
  have a2 := A.1.2.1
  have W := C.1
  have ck := C.2.2.2.1
  by_cases hk : K.1 = 0
  · refine mk_no (r := -4) C H A ⟨hn0, hn⟩ (fun Q hQ => ?_) (fun M1 Q R hQ => ?_)
    · refine rn_X11_undo _ M (sg_X11_undo_0 _ M ?_)
      rw [wa_1200 W]
      refine ⟨wa_t W, w_shelf_t W, rn_X4_takeBack _ M (sg_X4_takeBack_0 _ M ?_)⟩
      rw [ck.1]
      exact ⟨w_shelf_t W, fun q => absurd hk q, fun _ => ⟨Or.inl rfl, fun _ => ⟨fun _ => hQ, fun q => absurd rfl q⟩⟩⟩
    · have wt := w_model_t R.1
      refine lp_X12_undo (fun _ _ _ _ => False) (fun _ _ _ => 0) (fun _ _ _ _ q => q.elim) _ M1 ?_
      rw [R.2.2.1.1]
      exact ⟨wt, fun q => absurd hk q, fun _ => hQ⟩
  · obtain ⟨s, hs⟩ : ∃ s, s = (M 2403 (X + 1) 0 + (K.1 - 1)) % 20 := ⟨_, rfl⟩
    have hs2 : 0 ≤ s ∧ s < 20 := by omega
    obtain ⟨c1, c2, c3, c4⟩ := id ck
    obtain ⟨d1, d2, d3⟩ := c4 (K.1 - 1) (by omega) (by omega)
    rw [← hs] at d1 d2 d3
    obtain ⟨gp, gq⟩ := g2 (K.1 - 1) (by omega) (by omega)
    rw [show K.1 - 1 + 1 = K.1 by omega, g1] at gq
    obtain ⟨M2, hM2⟩ : ∃ M2, M2 = jset (jset M 2404 (X + 1) 0 (K.1 - 1)) 2405 (X + 1) 0 (M 2405 (X + 1) 0 + 1) := ⟨_, rfl⟩
    have o2 : ∀ k a j, ¬ (a = X + 1 ∧ (k = 2404 ∨ k = 2405)) → M2 k a j = M k a j := fun k a j q => by
      rw [hM2, show jset (jset M 2404 (X + 1) 0 (K.1 - 1)) 2405 (X + 1) 0 (M 2405 (X + 1) 0 + 1) k a j = _ from if_neg (by omega)]
      exact if_neg (by omega)
    have W2 : WSt X M2 := W.keepC fun k a j q => o2 k a j (by unfold fpS at q; omega)
    have s5 : M2 2405 (X + 1) 0 = M 2405 (X + 1) 0 + 1 := by rw [hM2, jset_s]
    have s4 : M2 2404 (X + 1) 0 = K.1 - 1 := by rw [hM2, jset_k (by decide), jset_s]
    have st2 : Stale X M2 := H.stale C.2.2.2.2.2.2 s5 (fun k a j q1 q2 => o2 k a j (by unfold fpH at q1; omega)) hX
    have ck2 : ∀ M' : JM, (∀ k a j, fpK X k a → M' k a j = M2 k a j) → CK X (n + 1) M' (kpop K) := fun M' o' => by
      refine CK.keep ⟨s4, by rw [o2 _ _ _ (by omega)]; exact c2, by rw [s5]; omega, fun k k0 k1 => ?_⟩ o'
      have k1 : k < K.1 - 1 := k1
      rw [o2 2403 _ _ (by omega)]
      obtain ⟨x1, x2, x3⟩ := c4 k k0 (by omega)
      exact ⟨by rw [o2 _ _ _ (by omega)]; exact x1, by rw [o2 _ _ _ (by omega)]; exact x2, fun hb => ⟨by rw [o2 _ _ _ (by omega)]; exact (x3 hb).1, fun i i0 i1 => by rw [o2 _ _ _ (by omega)]; exact (x3 hb).2 i i0 i1⟩⟩
    have akp : ∀ m, g (K.1 - 1) = m → AK m (kpop K) := fun m e => ⟨by show 0 ≤ K.1 - 1; omega, by show K.1 - 1 ≤ 20; omega, g, e, fun k k0 k1 => g2 k k0 (by have k1 : k < K.1 - 1 := k1; omega)⟩
    obtain ⟨wk1, wk2, wk3, wk4, wk5, -, -⟩ := w_kept W hs2.1 hs2.2
    -- the component up to the look
    have up : ∀ Q : Int → JM → Prop, ((M 2402 (X + 1) 0 ≤ 40) → Runs G 27 0 0 [(1, X + 1), (0, K.2.1 (K.1 - 1))] M2 (fun r1 M3 => jokM M3 → M3 0 (X + (84 + 3 * s)) 0 = 11 ∧ ((M3 2102 (X + (84 + 3 * s)) 0 = 0 → (((r1 : Int) = 0 → ((1 : Int) = 0 ∨ (1 : Int) = 1) ∧ (jokM M3 → (((1 : Int) = 0 → Q (-4) M3) ∧ (¬ (1 : Int) = 0 → Q 1 M3)))) ∧ (¬ (r1 : Int) = 0 → M3 0 (X + (84 + 3 * s)) 0 = 11 ∧ M3 0 r1 0 = 19 ∧ Runs G 93 0 0 [(1, r1), (1, M3 200 (X + (84 + 3 * s)) 0)] M3 (fun _ M4 => jokM M4 → ((1 : Int) = 0 ∨ (1 : Int) = 1) ∧ (jokM M4 → (((1 : Int) = 0 → Q (-4) M4) ∧ (¬ (1 : Int) = 0 → Q 1 M4))))))) ∧ (¬ M3 2102 (X + (84 + 3 * s)) 0 = 0 → M3 0 (X + (84 + 3 * s)) 0 = 11 ∧ M3 0 (X + 1) 0 = 14 ∧ ((1 : Int) = 0 ∨ (1 : Int) = 1) ∧ (jokM (jset M3 2402 (X + 1) 0 (M3 2101 (X + (84 + 3 * s)) 0)) → (((1 : Int) = 0 → Q (-4) (jset M3 2402 (X + 1) 0 (M3 2101 (X + (84 + 3 * s)) 0))) ∧ (¬ (1 : Int) = 0 → Q 1 (jset M3 2402 (X + 1) 0 (M3 2101 (X + (84 + 3 * s)) 0))))))))) → Runs G 116 0 0 [(1, X)] M Q := fun Q h => by
      have h := h (by rw [C.2.1.1]; exact a2)
      refine rn_X11_undo _ M (sg_X11_undo_0 _ M ?_)
      rw [wa_1200 W]
      refine ⟨wa_t W, w_shelf_t W, rn_X4_takeBack _ M (sg_X4_takeBack_0 _ M ?_)⟩
      rw [jset_s, c1, w_shelf_501 W, ← hs, wk1, d1, ← hM2]
      exact ⟨w_shelf_t W, fun _ => ⟨w_shelf_t W, by unfold jR; omega, w_shelf_t W, w_shelf_t W, by unfold jR; omega, w_shelf_t W, w_shelf_t W, w_shelf_t W, w_shelf_t W, by unfold jR; omega, ⟨by omega, by decide⟩, ⟨Or.inr (w_kepts_t W), by omega, by rw [w_kepts_n W]; omega⟩, wk2, w_shelf_t W, h⟩, fun q => absurd hk q⟩
    have f12 : ∀ M3 : JM, (∀ k a j, fpH X M k a → M3 k a j = M2 k a j) → M3 1212 X 0 = M 1212 X 0 := fun M3 o' => by rw [o' _ _ _ (by unfold fpH; omega), o2 _ _ _ (by omega)]
    rcases gq with gq | gq
    · -- a new text is taken back
      refine mk_yes (r := 1) (T' := (T.1 - 1, T.2)) (K' := kpop K) ⟨hn0, hn⟩ (fun Q hQ => up Q (fun h40 => ?_)) (fun M1 Q R hQ => ?_)
      · have fin : Q 1 (jset M2 2402 (X + 1) 0 (K.2.1 (K.1 - 1))) := by
          have o3 : ∀ k a j, ¬ (a = X + 1 ∧ (k = 2402 ∨ k = 2404 ∨ k = 2405)) → jset M2 2402 (X + 1) 0 (K.2.1 (K.1 - 1)) k a j = M k a j := fun k a j q => by
            rw [show jset M2 2402 (X + 1) 0 (K.2.1 (K.1 - 1)) k a j = _ from if_neg (by omega)]; exact o2 k a j (by omega)
          have o4 : ∀ k a j, ¬ (a = X + 1 ∧ k = 2402) → jset M2 2402 (X + 1) 0 (K.2.1 (K.1 - 1)) k a j = M2 k a j := fun k a j q => if_neg (by omega)
          refine hQ _ ⟨⟨by show 0 ≤ T.1 - 1; omega, by show T.1 - 1 ≤ 40; omega, fun t t0 t1 => A.1.2.2 t t0 (by have t1 : t < T.1 - 1 := t1; omega)⟩, akp _ (by show g (K.1 - 1) = T.1 - 1; omega), A.2.2⟩ (fun k a j q1 q2 => o3 k a j (by omega)) ⟨W.keepC fun k a j q => o3 k a j (by unfold fpS at q; omega), ⟨?_, fun t t0 t1 => ?_⟩, ⟨fun t t0 t1 => ?_, fun t t0 t1 => ?_⟩, ck2 _ (fun k a j q => o4 k a j (by unfold fpK at q; omega)), C.2.2.2.2.1.keep A.2.2.1 fun k a j q => o3 k a j (by unfold fpP at q; omega), C.2.2.2.2.2.1.keep fun k a j q => o3 k a j (by unfold fpS fpD at q; omega), C.2.2.2.2.2.2.keep fun k a j q => o3 k a j (by unfold fpS at q; omega)⟩ (st2.keep (C.2.2.2.2.2.2.keep fun k a j q => o2 k a j (by unfold fpS at q; omega)) fun k a j q => o4 k a j (by unfold fpH at q; omega)) (o3 _ _ _ (by omega)) (o3 _ _ _ (by omega))
          · rw [jset_s]; show _ = T.1 - 1; omega
          · have t1 : t < T.1 - 1 := t1
            obtain ⟨x1, x2⟩ := C.2.1.2 t t0 (by omega)
            exact ⟨by rw [o3 _ _ _ (by omega)]; exact x1, fun i i0 i1 => by rw [o3 _ _ _ (by omega)]; exact x2 i i0 i1⟩
          · rw [o3 _ _ _ (by omega)]; exact C.2.2.1.1 t t0 t1
          · rw [o3 _ _ _ (by omega)]; exact C.2.2.1.2 t t0 t1
        have e2 : M2 2102 (X + (84 + 3 * s)) 0 = 1 := by rw [o2 _ _ _ (by omega), d2]; exact gq.1
        have e1 : M2 2101 (X + (84 + 3 * s)) 0 = K.2.1 (K.1 - 1) := by rw [o2 _ _ _ (by omega)]; exact d1
        have w2 : M2 0 (X + (84 + 3 * s)) 0 = 11 := by rw [o2 _ _ _ (by omega)]; exact wk2
        have body : ∀ r : Int, jokM M2 → M2 0 (X + (84 + 3 * s)) 0 = 11 ∧ ((M2 2102 (X + (84 + 3 * s)) 0 = 0 → (((r : Int) = 0 → ((1 : Int) = 0 ∨ (1 : Int) = 1) ∧ (jokM M2 → (((1 : Int) = 0 → Q (-4) M2) ∧ (¬ (1 : Int) = 0 → Q 1 M2)))) ∧ (¬ (r : Int) = 0 → M2 0 (X + (84 + 3 * s)) 0 = 11 ∧ M2 0 r 0 = 19 ∧ Runs G 93 0 0 [(1, r), (1, M2 200 (X + (84 + 3 * s)) 0)] M2 (fun _ M4 => jokM M4 → ((1 : Int) = 0 ∨ (1 : Int) = 1) ∧ (jokM M4 → (((1 : Int) = 0 → Q (-4) M4) ∧ (¬ (1 : Int) = 0 → Q 1 M4))))))) ∧ (¬ M2 2102 (X + (84 + 3 * s)) 0 = 0 → M2 0 (X + (84 + 3 * s)) 0 = 11 ∧ M2 0 (X + 1) 0 = 14 ∧ ((1 : Int) = 0 ∨ (1 : Int) = 1) ∧ (jokM (jset M2 2402 (X + 1) 0 (M2 2101 (X + (84 + 3 * s)) 0)) → (((1 : Int) = 0 → Q (-4) (jset M2 2402 (X + 1) 0 (M2 2101 (X + (84 + 3 * s)) 0))) ∧ (¬ (1 : Int) = 0 → Q 1 (jset M2 2402 (X + 1) 0 (M2 2101 (X + (84 + 3 * s)) 0))))))) := fun r _ => by
          rw [e1, e2]
          exact ⟨w2, fun q => absurd q (by decide), fun _ => ⟨w2, w_shelf_t W2, Or.inr rfl, fun _ => ⟨fun q => absurd q (by decide), fun _ => fin⟩⟩⟩
        exact c_look W2 hX (by rw [o2 _ _ _ (by omega)]; exact h40) (fun _ _ => body _) (fun _ => body _)
      · have wt := w_model_t R.1
        have WR := R.1
        obtain ⟨y1, y2, y3⟩ := R.2.2.1.2 (K.1 - 1) (by omega) (by omega)
        refine lp_X12_undo (fun _ _ _ _ => False) (fun _ _ _ => 0) (fun _ _ _ _ q => q.elim) _ M1 ?_
        rw [R.2.2.1.1, jset_s, w_model_1305 WR, w_m1305_t WR, w_m1305_n WR, y2, gq.1, R.2.1.1]
        have o3 : ∀ k a j, ¬ (a = X + 218 ∧ (k = 3200 ∨ k = 3203)) → jset (jset M1 3203 (X + 218) 0 (K.1 - 1)) 3200 (X + 218) 0 (T.1 - 1) k a j = M1 k a j := fun k a j q => by
          rw [show jset (jset M1 3203 (X + 218) 0 (K.1 - 1)) 3200 (X + 218) 0 (T.1 - 1) k a j = _ from if_neg (by omega)]
          exact if_neg (by omega)
        refine ⟨wt, fun _ => ⟨wt, by unfold jR; omega, wt, wt, wt, ⟨rfl, by omega, by omega⟩, fun q => absurd q (by decide), fun _ => ⟨wt, by unfold jR; omega, wt, hQ _ (fun k a j q => o3 k a j (by omega)) ⟨WR.keep fun k a j _ _ hk => o3 k a j (by omega), ⟨jset_s, fun t t0 t1 => ?_⟩, ⟨by rw [jset_k (by decide), jset_s]; rfl, fun k k0 k1 => ?_⟩, ⟨by rw [o3 _ _ _ (by omega)]; exact R.2.2.2.1.1, fun q q0 q1 => ?_⟩, R.2.2.2.2.keepD fun k a j q => o3 k a j (by unfold fpRD at q; omega)⟩⟩⟩, fun q => absurd hk q⟩
        · have t1 : t < T.1 - 1 := t1
          obtain ⟨x1, x2⟩ := R.2.1.2 t t0 (by omega)
          exact ⟨by rw [o3 _ _ _ (by omega)]; exact x1, fun i i0 i1 => by rw [o3 _ _ _ (by omega)]; exact x2 i i0 i1⟩
        · have k1 : k < K.1 - 1 := k1
          obtain ⟨x1, x2, x3⟩ := R.2.2.1.2 k k0 (by omega)
          exact ⟨by rw [o3 _ _ _ (by omega)]; exact x1, by rw [o3 _ _ _ (by omega)]; exact x2, fun hb => ⟨by rw [o3 _ _ _ (by omega)]; exact (x3 hb).1, fun i i0 i1 => by rw [o3 _ _ _ (by omega)]; exact (x3 hb).2 i i0 i1⟩⟩
        · obtain ⟨x1, x2⟩ := R.2.2.2.1.2 q q0 q1
          exact ⟨by rw [o3 _ _ _ (by omega)]; exact x1, fun i i0 i1 => by rw [o3 _ _ _ (by omega)]; exact x2 i i0 i1⟩
    · -- a text becomes what it was
      obtain ⟨q0, q1, q2, q3, q4, q5, q6⟩ := gq
      obtain ⟨t, htt⟩ : ∃ t, t = K.2.1 (K.1 - 1) := ⟨_, rfl⟩
      rw [← htt] at q1 q2
      have ht : 0 ≤ t ∧ t < T.1 := ⟨q1, by omega⟩
      obtain ⟨x1, x2⟩ := d3 q0
      refine mk_yes (r := 1) (T' := atx T t (K.2.2.2.1 (K.1 - 1)) (K.2.2.2.2 (K.1 - 1))) (K' := kpop K) ⟨hn0, hn⟩ (fun Q hQ => up Q (fun h40 => ?_)) (fun M1 Q R hQ => ?_)
      · rw [← htt]
        have A2 : AI T (kpop K) P D := ⟨A.1, akp _ (by omega), A.2.2⟩
        have C2 : CB X (n + 1) M2 T (kpop K) P D := ⟨W2, C.2.1.keep A.1 fun k a j q => o2 k a j (by unfold fpT at q; omega), ⟨fun t t0 t1 => by rw [o2 _ _ _ (by omega)]; exact C.2.2.1.1 t t0 t1, fun t t0 t1 => by rw [o2 _ _ _ (by omega)]; exact C.2.2.1.2 t t0 t1⟩, ck2 _ (fun _ _ _ _ => rfl), C.2.2.2.2.1.keep A.2.2.1 fun k a j q => o2 k a j (by unfold fpP at q; omega), C.2.2.2.2.2.1.keep fun k a j q => o2 k a j (by unfold fpS fpD at q; omega), C.2.2.2.2.2.2.keep fun k a j q => o2 k a j (by unfold fpS at q; omega)⟩
        have e2 : M2 2102 (X + (84 + 3 * s)) 0 = 0 := by rw [o2 _ _ _ (by omega), d2]; exact q0
        have w2 : M2 0 (X + (84 + 3 * s)) 0 = 11 := by rw [o2 _ _ _ (by omega)]; exact wk2
        obtain ⟨-, -, v3, v4, v5, -, -⟩ := w_kept W2 hs2.1 hs2.2
        refine c_lkT C2 A2 hX ht (fun _ => ?_)
        rw [e2, v3]
        obtain ⟨TT, e1, ea, e3, e4, e5, e6, e7, e8⟩ := c_txt C2 A2 ht
        have KT := tx_kept W2 C2.2.2.1 hs2.1 hs2.2
        have r1 : M2 2901 (X + (85 + 3 * s)) 0 = K.2.2.2.1 (K.1 - 1) := by rw [o2 _ _ _ (by omega)]; exact x1
        refine ⟨w2, fun _ => ⟨fun q => absurd q (by omega), fun _ => ⟨w2, e4, c_become TT KT (by omega) (by omega) (fun _ => ⟨Or.inr rfl, fun _ => ⟨fun q => absurd q (by decide), fun _ => ?_⟩⟩)⟩⟩, fun q => absurd rfl q⟩
        rw [v5, ea, r1]
        have co : Cof X t M2 (jset (jcpy (jset M2 2901 (X + (4 + 2 * t)) 0 0) (X + (86 + 3 * s)) 0 (X + (5 + 2 * t)) 0 (K.2.2.2.1 (K.1 - 1))) 2901 (X + (4 + 2 * t)) 0 (K.2.2.2.1 (K.1 - 1))) := fun k a j h1 h2 => by
          rw [show jset (jcpy (jset M2 2901 (X + (4 + 2 * t)) 0 0) (X + (86 + 3 * s)) 0 (X + (5 + 2 * t)) 0 (K.2.2.2.1 (K.1 - 1))) 2901 (X + (4 + 2 * t)) 0 (K.2.2.2.1 (K.1 - 1)) k a j = _ from if_neg (by omega), show jcpy (jset M2 2901 (X + (4 + 2 * t)) 0 0) (X + (86 + 3 * s)) 0 (X + (5 + 2 * t)) 0 (K.2.2.2.1 (K.1 - 1)) k a j = _ from if_neg (by omega)]
          exact if_neg (by omega)
        obtain ⟨c9, A9⟩ := c_becA C2 A2 ht co (k := K.2.2.2.1 (K.1 - 1)) (f := K.2.2.2.2 (K.1 - 1)) ⟨q4, q5, q6⟩ jset_s (fun i i0 i1 => by
          rw [jset_k (by decide), jcpy_in (by omega) (by omega), jset_k (by decide), show 0 + (i - 0) = i by omega, o2 _ _ _ (by omega)]
          exact x2 i i0 i1)
        exact hQ _ A9 (fun k a j h1 h2 => by rw [co k a j (by omega) (by omega)]; exact o2 k a j (by omega)) c9 (co.stale C2.2.2.2.2.2.2 ht.1 (by omega) st2) ((co _ _ _ (by omega) (by omega)).trans (o2 _ _ _ (by omega))) ((co _ _ _ (by omega) (by omega)).trans (o2 _ _ _ (by omega)))
      · have wt := w_model_t R.1
        have WR := R.1
        obtain ⟨y1, y2, y3⟩ := R.2.2.1.2 (K.1 - 1) (by omega) (by omega)
        obtain ⟨y4, y5⟩ := y3 q0
        rw [← htt] at y1
        obtain ⟨B, hB⟩ : ∃ B, B = jset (jset M1 3203 (X + 218) 0 (K.1 - 1)) 2 (X + 219) t (K.2.2.2.1 (K.1 - 1)) := ⟨_, rfl⟩
        have ob : ∀ k a j, ¬ (a = X + 218 ∧ k = 3203) → ¬ (k = 2 ∧ a = X + 219 ∧ j = t) → B k a j = M1 k a j := fun k a j h1 h2 => by
          rw [hB, show jset (jset M1 3203 (X + 218) 0 (K.1 - 1)) 2 (X + 219) t (K.2.2.2.1 (K.1 - 1)) k a j = _ from if_neg (by omega)]
          exact if_neg (by omega)
        refine lp_X12_undo (fun v0 v1 v2 N => X + 218 = v0 ∧ t = v1 ∧ 0 ≤ v2 ∧ v2 ≤ K.2.2.2.1 (K.1 - 1) ∧ N = jcpy B (X + 224) (240 * (K.1 - 1)) (X + 220) (240 * t) v2) (fun _ _ v2 => (1000 - v2).toNat) ?_ _ M1 ?_
        · rintro v0 v1 v2 N ⟨rfl, rfl, i1, i2, rfl⟩
          have o : ∀ k a j, ¬ (a = X + 218 ∧ k = 3203) → ¬ (k = 2 ∧ (a = X + 219 ∨ a = X + 220)) → jcpy B (X + 224) (240 * (K.1 - 1)) (X + 220) (240 * t) v2 k a j = M1 k a j := fun k a j h1 h2 => by
            rw [show jcpy B (X + 224) (240 * (K.1 - 1)) (X + 220) (240 * t) v2 k a j = _ from if_neg (by omega)]
            exact ob k a j h1 (by omega)
          have WN : WSt X (jcpy B (X + 224) (240 * (K.1 - 1)) (X + 220) (240 * t) v2) := WR.keep fun k a j _ _ hk => o k a j (by omega) (by omega)
          have wn := w_model_t WN
          have en : jcpy B (X + 224) (240 * (K.1 - 1)) (X + 220) (240 * t) v2 3203 (X + 218) 0 = K.1 - 1 := by
            rw [jcpy_k (by decide), hB, jset_k (by decide), jset_s]
          have el : jcpy B (X + 224) (240 * (K.1 - 1)) (X + 220) (240 * t) v2 2 (X + 219) t = K.2.2.2.1 (K.1 - 1) := by
            rw [jcpy_a (by omega), hB, jset_s]
          rw [w_model_1301 WN, w_m1301_t WN, w_m1301_n WN, w_model_1302 WN, w_m1302_t WN, w_m1302_n WN, w_model_1307 WN, w_m1307_t WN, w_m1307_n WN, en, el]
          refine ⟨wn, ⟨rfl, ht.1, by omega⟩, fun q => ?_, fun q => ⟨wn, by unfold jR; omega, by unfold jR; omega, wn, wn, by unfold jR; omega, by unfold jR; omega, ⟨rfl, by omega, by omega⟩, ⟨rfl, by omega, by omega⟩, by unfold jR; omega, ⟨rfl, rfl, by omega, by omega, jcpy_step i1 rfl (jcpy_a (by omega) _ _)⟩, by omega⟩⟩
          have : v2 = K.2.2.2.1 (K.1 - 1) := by omega
          subst this
          refine hQ _ (fun k a j h => o k a j (by omega) (by omega)) ⟨WN, ⟨by rw [o _ _ _ (by omega) (by omega)]; exact R.2.1.1, fun u u0 u1 => ?_⟩, ⟨en, fun k k0 k1 => ?_⟩, ⟨by rw [o _ _ _ (by omega) (by omega)]; exact R.2.2.2.1.1, fun q q0 q1 => ?_⟩, R.2.2.2.2.keepD fun k a j q => o k a j (by unfold fpRD at q; omega) (by unfold fpRD at q; omega)⟩
          · have u1 : u < T.1 := u1
            by_cases hu : u = t
            · subst hu
              rw [atx_n, atx_f]
              refine ⟨el, fun i i0 i1 => ?_⟩
              rw [jcpy_in (by omega) (by omega), ob _ _ _ (by omega) (by omega), show 240 * (K.1 - 1) + (240 * u + i - 240 * u) = 240 * (K.1 - 1) + i by omega]
              exact y5 i i0 i1
            · rw [atx_on hu, atx_of hu]
              obtain ⟨z1, z2⟩ := R.2.1.2 u u0 u1
              obtain ⟨z3, z4, -⟩ := A.1.2.2 u u0 u1
              refine ⟨by rw [jcpy_a (by omega), ob _ _ _ (by omega) (by omega)]; exact z1, fun i i0 i1 => ?_⟩
              rw [jcpy_out (by omega), ob _ _ _ (by omega) (by omega)]; exact z2 i i0 i1
          · have k1 : k < K.1 - 1 := k1
            obtain ⟨z1, z2, z3⟩ := R.2.2.1.2 k k0 (by omega)
            exact ⟨by rw [o _ _ _ (by omega) (by omega)]; exact z1, by rw [o _ _ _ (by omega) (by omega)]; exact z2, fun hb => ⟨by rw [o _ _ _ (by omega) (by omega)]; exact (z3 hb).1, fun i i0 i1 => by rw [o _ _ _ (by omega) (by omega)]; exact (z3 hb).2 i i0 i1⟩⟩
          · obtain ⟨z1, z2⟩ := R.2.2.2.1.2 q q0 q1
            exact ⟨by rw [o _ _ _ (by omega) (by omega)]; exact z1, fun i i0 i1 => by rw [o _ _ _ (by omega) (by omega)]; exact z2 i i0 i1⟩
        · rw [R.2.2.1.1, jset_s, w_model_1305 WR, w_m1305_t WR, w_m1305_n WR, w_model_1304 WR, w_m1304_t WR, w_m1304_n WR, w_model_1306 WR, w_m1306_t WR, w_m1306_n WR, w_model_1301 WR, w_m1301_t WR, w_m1301_n WR, y2, y1, y4, q0, ← hB]
          exact ⟨wt, fun _ => ⟨wt, by unfold jR; omega, wt, wt, wt, ⟨rfl, by omega, by omega⟩, fun _ => ⟨wt, wt, ⟨rfl, by omega, by omega⟩, wt, wt, wt, ⟨rfl, by omega, by omega⟩, ⟨rfl, ht.1, by omega⟩, ⟨rfl, rfl, by omega, by omega, jcpy_none.symm⟩⟩, fun q => absurd rfl q⟩, fun q => absurd hk q⟩
end UNDO
