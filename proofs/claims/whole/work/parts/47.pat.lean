/-! steps: forget, pattern -/
section PAT
variable {G : JG} {X : Int}
/-- a call that ends in these -/
theorem mk_gen {n r : Int} {M : JM} {T T' : ATx} {K K' : AKp} {P P' : ATx} {D D' : ADt} {y y' : Nat} {as : List JV} (hc : ∀ Q : Int → JM → Prop, (∀ M1, AI T' K' P' D' → FrC X M M1 → CB X (n + 6) M1 T' K' P' D' → CH X M1 T' → M1 1212 X 0 = M 1212 X 0 → M1 1213 X 0 = M 1213 X 0 → Q r M1) → Runs G y 0 0 ((1, X) :: as) M Q) (hr : ∀ (M1 : JM) (Q : Int → JM → Prop), RI X M1 T K P D → (∀ M2, FrR X M1 M2 → RI X M2 T' K' P' D' → Q r M2) → Runs G y' 0 0 ((1, X + 218) :: as) M1 Q) : ∃ Rel : Int → ATx → AKp → ATx → ADt → Prop, (∀ Q : Int → JM → Prop, (∀ r M1 T' K' P' D', Rel r T' K' P' D' → AI T' K' P' D' → FrC X M M1 → CB X (n + 6) M1 T' K' P' D' → CH X M1 T' → M1 1212 X 0 = M 1212 X 0 → M1 1213 X 0 = M 1213 X 0 → Q r M1) → Runs G y 0 0 ((1, X) :: as) M Q) ∧ ∀ (M1 : JM) (Q : Int → JM → Prop) (r : Int) T' K' P' D', Rel r T' K' P' D' → RI X M1 T K P D → (∀ M2, FrR X M1 M2 → RI X M2 T' K' P' D' → Q r M2) → Runs G y' 0 0 ((1, X + 218) :: as) M1 Q := by
  refine ⟨fun r' T'' K'' P'' D'' => r' = r ∧ T'' = T' ∧ K'' = K' ∧ P'' = P' ∧ D'' = D', fun Q hQ => hc Q (fun M1 A' f c s e1 e2 => hQ r M1 T' K' P' D' ⟨rfl, rfl, rfl, rfl, rfl⟩ A' f c s e1 e2), ?_⟩
  rintro M1 Q r' T'' K'' P'' D'' ⟨rfl, rfl, rfl, rfl, rfl⟩ R hQ
  exact hr M1 Q R hQ
/-- only patterns have changed: what else holds -/
theorem CB.pat {n : Int} {M M' : JM} {T : ATx} {K : AKp} {P P' : ATx} {D : ADt} (C : CB X n M T K P D) (A : AI T K P D) (o : ∀ k a j, ¬ fpP X k a → M' k a j = M k a j) (cp : CP X M' P') : CB X n M' T K P' D := by
  unfold fpP at o
  exact ⟨C.1.keepC fun k a j q => o k a j (by unfold fpS at q; omega), C.2.1.keep A.1 fun k a j q => o k a j (by unfold fpT at q; omega), C.2.2.1.keep fun k a j q => o k a j (by unfold fpT fpK at q; omega), C.2.2.2.1.keep fun k a j q => o k a j (by unfold fpK at q; omega), cp, C.2.2.2.2.2.1.keep fun k a j q => o k a j (by unfold fpS fpD at q; omega), C.2.2.2.2.2.2.keep fun k a j q => o k a j (by unfold fpS at q; omega)⟩
theorem CH.pat {M M' : JM} {T : ATx} (H : CH X M T) (B : CBig X M) (o : ∀ k a j, ¬ fpP X k a → M' k a j = M k a j) : CH X M' T := by
  unfold fpP at o
  exact H.keep B fun k a j q => o k a j (by unfold fpH at q; omega)
theorem RI.pat {M M' : JM} {T : ATx} {K : AKp} {P P' : ATx} {D : ADt} (R : RI X M T K P D) (o : ∀ k a j, ¬ (k = 3210 ∧ a = X + 218) → ¬ (k = 2 ∧ (a = X + 227 ∨ a = X + 228)) → M' k a j = M k a j) (rp : RP X M' P') : RI X M' T K P' D := by
  refine ⟨R.1.keep fun k a j _ _ hk => o k a j (by omega) (by omega), ⟨by rw [o _ _ _ (by omega) (by omega)]; exact R.2.1.1, fun s s0 s1 => ⟨by rw [o _ _ _ (by omega) (by omega)]; exact (R.2.1.2 s s0 s1).1, fun i i0 i1 => by rw [o _ _ _ (by omega) (by omega)]; exact (R.2.1.2 s s0 s1).2 i i0 i1⟩⟩, ⟨by rw [o _ _ _ (by omega) (by omega)]; exact R.2.2.1.1, fun s s0 s1 => ⟨by rw [o _ _ _ (by omega) (by omega)]; exact (R.2.2.1.2 s s0 s1).1, by rw [o _ _ _ (by omega) (by omega)]; exact (R.2.2.1.2 s s0 s1).2.1, fun hb => ⟨by rw [o _ _ _ (by omega) (by omega)]; exact ((R.2.2.1.2 s s0 s1).2.2 hb).1, fun i i0 i1 => by rw [o _ _ _ (by omega) (by omega)]; exact ((R.2.2.1.2 s s0 s1).2.2 hb).2 i i0 i1⟩⟩⟩, rp, R.2.2.2.2.keepD fun k a j q => o k a j (by unfold fpRD at q; omega) (by unfold fpRD at q; omega)⟩
theorem st_forget : JSt (IV X) 3072 G X 164 214 [] := mk_stp fun n M T K P D C H A hX hn0 hn => by
  refine mk_gen (r := P.1) (T' := T) (K' := K) (P' := (0, P.2)) (D' := D) (fun Q hQ => ?_) (fun M1 Q R hQ => ?_)
  · have W := C.1
    have o : ∀ k a j, ¬ fpP X k a → jset M 2202 (X + 164) 0 0 k a j = M k a j := fun k a j q => if_neg (by unfold fpP at q; omega)
    refine rn_X11_forget _ M (sg_X11_forget_0 _ M ?_)
    rw [wa_1204 W, C.2.2.2.2.1.1.1]
    refine ⟨wa_t W, w_patterns_t W, wa_t W, w_patterns_t W, hQ _ ⟨A.1, A.2.1, ⟨Int.le_refl 0, show (0 : Int) ≤ 16 by decide, fun q h0 h1 => by have h1 : q < 0 := h1; omega⟩, A.2.2.2⟩ (fun k a j q1 q2 => o k a j (by unfold fpP; omega)) ((C.pat A o ⟨⟨jset_s, fun q h0 h1 => ?_⟩, fun q h0 h1 => by have h1 : q < 0 := h1; omega⟩).mono (by omega) (by omega)) (H.pat C.2.2.2.2.2.2 o) (o _ _ _ (by unfold fpP; omega)) (o _ _ _ (by unfold fpP; omega))⟩
    rw [jset_k (by decide)]; exact C.2.2.2.2.1.1.2 q h0 h1
  · have W := R.1
    have wt := w_model_t W
    refine rn_X12_forget _ M1 (sg_X12_forget_0 _ M1 ?_)
    rw [R.2.2.2.1.1]
    exact ⟨wt, wt, hQ _ (fun k a j q => if_neg (by omega)) (R.pat (fun k a j q1 q2 => if_neg (by omega)) ⟨jset_s, fun q h0 h1 => by have h1 : q < 0 := h1; omega⟩)⟩
/-- one more pattern -/
noncomputable def ppush (P : ATx) (l : Int) (f : Int → Int) : ATx := (P.1 + 1, fun q => if q = P.1 then l else P.2.1 q, fun q => if q = P.1 then f else P.2.2 q)
theorem st_pattern (t : Int) : JSt (IV X) 3072 G X 132 210 [(0, t)] := mk_stp fun n M T K P D C H A hX hn0 hn => by
  obtain ⟨p1, p2, p3⟩ := A.2.2.1
  by_cases hv : (0 ≤ t ∧ t < T.1) ∧ 1 ≤ T.2.1 t ∧ T.2.1 t ≤ 40
  · obtain ⟨ht, hl⟩ := hv
    obtain ⟨u1, u2, u3⟩ := A.1.2.2 t ht.1 ht.2
    have a2 := A.1.2.1
    by_cases hm : P.1 < 16
    · refine mk_gen (r := P.1) (T' := T) (K' := K) (P' := ppush P (T.2.1 t) (T.2.2 t)) (D' := D) (fun Q hQ => ?_) (fun M1 Q R hQ => ?_)
      · have W := C.1
        have cp := C.2.2.2.2.1
        obtain ⟨TT, e1, e2, e3, e4, e5, e6, e7, e8⟩ := c_txt C A ht
        obtain ⟨w1, w2, w3, w4, w5⟩ := w_pat W p1 hm
        have PP : Tx M (X + (167 + 2 * P.1)) 40 := ⟨w2, by rw [w3]; exact w4, by rw [w3]; exact w5, (cp.1.2 P.1 p1 hm).1, (cp.1.2 P.1 p1 hm).2, by decide⟩
        refine rn_X11_pattern _ _ M (sg_X11_pattern_0 _ _ M ?_)
        rw [wa_1200 W]
        refine ⟨wa_t W, w_shelf_t W, c_lkT C A hX ht (fun _ => ⟨fun q => absurd q (by omega), fun _ => ⟨e4, fun q => absurd q (by omega), fun _ => ⟨e4, fun _ => ⟨wa_t W, by rw [wa_1204 W]; exact w_patterns_t W, ?_⟩, fun q => absurd (by omega) q⟩⟩⟩)⟩
        rw [wa_1204 W]
        refine rn_X2_take _ _ M (sg_X2_take_0 _ _ M ?_)
        rw [cp.1.1, w_patterns_300 W, w1]
        refine ⟨w_patterns_t W, fun _ => ⟨w_patterns_t W, w_patterns_t W, ⟨Or.inl (w_pkept_t W), p1, by rw [w_pkept_n W]; exact hm⟩, w2, c_become PP TT (by omega) (by omega) (fun _ => ?_)⟩, fun q => absurd hm q⟩
        rw [w3, e2, e1, jset_s]
        have z : ∀ k a, k ≠ 2 → ¬ (k = 2901 ∧ a = X + (167 + 2 * P.1)) → ∀ j, jset (jcpy (jset M 2901 (X + (167 + 2 * P.1)) 0 0) (X + (5 + 2 * t)) 0 (X + (168 + 2 * P.1)) 0 (T.2.1 t)) 2901 (X + (167 + 2 * P.1)) 0 (T.2.1 t) k a j = M k a j := fun k a h1 h2 j => by
          rw [show jset (jcpy (jset M 2901 (X + (167 + 2 * P.1)) 0 0) (X + (5 + 2 * t)) 0 (X + (168 + 2 * P.1)) 0 (T.2.1 t)) 2901 (X + (167 + 2 * P.1)) 0 (T.2.1 t) k a j = _ from if_neg (by omega), jcpy_k h1, show jset M 2901 (X + (167 + 2 * P.1)) 0 0 k a j = _ from if_neg (by omega)]
        rw [z 2202 (X + 164) (by decide) (by omega), cp.1.1]
        have o : ∀ k a j, ¬ fpP X k a → jset (jset (jcpy (jset M 2901 (X + (167 + 2 * P.1)) 0 0) (X + (5 + 2 * t)) 0 (X + (168 + 2 * P.1)) 0 (T.2.1 t)) 2901 (X + (167 + 2 * P.1)) 0 (T.2.1 t)) 2202 (X + 164) 0 (P.1 + 1) k a j = M k a j := fun k a j q => by
          unfold fpP at q
          rw [show jset (jset (jcpy (jset M 2901 (X + (167 + 2 * P.1)) 0 0) (X + (5 + 2 * t)) 0 (X + (168 + 2 * P.1)) 0 (T.2.1 t)) 2901 (X + (167 + 2 * P.1)) 0 (T.2.1 t)) 2202 (X + 164) 0 (P.1 + 1) k a j = _ from if_neg (by omega), show jset (jcpy (jset M 2901 (X + (167 + 2 * P.1)) 0 0) (X + (5 + 2 * t)) 0 (X + (168 + 2 * P.1)) 0 (T.2.1 t)) 2901 (X + (167 + 2 * P.1)) 0 (T.2.1 t) k a j = _ from if_neg (by omega), show jcpy (jset M 2901 (X + (167 + 2 * P.1)) 0 0) (X + (5 + 2 * t)) 0 (X + (168 + 2 * P.1)) 0 (T.2.1 t) k a j = _ from if_neg (by omega)]
          exact if_neg (by omega)
        have sq : jset (jset (jcpy (jset M 2901 (X + (167 + 2 * P.1)) 0 0) (X + (5 + 2 * t)) 0 (X + (168 + 2 * P.1)) 0 (T.2.1 t)) 2901 (X + (167 + 2 * P.1)) 0 (T.2.1 t)) 2202 (X + 164) 0 (P.1 + 1) 2901 (X + (167 + 2 * P.1)) 0 = T.2.1 t := by
          rw [jset_k (by decide), jset_s]
        have so : ∀ q, q ≠ P.1 → jset (jset (jcpy (jset M 2901 (X + (167 + 2 * P.1)) 0 0) (X + (5 + 2 * t)) 0 (X + (168 + 2 * P.1)) 0 (T.2.1 t)) 2901 (X + (167 + 2 * P.1)) 0 (T.2.1 t)) 2202 (X + 164) 0 (P.1 + 1) 2901 (X + (167 + 2 * q)) 0 = M 2901 (X + (167 + 2 * q)) 0 := fun q hq => by
          rw [jset_k (by decide), jset_a (by omega), jcpy_k (by decide), jset_a (by omega)]
        have A' : AI T K (ppush P (T.2.1 t) (T.2.2 t)) D := ⟨A.1, A.2.1, ⟨by show 0 ≤ P.1 + 1; omega, by show P.1 + 1 ≤ 16; omega, fun q h0 h1 => by
          have h1 : q < P.1 + 1 := h1
          show 1 ≤ (if q = P.1 then T.2.1 t else P.2.1 q) ∧ (if q = P.1 then T.2.1 t else P.2.1 q) ≤ 40 ∧ ∀ i, 0 ≤ i → i < (if q = P.1 then T.2.1 t else P.2.1 q) → 0 ≤ (if q = P.1 then T.2.2 t else P.2.2 q) i ∧ (if q = P.1 then T.2.2 t else P.2.2 q) i ≤ 65535
          by_cases hq : q = P.1
          · rw [if_pos hq, if_pos hq]; exact ⟨hl.1, hl.2, u3⟩
          · rw [if_neg hq, if_neg hq]; exact p3 q h0 (by omega)⟩, A.2.2.2⟩
        refine ⟨by rw [z _ _ (by decide) (by omega)]; exact w_patterns_t W, by unfold jR; omega, by rw [z _ _ (by decide) (by omega)]; exact w_patterns_t W, by rw [z _ _ (by decide) (by omega)]; exact w_patterns_t W, by unfold jR; omega, fun _ => ?_⟩
        rw [show P.1 + 1 - 1 = P.1 by omega]
        refine hQ _ A' (fun k a j q1 q2 => o k a j (by unfold fpP; omega)) ((C.pat A o ⟨⟨jset_s, fun q h0 h1 => ?_⟩, fun q h0 h1 => ?_⟩).mono (by omega) (by omega)) (H.pat C.2.2.2.2.2.2 o) (o _ _ _ (by unfold fpP; omega)) (o _ _ _ (by unfold fpP; omega))
        · by_cases hq : q = P.1
          · rw [hq, sq]; omega
          · rw [so q hq]; exact cp.1.2 q h0 h1
        · have h1 : q < P.1 + 1 := h1
          show _ = (if q = P.1 then T.2.1 t else P.2.1 q) ∧ ∀ i, 0 ≤ i → i < (if q = P.1 then T.2.1 t else P.2.1 q) → _ = (if q = P.1 then T.2.2 t else P.2.2 q) i
          by_cases hq : q = P.1
          · rw [if_pos hq, if_pos hq, hq, sq]
            refine ⟨rfl, fun i i0 i1 => ?_⟩
            rw [jset_k (by decide), jset_k (by decide), jcpy_in (by omega) (by omega), jset_k (by decide), show 0 + (i - 0) = i by omega]
            exact e3 i i0 i1
          · rw [if_neg hq, if_neg hq, so q hq]
            refine ⟨(cp.2 q h0 (by omega)).1, fun i i0 i1 => ?_⟩
            rw [jset_k (by decide), jset_k (by decide), jcpy_a (by omega), jset_k (by decide)]
            exact (cp.2 q h0 (by omega)).2 i i0 i1
      · have W := R.1
        have wt := w_model_t W
        have ep := R.2.2.2.1.1
        obtain ⟨z1, z2, z3, z4, z5⟩ := r_txt R A ht
        have B0 : ∀ N : JM, (∀ k a j, ¬ (k = 2 ∧ (a = X + 227 ∨ a = X + 228)) → N k a j = M1 k a j) → WSt X N ∧ RT X N T ∧ N 3210 (X + 218) 0 = P.1 := fun N o => ⟨W.keep fun k a j _ _ hk => o k a j (by omega), ⟨by rw [o _ _ _ (by omega)]; exact R.2.1.1, fun s s0 s1 => ⟨by rw [o _ _ _ (by omega)]; exact (R.2.1.2 s s0 s1).1, fun i i0 i1 => by rw [o _ _ _ (by omega)]; exact (R.2.1.2 s s0 s1).2 i i0 i1⟩⟩, by rw [o _ _ _ (by omega)]; exact ep⟩
        refine lp_X12_pattern (fun v0 v1 v2 N => X + 218 = v0 ∧ t = v1 ∧ 0 ≤ v2 ∧ v2 ≤ T.2.1 t ∧ N = jcpy (jset M1 2 (X + 227) P.1 (T.2.1 t)) (X + 220) (240 * t) (X + 228) (40 * P.1) v2) (fun _ _ v2 => (1000 - v2).toNat) ?_ _ _ M1 ?_
        · rintro v0 v1 v2 N ⟨rfl, rfl, i1, i2, rfl⟩
          have o : ∀ k a j, ¬ (k = 2 ∧ (a = X + 227 ∨ a = X + 228)) → jcpy (jset M1 2 (X + 227) P.1 (T.2.1 t)) (X + 220) (240 * t) (X + 228) (40 * P.1) v2 k a j = M1 k a j := fun k a j q => by
            rw [show jcpy (jset M1 2 (X + 227) P.1 (T.2.1 t)) (X + 220) (240 * t) (X + 228) (40 * P.1) v2 k a j = _ from if_neg (by omega)]
            exact if_neg (by omega)
          obtain ⟨WN, RN, en⟩ := B0 _ o
          have wn := w_model_t WN
          rw [w_model_1301 WN, w_m1301_t WN, w_m1301_n WN, (RN.2 t ht.1 ht.2).1, en, jset_s]
          refine ⟨wn, ⟨rfl, ht.1, by omega⟩, fun q => ?_, fun q => ⟨wn, wn, by unfold jR; omega, by unfold jR; omega, wn, r_unit WN RN A.1 ht.1 ht.2 i1 (by omega) (fun _ => ?_)⟩⟩
          · have : v2 = T.2.1 t := by omega
            subst this
            refine ⟨wn, by unfold jR; omega, wn, wn, by unfold jR; omega, ?_⟩
            rw [show P.1 + 1 - 1 = P.1 by omega]
            refine hQ _ (fun k a j q => ?_) (R.pat (fun k a j q1 q2 => ?_) ⟨jset_s, fun q h0 h1 => ?_⟩)
            · rw [show jset (jcpy (jset M1 2 (X + 227) P.1 (T.2.1 t)) (X + 220) (240 * t) (X + 228) (40 * P.1) (T.2.1 t)) 3210 (X + 218) 0 (P.1 + 1) k a j = _ from if_neg (by omega)]
              exact o k a j (by omega)
            · rw [show jset (jcpy (jset M1 2 (X + 227) P.1 (T.2.1 t)) (X + 220) (240 * t) (X + 228) (40 * P.1) (T.2.1 t)) 3210 (X + 218) 0 (P.1 + 1) k a j = _ from if_neg (by omega)]
              exact o k a j q2
            · have h1 : q < P.1 + 1 := h1
              show _ = (if q = P.1 then T.2.1 t else P.2.1 q) ∧ ∀ i, 0 ≤ i → i < (if q = P.1 then T.2.1 t else P.2.1 q) → _ = (if q = P.1 then T.2.2 t else P.2.2 q) i
              rw [jset_k (by decide), jcpy_a (show X + 227 ≠ X + 228 by omega)]
              by_cases hq : q = P.1
              · rw [if_pos hq, if_pos hq, hq]
                refine ⟨jset_s, fun i i0 i1 => ?_⟩
                rw [jset_k (by decide), jcpy_in (by omega) (by omega), jset_a (by omega), show 240 * t + (40 * P.1 + i - 40 * P.1) = 240 * t + i by omega]
                exact z2 i i0 i1
              · rw [if_neg hq, if_neg hq, jset_j hq]
                obtain ⟨r1, r2⟩ := R.2.2.2.1.2 q h0 (by omega)
                obtain ⟨b1, b2, -⟩ := p3 q h0 (by omega)
                refine ⟨r1, fun i i0 i1 => ?_⟩
                rw [jset_k (by decide), jcpy_out (by omega), jset_a (by omega)]
                exact r2 i i0 i1
          · rw [w_model_1312 WN, w_m1312_t WN, w_m1312_n WN]
            refine ⟨⟨rfl, by omega, by omega⟩, by unfold jR; omega, ⟨rfl, rfl, by omega, by omega, ?_⟩, by omega⟩
            refine jcpy_step i1 rfl ?_
            rw [jset_a (by omega)]
            exact (z2 v2 i1 (by omega)).symm
        · refine ⟨wt, r_isT R A ht (fun _ => ⟨fun q => absurd q (by decide), fun _ => ⟨wt, ?_⟩⟩)⟩
          rw [w_model_1301 W, w_m1301_t W, w_m1301_n W, z1]
          refine ⟨⟨rfl, ht.1, by omega⟩, r_in (fun _ _ _ => ⟨fun _ => ⟨wt, ?_⟩, fun q => absurd (by decide) q⟩) (fun q => absurd hl q)⟩
          rw [w_model_1301 W, w_m1301_t W, w_m1301_n W, z1, ep, w_model_1311 W, w_m1311_t W, w_m1311_n W]
          exact ⟨fun _ => ⟨wt, wt, wt, ⟨rfl, ht.1, by omega⟩, ⟨rfl, p1, hm⟩, ⟨rfl, rfl, by omega, by omega, jcpy_none.symm⟩⟩, fun q => absurd (by omega) q⟩
    · refine mk_no (r := -3) C H A ⟨hn0, hn⟩ (fun Q hQ => ?_) (fun M1 Q R hQ => ?_)
      · have W := C.1
        obtain ⟨TT, e1, e2, e3, e4, e5, e6, e7, e8⟩ := c_txt C A ht
        refine rn_X11_pattern _ _ M (sg_X11_pattern_0 _ _ M ?_)
        rw [wa_1200 W]
        refine ⟨wa_t W, w_shelf_t W, c_lkT C A hX ht (fun _ => ⟨fun q => absurd q (by omega), fun _ => ⟨e4, fun q => absurd q (by omega), fun _ => ⟨e4, fun _ => ⟨wa_t W, by rw [wa_1204 W]; exact w_patterns_t W, ?_⟩, fun q => absurd (by omega) q⟩⟩⟩)⟩
        rw [wa_1204 W]
        refine rn_X2_take _ _ M (sg_X2_take_0 _ _ M ?_)
        rw [C.2.2.2.2.1.1.1]
        exact ⟨w_patterns_t W, fun q => absurd q (by omega), fun _ _ => hQ⟩
      · have W := R.1
        have wt := w_model_t W
        have ep := R.2.2.2.1.1
        obtain ⟨z1, z2, z3, z4, z5⟩ := r_txt R A ht
        refine lp_X12_pattern (fun _ _ _ _ => False) (fun _ _ _ => 0) (fun _ _ _ _ q => q.elim) _ _ M1 ?_
        repeat' first | rw [wa_1200 W] | (refine r_isT R A ht ?_) | (refine r_in ?_ ?_) | (rw [w_model_1301 W]) | (rw [w_m1301_n W]) | exact w_m1301_t W | (rw [z1]) | (rw [ep]) | apply And.intro | intro _ | exact wt | exact wa_t W | exact w_shelf_t W | assumption | exact Or.inl rfl | exact Or.inr rfl | rfl | omega | (unfold jR; omega)
  · refine mk_no (r := -2) C H A ⟨hn0, hn⟩ (fun Q hQ => ?_) (fun M1 Q R hQ => ?_)
    · have W := C.1
      refine rn_X11_pattern _ _ M (sg_X11_pattern_0 _ _ M ?_)
      by_cases ht : 0 ≤ t ∧ t < T.1
      · obtain ⟨TT, e1, e2, e3, e4, e5, e6, e7, e8⟩ := c_txt C A ht
        repeat' first | rw [wa_1200 W] | (refine c_lkT C A hX ht ?_) | (rw [e1]) | apply And.intro | intro _ | exact wt | exact wa_t W | exact w_shelf_t W | assumption | exact Or.inl rfl | exact Or.inr rfl | rfl | omega | (unfold jR; omega)
      · repeat' first | rw [wa_1200 W] | (refine c_lkF C A hX ht ?_) | apply And.intro | intro _ | exact wt | exact wa_t W | exact w_shelf_t W | assumption | exact Or.inl rfl | exact Or.inr rfl | rfl | omega | (unfold jR; omega)
    · have W := R.1
      have wt := w_model_t W
      refine lp_X12_pattern (fun _ _ _ _ => False) (fun _ _ _ => 0) (fun _ _ _ _ q => q.elim) _ _ M1 ?_
      by_cases ht : 0 ≤ t ∧ t < T.1
      · obtain ⟨z1, z2, z3, z4, z5⟩ := r_txt R A ht
        repeat' first | rw [wa_1200 W] | (refine r_isT R A ht ?_) | (refine r_in ?_ ?_) | (rw [w_model_1301 W]) | (rw [w_m1301_n W]) | exact w_m1301_t W | (rw [z1]) | apply And.intro | intro _ | exact wt | exact wa_t W | exact w_shelf_t W | assumption | exact Or.inl rfl | exact Or.inr rfl | rfl | omega | (unfold jR; omega)
      · repeat' first | rw [wa_1200 W] | (refine r_isF R A ht ?_) | apply And.intro | intro _ | exact wt | exact wa_t W | exact w_shelf_t W | assumption | exact Or.inl rfl | exact Or.inr rfl | rfl | omega | (unfold jR; omega)
end PAT
