/-! step: absent -/
section ABSENT
variable {G : JG} {X : Int}
theorem Oall_ext {n N : Int} {f w : Int → Int} : Oext n f N w 0 ↔ Oall n f N := ⟨fun z v hv => z v hv (fun d d0 d1 => by omega), fun z v hv _ => z v hv⟩
set_option maxHeartbeats 1000000 in
theorem st_absent (t : Int) : JSt (IV X) 3072 G X 150 245 [(0, t)] := mk_stp fun n M T K P D C H A hX hn0 hn => by
  have a1 := A.1.1
  have a2 := A.1.2.1
  by_cases ht : 0 ≤ t ∧ t < T.1
  · obtain ⟨u1, u2, u3⟩ := A.1.2.2 t ht.1 ht.2
    obtain ⟨L, hL⟩ : ∃ L, L = T.2.1 t := ⟨_, rfl⟩
    obtain ⟨f, hf⟩ : ∃ f, f = T.2.2 t := ⟨_, rfl⟩
    rw [← hL] at u1 u2
    rw [← hL, ← hf] at u3
    have hf0 : ∀ k, 0 ≤ k → k < L → 0 ≤ f k := fun k k0 k1 => (u3 k k0 k1).1
    by_cases hm : T.1 < 40
    · by_cases hz : L = 0
      · refine mk_no (r := -4) C H A ⟨hn0, hn⟩ (fun Q hQ => ?_) (fun M1 Q R hQ => ?_)
        · have W := C.1
          obtain ⟨TT, x1, x2, x3, x4, -⟩ := c_txt C A ht
          rw [← hL] at x1
          refine rn_X11_absent _ _ M (sg_X11_absent_0 _ _ M ?_)
          rw [wa_1200 W]
          refine ⟨wa_t W, w_shelf_t W, c_lkT C A hX ht (fun _ => ⟨fun q => absurd q (by omega), fun _ => ?_⟩)⟩
          rw [wa_1200 W]
          refine ⟨wa_t W, w_shelf_t W, c_isFull W (fun z => absurd z (by rw [C.2.1.1]; omega)) (fun _ _ => ⟨fun _ => ?_, fun z => absurd rfl z⟩)⟩
          rw [x1]
          exact ⟨x4, fun z => absurd hz z, fun _ => hQ⟩
        · have W := R.1
          have wt := w_model_t W
          obtain ⟨z1, -, z3, -, -⟩ := r_txt R A ht
          rw [← hL] at z1
          have em := R.2.1.1
          refine lp_X12_absent (fun _ _ _ _ => False) (fun _ _ _ => 0) (fun _ _ _ _ _ => False) (fun _ _ _ _ => 0) (fun _ _ _ _ _ _ => False) (fun _ _ _ _ _ => 0) (fun _ _ _ _ _ => False) (fun _ _ _ _ => 0) (fun _ _ _ _ z => z.elim) (fun _ _ _ _ _ z => z.elim) (fun _ _ _ _ _ _ z => z.elim) (fun _ _ _ _ _ z => z.elim) _ _ M1 ?_
          refine ⟨wt, r_isT R A ht (fun _ => ⟨fun _ => ⟨wt, fun _ => ?_, fun z => absurd (by omega) z⟩, fun z => absurd (by decide) z⟩)⟩
          rw [w_model_1301 W, w_m1301_t W, w_m1301_n W, z1]
          exact ⟨wt, ⟨rfl, ht.1, z3⟩, fun z => absurd hz z, fun _ => hQ⟩
      · -- the component, up to what is missing
        have cpre : ∀ Q : Int → JM → Prop, (∀ M' N w, Esf X M M' → Txf M' (X + 159) N w → N ≤ 240 → AB L f N w → ((X + 159 : Int) = 0 → Q (-3) M') ∧ (¬ (X + 159 : Int) = 0 → M' 0 (X + 159) 0 = 19 ∧ M' 0 X 0 = 21 ∧ Runs G 166 0 0 [(1, X), (1, X + 159), (0, 0), (0, M' 2901 (X + 159) 0)] M' (fun r4 M4 => jokM M4 → Q r4 M4))) → (∀ M', Esf X M M' → (∀ m, 1 ≤ m → m ≤ 240 → Oall L f m) → Q (-3) M') → Runs G 150 0 0 [(1, X), (0, t)] M Q := fun Q h1 h2 => by
          have W := C.1
          obtain ⟨TT, x1, x2, x3, x4, -⟩ := c_txt C A ht
          rw [← hL] at x1
          have tf := c_tf C A ht
          rw [← hL, ← hf] at tf
          refine rn_X11_absent _ _ M (sg_X11_absent_0 _ _ M ?_)
          rw [wa_1200 W]
          refine ⟨wa_t W, w_shelf_t W, c_lkT C A hX ht (fun _ => ⟨fun q => absurd q (by omega), fun _ => ?_⟩)⟩
          rw [wa_1200 W]
          refine ⟨wa_t W, w_shelf_t W, c_isFull W (fun z => absurd z (by rw [C.2.1.1]; omega)) (fun _ _ => ⟨fun _ => ?_, fun z => absurd rfl z⟩)⟩
          rw [x1, wa_1202 W]
          refine ⟨x4, fun _ => ⟨wa_t W, w_search_t W, c_miss W hX tf (by omega) (by rw [x2]; omega) hf0 (by omega) (fun M' N w e tw nb ab _ => h1 M' N w e tw nb ab) (fun M' e al _ => ⟨fun _ => h2 M' e al, fun z => absurd rfl z⟩)⟩, fun z => absurd hz z⟩
        -- what the scratch of the component leaves be
        have ek : ∀ M', Esf X M M' → CB X n M' T K P D ∧ CH X M' T ∧ FrC X M M' := fun M' e => ⟨C.keep A fun k a j z => e k a j (by unfold fpC fpS fpT fpK fpP fpD at z; omega), H.keep C.2.2.2.2.2.2 fun k a j z => e k a j (by have := C.2.2.2.2.2.2.1; unfold fpH at z; omega), fun k a j z1 z2 => e k a j (by omega)⟩
        have kk1 : ∀ k g, LT L f k g → 1 ≤ k ∧ k ≤ 240 := fun k g l => by
          obtain ⟨a, a0, a1, _⟩ := l.2.2.2 0 (by omega) (by omega)
          have := l.1
          omega
        by_cases hall : ∀ m, 1 ≤ m → m ≤ 240 → Oall L f m
        · refine ⟨fun r' T' K' P' D' => r' = -3 ∧ T' = T ∧ K' = K ∧ P' = P ∧ D' = D, fun Q hQ => cpre Q (fun M' N w e tw nb ab => absurd (hall N ab.1 nb w ab.2.1.1) ab.2.1.2.1) (fun M' e al => hQ (-3) M' T K P D ⟨rfl, rfl, rfl, rfl, rfl⟩ A (ek M' e).2.2 ((ek M' e).1.mono (by omega) (by omega)) (ek M' e).2.1 (e _ _ _ (by omega)) (e _ _ _ (by omega))), ?_⟩
          rintro M1 Q r' T' K' P' D' ⟨rfl, rfl, rfl, rfl, rfl⟩ R hQ
          have W := R.1
          have wt := w_model_t W
          obtain ⟨z1, -, z3, -, -⟩ := r_txt R A ht
          rw [← hL] at z1
          have em := R.2.1.1
          refine lp_X12_absent (fun v0 v1 v2 V => X + 218 = v0 ∧ t = v1 ∧ 1 ≤ v2 ∧ v2 ≤ 241 ∧ Rsf X M1 V ∧ Tbl X V L f ∧ LT L f (V 3231 (X + 218) 0) (V 2 (X + 243))) (fun _ _ v2 => (1000 - v2).toNat) (fun _ _ _ _ _ => False) (fun _ _ _ _ => 0) (fun _ _ _ _ _ _ => False) (fun _ _ _ _ _ => 0) (fun _ _ _ _ _ => False) (fun _ _ _ _ => 0) ?_ (fun _ _ _ _ _ z => z.elim) (fun _ _ _ _ _ _ z => z.elim) (fun _ _ _ _ _ z => z.elim) _ _ M1 ?_
          · rintro v0 v1 v2 V ⟨rfl, rfl, i1, i2, i3, i4, i5⟩
            have RV := i3.ri R
            have wv := w_model_t RV.1
            have kb := kk1 _ _ i5
            refine ⟨wv, r_begin RV A ht hL hf i4 ⟨i1, by omega⟩ ⟨by omega, by omega, by omega⟩ (fun _ => ⟨wv, r_power RV.1 rfl kb.1 kb.2 (by omega) (by omega) (fun _ => ?_)⟩)⟩
            have dl := Dn_less (N := v2) (m := 0) (w := V 2 (X + 244)) i5 ⟨u1, u2⟩ (by omega) (by omega) (fun d d0 d1 => by omega)
            rw [show v2 - 0 = v2 by omega] at dl
            refine ⟨fun lt => ⟨fun le => absurd (Oall_ext.mpr (hall v2 i1 le)) (dl.1.mp lt), fun _ => hQ V i3.frr RV⟩, fun lt => ⟨by unfold jR; omega, ⟨rfl, rfl, by omega, ?_, i3, i4, i5⟩, by omega⟩⟩
            by_cases c : v2 = 241
            · exfalso
              apply lt
              rw [dl.1]
              intro z
              have z := Oall_ext.mp z
              obtain ⟨y, y0, y1, _⟩ := z (fun _ => f 0) (fun d d0 d1 => ⟨0, by omega, by omega, rfl⟩)
              omega
            · omega
          · refine ⟨wt, r_isT R A ht (fun _ => ⟨fun _ => ⟨wt, fun _ => ?_, fun z => absurd (by omega) z⟩, fun z => absurd (by decide) z⟩)⟩
            rw [w_model_1301 W, w_m1301_t W, w_m1301_n W, z1]
            refine ⟨wt, ⟨rfl, ht.1, z3⟩, fun _ => ⟨wt, r_look R.1 R.2.1 A.1 ht ht (fun V lk lv _ => ⟨w_model_t (lk.W W), r_signs (lk.RI R) A ht hL hf (fun V' o1 o2 l _ => ⟨rfl, rfl, by omega, by omega, (fun k a j q1 q2 => (o1 k a j q1 q2).trans (lk k a j (by omega))), fun i j i0 i1 j0 j1 => ?_, l⟩)⟩)⟩, fun z => absurd hz z⟩
            rw [o2 _ _ (by omega), hL, hf]
            exact lv i j i0 (by omega) j0 (by omega)
        · refine ⟨fun r' T' K' P' D' => ∃ N w, AB L f N w ∧ N ≤ 240 ∧ r' = T.1 ∧ T' = atx (aopen T) T.1 N w ∧ K' = kpush K T.1 1 0 (T.2.2 T.1) ∧ P = P' ∧ D = D', fun Q hQ => cpre Q (fun M' N w e tw nb ab => ⟨fun z => absurd z (by omega), fun _ => ?_⟩) (fun M' e al => absurd al hall), ?_⟩
          · obtain ⟨c', h', f'⟩ := ek M' e
            have W' := c'.1
            have m1 := w_emissing_1000 W'
            have rg : ∀ i, 0 ≤ i → i < N → 0 ≤ w i ∧ w i ≤ 65535 := fun i i0 i1 => by
              obtain ⟨y, y0, y1, y2⟩ := ab.2.1.1 i i0 i1
              rw [← y2]; exact u3 y y0 y1
            have TT : Tx M' (X + 159) 240 := ⟨tw.1, tw.2.2.2.1, by rw [m1]; exact w_emarr_n W', by rw [tw.2.1]; exact tw.2.2.1.1, by rw [tw.2.1]; exact tw.2.2.1.2, by decide⟩
            have nn := ab.1
            rw [tw.2.1]
            refine ⟨tw.1, wa_t W', c_mkp (g := w) c' h' A hX (by omega) hm TT (by omega) (by omega) (by omega) (by rw [m1]; omega) (fun i i0 i1 => tw.2.2.2.2.2 i i0 (by rw [tw.2.1] at i1; exact i1)) (fun i i0 i1 => rg i i0 i1) (by omega) (by omega) (by rw [tw.2.1]; exact Int.le_refl _) (by omega) (fun M3 f3 c3 A3 s3 p1 p2 _ => ?_)⟩
            have ew : (fun i => w (0 + i)) = w := funext fun i => by rw [Int.zero_add]
            rw [Int.sub_zero, ew] at c3 A3
            exact hQ T.1 M3 _ _ P D ⟨N, w, ab, nb, rfl, rfl, rfl, rfl, rfl⟩ A3 (f'.trans f3) (c3.mono (by omega) (by omega)) (s3.CH _) (by rw [p1]; exact e _ _ _ (by omega)) (by rw [p2]; exact e _ _ _ (by omega))
          · rintro M1 Q r' T' K' P' D' ⟨N, w, ab, nb, rfl, rfl, rfl, rfl, rfl⟩ R hQ
            have W := R.1
            have wt := w_model_t W
            obtain ⟨z1, -, z3, -, -⟩ := r_txt R A ht
            rw [← hL] at z1
            have em := R.2.1.1
            have nn := ab.1
            have hT : 0 ≤ T.1 ∧ T.1 < (aopen T).1 := ⟨a1, by show T.1 < T.1 + 1; omega⟩
            have rg : ∀ i, 0 ≤ i → i < N → 0 ≤ w i ∧ w i ≤ 65535 := fun i i0 i1 => by
              obtain ⟨y, y0, y1, y2⟩ := ab.2.1.1 i i0 i1
              rw [← y2]; exact u3 y y0 y1
            refine lp_X12_absent
              (fun v0 v1 v2 V => X + 218 = v0 ∧ t = v1 ∧ 1 ≤ v2 ∧ v2 ≤ N ∧ Rsf X M1 V ∧ Tbl X V L f ∧ LT L f (V 3231 (X + 218) 0) (V 2 (X + 243))) (fun _ _ v2 => (10000000 - v2).toNat)
              (fun v0 v1 v2 v3 V => X + 218 = v0 ∧ t = v1 ∧ N = v2 ∧ 0 ≤ v3 ∧ v3 ≤ N ∧ Rsf X M1 V ∧ Tbl X V L f ∧ LT L f (V 3231 (X + 218) 0) (V 2 (X + 243)) ∧ Ov L f (V 2 (X + 244)) v3 ∧ ¬ Oext L f N (V 2 (X + 244)) v3 ∧ ∀ v, Ov L f v N → Lx v (V 2 (X + 244)) v3 → Oc L f v N) (fun _ _ _ v3 => ((1000 - v3) * 1000 + 500).toNat)
              (fun v0 v1 v2 v3 v4 V => X + 218 = v0 ∧ t = v1 ∧ N = v2 ∧ 0 ≤ v3 ∧ v3 < N ∧ 0 ≤ v4 ∧ v4 < V 3231 (X + 218) 0 ∧ Rsf X M1 V ∧ Tbl X V L f ∧ LT L f (V 3231 (X + 218) 0) (V 2 (X + 243)) ∧ V 2 (X + 244) v3 = V 2 (X + 243) v4 ∧ Ov L f (V 2 (X + 244)) v3 ∧ ¬ Oext L f N (V 2 (X + 244)) v3 ∧ (∀ v, Ov L f v N → Lx v (V 2 (X + 244)) v3 → Oc L f v N) ∧ ∀ a, 0 ≤ a → a < v4 → Oext L f N (wud (V 2 (X + 244)) v3 (V 2 (X + 243) a)) (v3 + 1)) (fun _ _ _ v3 v4 => ((1000 - v3) * 1000 + 499 - v4).toNat)
              (fun v0 v2 v3 v4 V => X + 218 = v0 ∧ N = v2 ∧ T.1 = v3 ∧ 0 ≤ v4 ∧ v4 ≤ N ∧ FrR X M1 V ∧ (∀ d, 0 ≤ d → d < N → V 2 (X + 244) d = w d) ∧ RI X V (atx (aopen T) T.1 v4 w) (kpush K T.1 1 0 (T.2.2 T.1)) P D ∧ AI (atx (aopen T) T.1 v4 w) (kpush K T.1 1 0 (T.2.2 T.1)) P D) (fun _ _ _ v4 => (1000 - v4).toNat) ?_ ?_ ?_ ?_ _ _ M1 ?_
            · rintro v0 v1 v2 V ⟨rfl, rfl, i1, i2, i3, i4, i5⟩
              have RV := i3.ri R
              have wv := w_model_t RV.1
              have kb := kk1 _ _ i5
              refine ⟨wv, r_begin RV A ht hL hf i4 ⟨i1, by omega⟩ ⟨by omega, by omega, by omega⟩ (fun _ => ⟨wv, r_power RV.1 rfl kb.1 kb.2 (by omega) (by omega) (fun _ => ?_)⟩)⟩
              have dl := Dn_less (N := v2) (m := 0) (w := V 2 (X + 244)) i5 ⟨u1, u2⟩ (by omega) (by omega) (fun d d0 d1 => by omega)
              rw [show v2 - 0 = v2 by omega] at dl
              refine ⟨fun lt => ⟨fun _ => ?_, fun le => absurd (by omega) le⟩, fun lt => ⟨by unfold jR; omega, ⟨rfl, rfl, by omega, ?_, i3, i4, i5⟩, by omega⟩⟩
              · have nx := dl.1.mp lt
                have e : v2 = N := by
                  rcases Int.lt_or_le v2 N with y | y
                  · exact absurd (Oall_ext.mpr (ab.2.2 v2 i1 y)) nx
                  · omega
                subst e
                exact ⟨⟨rfl, rfl, rfl, by omega, by omega, i3, i4, i5, fun d d0 d1 => by omega, nx, fun v _ ⟨d, d0, d1, _⟩ => by omega⟩, by omega⟩
              · by_cases c : v2 = N
                · subst c
                  exfalso
                  apply lt
                  rw [dl.1]
                  intro z
                  exact ab.2.1.2.1 (Oall_ext.mp z w ab.2.1.1)
                · omega
            · rintro v0 v1 v2 v3 V ⟨rfl, rfl, rfl, i1, i2, i3, i4, i5, i6, i7, i8⟩
              have RV := i3.ri R
              have WV := RV.1
              have wv := w_model_t WV
              have kb := kk1 _ _ i5
              rw [w_model_1332 WV, w_m1332_t WV, w_m1332_n WV, w_model_1333 WV, w_m1333_t WV, w_m1333_n WV]
              refine ⟨fun q => ⟨wv, r_newT RV A hm (fun V2 f2 o2 r2 a2' _ => ?_)⟩, fun q => ⟨wv, wv, ⟨rfl, by omega, by omega⟩, ⟨rfl, i1, by omega⟩, ⟨rfl, rfl, rfl, i1, by omega, by omega, ?_, fun k a j q1 q2 => ?_, fun i j i0 i1 j0 j1 => ?_, ?_, ?_, ?_, ?_, ?_, fun a a0 a1 => by omega⟩, by omega⟩⟩
              · have e : v3 = N := by omega
                subst e
                have abm : AB L f v3 (V 2 (X + 244)) := ⟨nn, ⟨i6, fun z => i7 (fun v _ hv => Oc_c (fun d d0 d1 => (hv d d0 d1).symm) z), i8⟩, ab.2.2⟩
                have eq := (AB_uniq abm ab).2
                have sm : Same (aopen T) (atx (aopen T) T.1 0 w) := same_atx (by show (0 : Int) = if T.1 = T.1 then 0 else _; rw [if_pos rfl]) (fun i i0 i1 => by omega)
                exact ⟨⟨rfl, rfl, rfl, by omega, by omega, i3.frr.trans f2, fun d d0 d1 => by rw [o2 _ _ (by omega)]; exact eq d d0 d1, sm.RI r2, sm.AI a2'⟩, by omega⟩
              · rw [jset_k (by decide)]; omega
              · rw [show jset V 2 (X + 244) v3 (V 2 (X + 243) 0) k a j = V k a j from if_neg (by omega)]; exact i3 k a j q1 q2
              · rw [jset_a (by omega)]; exact i4 i j i0 i1 j0 j1
              · rw [jset_k (by decide), show jset V 2 (X + 244) v3 (V 2 (X + 243) 0) 2 (X + 243) = V 2 (X + 243) from funext fun j => jset_a (by omega) _ _]; exact i5
              · rw [jset_s, jset_a (by omega)]
              · intro d d0 d1
                rw [jset_j (by omega)]; exact i6 d d0 d1
              · exact fun z => i7 (Oext_c (fun d d0 d1 => jset_j (by omega) _ _) z)
              · intro v hv ⟨d, d0, d1, d2, d3⟩
                refine i8 v hv ⟨d, d0, d1, fun c c0 c1 => ?_, ?_⟩
                · have := d2 c c0 c1
                  rw [jset_j (by omega)] at this
                  exact this
                · rw [jset_j (by omega)] at d3
                  exact d3
            · rintro v0 v1 v2 v3 v4 V ⟨rfl, rfl, rfl, i1, i2, j1, j2, i3, i4, i5, j3, i6, i7, i8, j4⟩
              have RV := i3.ri R
              have WV := RV.1
              have wv := w_model_t WV
              have kb := kk1 _ _ i5
              have ov1 : Ov L f (V 2 (X + 244)) (v3 + 1) := fun d d0 d1 => by
                by_cases c : d = v3
                · rw [c, j3]; exact i5.2.2.1 v4 j1 j2
                · exact i6 d d0 (by omega)
              refine ⟨by unfold jR; omega, wv, r_begin RV A ht hL hf i4 ⟨by omega, by omega⟩ ⟨by omega, by omega, by omega⟩ (fun _ => ⟨by unfold jR; omega, by unfold jR; omega, wv, r_power WV rfl kb.1 kb.2 (by omega) (by omega) (fun _ => ?_)⟩)⟩
              have dl := Dn_less (N := N) (m := v3 + 1) (w := V 2 (X + 244)) i5 ⟨u1, u2⟩ (by omega) (by omega) ov1
              rw [show N - (v3 + 1) = N - v3 - 1 by omega] at dl
              rw [w_model_1332 WV, w_m1332_t WV, w_m1332_n WV, w_model_1333 WV, w_m1333_t WV, w_m1333_n WV]
              refine ⟨fun lt => ⟨by unfold jR; omega, ⟨rfl, rfl, rfl, by omega, by omega, i3, i4, i5, ov1, dl.1.mp lt, fun v hv hl => ?_⟩, by omega⟩, fun lt => ?_⟩
              · obtain ⟨d, d0, d1, d2, d3⟩ := hl
                by_cases c : d = v3
                · subst c
                  obtain ⟨y, y0, y1, y2⟩ := hv d d0 (by omega)
                  obtain ⟨a, b0, b1, b2⟩ := i5.2.2.2 y y0 y1
                  rw [← y2, ← b2, j3] at d3
                  have la := ((i5.inj b0 b1 j1 j2).1).mp d3
                  refine j4 a b0 la v hv (fun e e0 e1 => ?_)
                  by_cases ce : e = d
                  · rw [ce, wud_s, b2, y2]
                  · rw [wud_o ce]; exact d2 e e0 (by omega)
                · exact i8 v hv ⟨d, d0, by omega, d2, d3⟩
              · have full : Oext L f N (V 2 (X + 244)) (v3 + 1) := Classical.not_not.mp (fun z => lt (dl.1.mpr z))
                have nxt : v4 + 1 < V 3231 (X + 218) 0 := by
                  rcases Int.lt_or_le (v4 + 1) (V 3231 (X + 218) 0) with y | y
                  · exact y
                  · exfalso
                    refine i7 (fun v hv hp => ?_)
                    obtain ⟨z, z0, z1', z2⟩ := hv v3 i1 i2
                    obtain ⟨a, b0, b1, b2⟩ := i5.2.2.2 z z0 z1'
                    by_cases c : a = v4
                    · refine full v hv (fun e e0 e1 => ?_)
                      by_cases ce : e = v3
                      · rw [ce, j3, ← c, b2, z2]
                      · exact hp e e0 (by omega)
                    · refine j4 a b0 (by omega) v hv (fun e e0 e1 => ?_)
                      by_cases ce : e = v3
                      · rw [ce, wud_s, b2, z2]
                      · rw [wud_o ce]; exact hp e e0 (by omega)
                have s3 : jset V 2 (X + 244) v3 (V 2 (X + 243) (v4 + 1)) 2 (X + 243) = V 2 (X + 243) := funext fun j => jset_a (by omega) _ _
                refine ⟨by unfold jR; omega, wv, wv, ⟨rfl, by omega, by omega⟩, ⟨rfl, i1, by omega⟩, ⟨rfl, rfl, rfl, i1, i2, by omega, ?_, fun k a j q1 q2 => ?_, fun i j i0 i1 j0 j1 => ?_, ?_, ?_, ?_, ?_, ?_, fun a b0 b1 => ?_⟩, by omega⟩
                · rw [jset_k (by decide)]; exact nxt
                · rw [show jset V 2 (X + 244) v3 (V 2 (X + 243) (v4 + 1)) k a j = V k a j from if_neg (by omega)]; exact i3 k a j q1 q2
                · rw [jset_a (by omega)]; exact i4 i j i0 i1 j0 j1
                · rw [jset_k (by decide), s3]; exact i5
                · rw [jset_s, s3]
                · intro d d0 d1
                  rw [jset_j (by omega)]; exact i6 d d0 d1
                · exact fun z => i7 (Oext_c (fun d d0 d1 => jset_j (by omega) _ _) z)
                · intro v hv ⟨d, d0, d1, d2, d3⟩
                  refine i8 v hv ⟨d, d0, d1, fun c c0 c1 => ?_, ?_⟩
                  · have := d2 c c0 c1
                    rw [jset_j (by omega)] at this
                    exact this
                  · rw [jset_j (by omega)] at d3
                    exact d3
                · rw [s3]
                  by_cases c : a = v4
                  · refine Oext_c (fun d d0 d1 => ?_) full
                    by_cases ce : d = v3
                    · rw [ce, wud_s, c, j3]
                    · rw [wud_o ce, jset_j ce]
                  · refine Oext_c (fun d d0 d1 => ?_) (j4 a b0 (by omega))
                    by_cases ce : d = v3
                    · rw [ce, wud_s, wud_s]
                    · rw [wud_o ce, wud_o ce, jset_j ce]
            · rintro v0 v2 v3 v4 V ⟨rfl, rfl, rfl, i1, i2, i3, i4, i5, i6⟩
              have WV := i5.1
              have wv := w_model_t WV
              rw [w_model_1333 WV, w_m1333_t WV, w_m1333_n WV]
              refine ⟨fun q => ?_, fun q => ?_⟩
              · have e : v4 = N := by omega
                subst e
                exact hQ V i3 i5
              · rw [i4 v4 i1 (by omega)]
                refine ⟨wv, ⟨rfl, i1, by omega⟩, wv, r_putF i5 i6 hT ⟨i1, by omega⟩ rfl (rg v4 i1 (by omega)) (fun V2 o2 r2 a2' _ => ⟨by unfold jR; omega, ⟨rfl, rfl, rfl, by omega, by omega, i3.trans o2.FrR, fun d d0 d1 => ?_, r2, a2'⟩, by omega⟩)⟩
                rw [o2 _ _ _ (by omega)]; exact i4 d d0 d1
            · refine ⟨wt, r_isT R A ht (fun _ => ⟨fun _ => ⟨wt, fun _ => ?_, fun z => absurd (by omega) z⟩, fun z => absurd (by decide) z⟩)⟩
              rw [w_model_1301 W, w_m1301_t W, w_m1301_n W, z1]
              refine ⟨wt, ⟨rfl, ht.1, z3⟩, fun _ => ⟨wt, r_look R.1 R.2.1 A.1 ht ht (fun V lk lv _ => ⟨w_model_t (lk.W W), r_signs (lk.RI R) A ht hL hf (fun V' o1 o2 l _ => ⟨rfl, rfl, by omega, by omega, (fun k a j q1 q2 => (o1 k a j q1 q2).trans (lk k a j (by omega))), fun i j i0 i1 j0 j1 => ?_, l⟩)⟩)⟩, fun z => absurd hz z⟩
              rw [o2 _ _ (by omega), hL, hf]
              exact lv i j i0 (by omega) j0 (by omega)
    · refine mk_no (r := -3) C H A ⟨hn0, hn⟩ (fun Q hQ => ?_) (fun M1 Q R hQ => ?_)
      · have W := C.1
        refine rn_X11_absent _ _ M (sg_X11_absent_0 _ _ M ?_)
        rw [wa_1200 W]
        refine ⟨wa_t W, w_shelf_t W, c_lkT C A hX ht (fun _ => ⟨fun q => absurd q (by omega), fun _ => ?_⟩)⟩
        rw [wa_1200 W]
        exact ⟨wa_t W, w_shelf_t W, c_isFull W (fun _ _ => ⟨fun z => absurd z (by decide), fun _ => hQ⟩) (fun z => absurd z (by rw [C.2.1.1]; omega))⟩
      · have W := R.1
        have wt := w_model_t W
        have em := R.2.1.1
        refine lp_X12_absent (fun _ _ _ _ => False) (fun _ _ _ => 0) (fun _ _ _ _ _ => False) (fun _ _ _ _ => 0) (fun _ _ _ _ _ _ => False) (fun _ _ _ _ _ => 0) (fun _ _ _ _ _ => False) (fun _ _ _ _ => 0) (fun _ _ _ _ z => z.elim) (fun _ _ _ _ _ z => z.elim) (fun _ _ _ _ _ _ z => z.elim) (fun _ _ _ _ _ z => z.elim) _ _ M1 ?_
        exact ⟨wt, r_isT R A ht (fun _ => ⟨fun _ => ⟨wt, fun z => absurd (by omega) z, fun _ => hQ⟩, fun z => absurd (by decide) z⟩)⟩
  · refine mk_no (r := -2) C H A ⟨hn0, hn⟩ (fun Q hQ => ?_) (fun M1 Q R hQ => ?_)
    · have W := C.1
      refine rn_X11_absent _ _ M (sg_X11_absent_0 _ _ M ?_)
      repeat' first | rw [wa_1200 W] | (refine c_lkF C A hX ht ?_) | apply And.intro | intro _ | exact wt | exact wa_t W | exact w_shelf_t W | assumption | exact Or.inl rfl | exact Or.inr rfl | rfl | omega | (unfold jR; omega)
    · have W := R.1
      have wt := w_model_t W
      refine lp_X12_absent (fun _ _ _ _ => False) (fun _ _ _ => 0) (fun _ _ _ _ _ => False) (fun _ _ _ _ => 0) (fun _ _ _ _ _ _ => False) (fun _ _ _ _ _ => 0) (fun _ _ _ _ _ => False) (fun _ _ _ _ => 0) (fun _ _ _ _ z => z.elim) (fun _ _ _ _ _ z => z.elim) (fun _ _ _ _ _ _ z => z.elim) (fun _ _ _ _ _ z => z.elim) _ _ M1 ?_
      repeat' first | rw [wa_1200 W] | (refine r_isF R A ht ?_) | apply And.intro | intro _ | exact wt | exact wa_t W | exact w_shelf_t W | assumption | exact Or.inl rfl | exact Or.inr rfl | rfl | omega | (unfold jR; omega)
end ABSENT
