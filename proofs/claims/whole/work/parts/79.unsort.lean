/-! step: unsort -/
section UNSORT
variable {G : JG} {X : Int}
/-- only the row of places has changed -/
def Uof (x : Int) (M M' : JM) : Prop := ∀ (k : Nat) (a j : Int), ¬ (k = 2 ∧ a = x) → M' k a j = M k a j
theorem c_turned {Q : Int → JM → Prop} {M : JM} {n : Int} {f : Int → Int} {l : List TR} (W : WSt X M) (td : TdL M (X + 205) (X + 206) 1 241 l) (bw : isBwt n f l) (hn : 0 ≤ n ∧ n ≤ 240) (hf : ∀ k, 0 ≤ k → k < n → 0 ≤ f k) (h : ∀ M', Uof (X + 207) M M' → (∀ k, 0 ≤ k → k ≤ n → M' 2 (X + 207) (plc l k) = k) → Q 0 M') : Runs G 39 0 0 [(1, X + 204)] M Q := by
  have len : (l.length : Int) = n + 1 := bw.1
  have base : ∀ N, Uof (X + 207) M N → WSt X N ∧ N 3003 (X + 205) 0 = n + 1 ∧ ∀ k, 0 ≤ k → k ≤ n → N 2 (X + 206) k = rowx l k 0 := fun N o => by
    refine ⟨W.keep fun k a j _ _ hk => o k a j (by omega), by rw [o _ _ _ (by omega), td.2.2.1.1, len], fun k k0 k1 => ?_⟩
    have := td.2.2.2 k 0 k0 (by omega) (by omega) (by omega)
    rw [o _ _ _ (by omega), ← this, show k * 1 + 0 = k by omega]
  refine lp_X5_listTurned (fun v0 v1 v2 N => X + 204 = v0 ∧ X + 206 = v1 ∧ 0 ≤ v2 ∧ v2 ≤ n + 1 ∧ Uof (X + 207) M N ∧ ∀ k, 0 ≤ k → k < v2 → N 2 (X + 207) (plc l k) = k) (fun _ _ v2 => ((1000 - v2) * 1000).toNat) (fun v0 v1 v2 v3 v4 v5 N => X + 204 = v0 ∧ X + 206 = v1 ∧ 0 ≤ v2 ∧ v2 ≤ n ∧ v3 = rowx l v2 0 ∧ v4 = cntI (fun j => rowx l j 0 < rowx l v2 0 ∨ (rowx l j 0 = rowx l v2 0 ∧ j < v2)) v5 ∧ 0 ≤ v5 ∧ v5 ≤ n + 1 ∧ Uof (X + 207) M N ∧ ∀ k, 0 ≤ k → k < v2 → N 2 (X + 207) (plc l k) = k) (fun _ _ v2 _ _ v5 => ((1000 - v2) * 1000 - 1 - v5).toNat) ?_ ?_ _ M ?_
  · rintro v0 v1 v2 N ⟨rfl, rfl, i1, i2, i3, i4⟩
    obtain ⟨WN, n3, nr⟩ := base N i3
    rw [w_sorter_600 WN, n3, w_ocells_t WN, w_ocells_n WN]
    refine ⟨w_sorter_t WN, w_olast_t WN, fun q => h N i3 (fun k k0 k1 => i4 k k0 (by omega)), fun q => ⟨⟨rfl, i1, by omega⟩, ⟨rfl, rfl, i1, by omega, nr v2 i1 (by omega), by rw [cntI_z (by omega)], by omega, by omega, i3, i4⟩, by omega⟩⟩
  · rintro v0 v1 v2 v3 v4 v5 N ⟨rfl, rfl, i1, i2, rfl, rfl, i5, i6, i3, i4⟩
    obtain ⟨WN, n3, nr⟩ := base N i3
    have cr := @cntI_r (fun j => rowx l j 0 < rowx l v2 0 ∨ (rowx l j 0 = rowx l v2 0 ∧ j < v2)) v5 i5
    rw [w_sorter_600 WN, n3, w_ocells_t WN, w_ocells_n WN, w_sorter_601 WN, w_oturned_t WN, w_oturned_n WN]
    refine ⟨w_sorter_t WN, w_olast_t WN, fun q => ?_, fun q => ⟨⟨rfl, i5, by omega⟩, ?_⟩⟩
    · have e : v5 = l.length := by omega
      have pe : cntI (fun j => rowx l j 0 < rowx l v2 0 ∨ (rowx l j 0 = rowx l v2 0 ∧ j < v2)) v5 = plc l v2 := by rw [e]; rfl
      have pr := plc_r bw hn.1 hf i1 i2
      rw [pe]
      refine ⟨w_sorter_t WN, ⟨rfl, pr.1, by omega⟩, by unfold jR; omega, ⟨rfl, rfl, by omega, by omega, fun k a j q => ?_, fun k k0 k1 => ?_⟩, by omega⟩
      · rw [show jset N 2 (X + 207) (plc l v2) v2 k a j = N k a j from if_neg (fun z => q ⟨z.1, z.2.1⟩)]; exact i3 k a j q
      · by_cases c : k = v2
        · rw [c, jset_s]
        · rw [jset_j (fun z => c (plc_inj bw hn.1 hf k0 (by omega) i1 i2 z))]; exact i4 k k0 (by omega)
    · rw [nr v5 i5 (by omega)]
      have yes : (rowx l v5 0 < rowx l v2 0 ∨ (rowx l v5 0 = rowx l v2 0 ∧ v5 < v2)) → cntI (fun j => rowx l j 0 < rowx l v2 0 ∨ (rowx l j 0 = rowx l v2 0 ∧ j < v2)) v5 + 1 = cntI (fun j => rowx l j 0 < rowx l v2 0 ∨ (rowx l j 0 = rowx l v2 0 ∧ j < v2)) (v5 + 1) := fun z => (cntI_t (p := fun j => rowx l j 0 < rowx l v2 0 ∨ (rowx l j 0 = rowx l v2 0 ∧ j < v2)) i5 z).symm
      have no : ¬ (rowx l v5 0 < rowx l v2 0 ∨ (rowx l v5 0 = rowx l v2 0 ∧ v5 < v2)) → cntI (fun j => rowx l j 0 < rowx l v2 0 ∨ (rowx l j 0 = rowx l v2 0 ∧ j < v2)) v5 = cntI (fun j => rowx l j 0 < rowx l v2 0 ∨ (rowx l j 0 = rowx l v2 0 ∧ j < v2)) (v5 + 1) := fun z => (cntI_f (p := fun j => rowx l j 0 < rowx l v2 0 ∨ (rowx l j 0 = rowx l v2 0 ∧ j < v2)) i5 z).symm
      exact ⟨fun c => ⟨by unfold jR; omega, by unfold jR; omega, ⟨rfl, rfl, i1, i2, rfl, yes (by omega), by omega, by omega, i3, i4⟩, by omega⟩, fun c => ⟨fun d => ⟨by unfold jR; omega, ⟨rfl, rfl, i1, i2, rfl, no (by omega), by omega, by omega, i3, i4⟩, by omega⟩, fun d => ⟨fun e => ⟨by unfold jR; omega, ⟨rfl, rfl, i1, i2, rfl, no (by omega), by omega, by omega, i3, i4⟩, by omega⟩, fun e => ⟨by unfold jR; omega, by unfold jR; omega, ⟨rfl, rfl, i1, i2, rfl, yes (by omega), by omega, by omega, i3, i4⟩, by omega⟩⟩⟩⟩
  · rw [w_sorter_600 W, w_olast_1100 W]
    exact ⟨w_sorter_t W, w_olast_t W, rfl, rfl, by omega, by omega, fun _ _ _ _ => rfl, fun k k0 k1 => by omega⟩
theorem Uof.cb {M M' : JM} {n : Int} {T : ATx} {K : AKp} {P : ATx} {D : ADt} (o : Uof (X + 207) M M') (C : CB X n M T K P D) (A : AI T K P D) : CB X n M' T K P D := C.keep A fun k a j q => o k a j (by unfold fpC fpS fpT fpK fpP fpD at q; omega)
theorem r_newT {Q : Int → JM → Prop} {M : JM} {T : ATx} {K : AKp} {P : ATx} {D : ADt} (R : RI X M T K P D) (A : AI T K P D) (hm : T.1 < 40) (h : ∀ M', FrR X M M' → (∀ a j, X + 225 ≤ a → M' 2 a j = M 2 a j) → RI X M' (aopen T) (kpush K T.1 1 0 (T.2.2 T.1)) P D → AI (aopen T) (kpush K T.1 1 0 (T.2.2 T.1)) P D → Q T.1 M') : Runs G 176 0 0 [(1, X + 218)] M Q := by
  have wt := w_model_t R.1
  have a1 := A.1.1
  refine rn_X12_newText _ M (sg_X12_newText_0 _ M ⟨wt, wt, ?_⟩)
  rw [R.2.1.1]
  refine r_keepA R A a1 hm (Or.inl ⟨rfl, rfl⟩) (fun M1 k1 r1 _ => ?_)
  have W1 := r1.1
  rw [w_model_1301 W1, w_m1301_t W1, w_m1301_n W1, r1.2.1.1, jset_s]
  have fr : ∀ k a j, ¬ (k = 2 ∧ a = X + 219) → ¬ (k = 3200 ∧ a = X + 218) → jset (jset M1 2 (X + 219) T.1 0) 3200 (X + 218) 0 (T.1 + 1) k a j = M1 k a j := fun k a j h1 h2 => by
    rw [show jset (jset M1 2 (X + 219) T.1 0) 3200 (X + 218) 0 (T.1 + 1) k a j = _ from if_neg (by omega)]
    exact if_neg (by omega)
  refine ⟨w_model_t W1, w_model_t W1, ⟨rfl, a1, by omega⟩, w_model_t W1, by unfold jR; omega, w_model_t W1, w_model_t W1, by unfold jR; omega, ?_⟩
  rw [show T.1 + 1 - 1 = T.1 by omega]
  refine h _ (k1.FrR.trans fun k a j q => fr k a j (by omega) (by omega)) (fun a j q => by rw [fr _ _ _ (by omega) (by omega)]; exact k1 _ _ _ (by omega) (by omega)) ⟨W1.keep fun k a j _ _ hk => fr k a j (by omega) (by omega), ⟨jset_s, fun s s0 s1 => ?_⟩, ⟨by rw [fr _ _ _ (by omega) (by omega)]; exact r1.2.2.1.1, fun s s0 s1 => ⟨by rw [fr _ _ _ (by omega) (by omega)]; exact (r1.2.2.1.2 s s0 s1).1, by rw [fr _ _ _ (by omega) (by omega)]; exact (r1.2.2.1.2 s s0 s1).2.1, fun hb => ⟨by rw [fr _ _ _ (by omega) (by omega)]; exact ((r1.2.2.1.2 s s0 s1).2.2 hb).1, fun i i0 i1 => by rw [fr _ _ _ (by omega) (by omega)]; exact ((r1.2.2.1.2 s s0 s1).2.2 hb).2 i i0 i1⟩⟩⟩, ⟨by rw [fr _ _ _ (by omega) (by omega)]; exact r1.2.2.2.1.1, fun s s0 s1 => ⟨by rw [fr _ _ _ (by omega) (by omega)]; exact (r1.2.2.2.1.2 s s0 s1).1, fun i i0 i1 => by rw [fr _ _ _ (by omega) (by omega)]; exact (r1.2.2.2.1.2 s s0 s1).2 i i0 i1⟩⟩, r1.2.2.2.2.keepD fun k a j q => fr k a j (by unfold fpRD at q; omega) (by unfold fpRD at q; omega)⟩ ⟨A.1.opn hm, A.2.1.push ⟨a1, Or.inl ⟨rfl, rfl, rfl⟩⟩, A.2.2⟩
  have s1 : s < T.1 + 1 := s1
  show _ = (if s = T.1 then 0 else T.2.1 s) ∧ ∀ i, 0 ≤ i → i < (if s = T.1 then 0 else T.2.1 s) → _ = T.2.2 s i
  rw [jset_k (by decide)]
  by_cases hs : s = T.1
  · rw [if_pos hs, hs]; exact ⟨jset_s, fun i i0 i1 => by omega⟩
  · rw [if_neg hs, jset_j hs]
    obtain ⟨d1, d2⟩ := r1.2.1.2 s s0 (by omega)
    exact ⟨d1, fun i i0 i1 => by rw [fr _ _ _ (by omega) (by omega)]; exact d2 i i0 i1⟩
set_option maxHeartbeats 1000000 in
theorem st_unsort : JSt (IV X) 3072 G X 162 260 [] := mk_stp fun n M T K P D C H A hX hn0 hn => by
  have a1 := A.1.1
  have a2 := A.1.2.1
  have td := C.2.2.2.2.2.1.2.2.2.2.2.2.1
  by_cases hm : T.1 < 40
  · rcases A.2.2.2.2 with hw | ⟨m, f, AF, bw⟩
    · have z0 : M 3003 (X + 205) 0 = 0 := by rw [td.2.2.1.1, hw]; rfl
      refine mk_no (r := -4) C H A ⟨hn0, hn⟩ (fun Q hQ => ?_) (fun M1 Q R hQ => ?_)
      · have W := C.1
        refine rn_X11_unsort _ M (sg_X11_unsort_0 _ M ?_)
        rw [wa_1206 W, w_sorter_600 W, z0, wa_1200 W]
        exact ⟨wa_t W, w_sorter_t W, w_olast_t W, fun z => absurd rfl z, fun _ => ⟨wa_t W, w_shelf_t W, c_isFull W (fun z => absurd z (by rw [C.2.1.1]; omega)) (fun _ _ => ⟨fun z => absurd rfl z, fun _ => hQ⟩)⟩⟩
      · have W := R.1
        have wt := w_model_t W
        have r0 : M1 3249 (X + 218) 0 = 0 := by rw [R.2.2.2.2.2.2.2.2.2.2.1.1, hw]; rfl
        refine lp_X12_unsort (fun _ _ _ => False) (fun _ _ => 0) (fun _ _ _ _ _ => False) (fun _ _ _ _ => 0) (fun _ _ _ _ _ => False) (fun _ _ _ _ => 0) (fun _ _ _ g => g.elim) (fun _ _ _ _ _ g => g.elim) (fun _ _ _ _ _ g => g.elim) _ M1 ?_
        rw [R.2.1.1, r0]
        exact ⟨wt, fun _ => ⟨wt, fun z => absurd rfl z, fun _ => hQ⟩, fun z => absurd (by omega) z⟩
    · obtain ⟨m0, m1, mf⟩ := id AF
      have hf0 : ∀ k, 0 ≤ k → k < m → 0 ≤ f k := fun k k0 k1 => (mf k k0 k1).1
      have len : ((D.1 6).length : Int) = m + 1 := bw.1
      have sm : Same (aopen T) (atx (aopen T) T.1 0 f) := same_atx (by show (0 : Int) = if T.1 = T.1 then 0 else _; rw [if_pos rfl]) (fun i i0 i1 => by omega)
      have ht : 0 ≤ T.1 ∧ T.1 < (aopen T).1 := ⟨a1, by show T.1 < T.1 + 1; omega⟩
      have last : ∀ i, 0 ≤ i → i < m → rowx (D.1 6) (rho m f (i + 1)) 0 = f i := fun i i0 i1 => by
        rw [bw_last bw (by omega) (by omega), if_neg (by omega), show i + 1 - 1 = i by omega]
      refine mk_yes (r := T.1) (T' := atx (aopen T) T.1 m f) (K' := kpush K T.1 1 0 (T.2.2 T.1)) ⟨hn0, hn⟩ (fun Q hQ => ?_) (fun M1 Q R hQ => ?_)
      · have W := C.1
        refine rn_X11_unsort _ M (sg_X11_unsort_0 _ M ?_)
        rw [wa_1206 W, w_sorter_600 W, td.2.2.1.1, len, wa_1200 W]
        refine ⟨wa_t W, w_sorter_t W, w_olast_t W, fun _ => ⟨wa_t W, w_shelf_t W, c_openA C H A hX (by omega) hm (fun M2 _ f2 c2 A2 s2 q1 q2 _ => ⟨fun z => absurd z (by omega), fun _ => ?_⟩)⟩, fun z => absurd (by omega) z⟩
        have W2 := c2.1
        have c2' := sm.CB c2
        have A2' := sm.AI A2
        rw [wa_1206 W2]
        refine ⟨wa_t W2, w_sorter_t W2, ?_⟩
        refine lp_X5_restore (fun v0 v1 v2 v3 N => X + 204 = v0 ∧ X + (4 + 2 * T.1) = v1 ∧ 1 ≤ v3 ∧ v3 ≤ m + 1 ∧ v2 = rho m f (v3 - 1) ∧ ∃ N1, Uof (X + 207) M2 N1 ∧ (∀ k, 0 ≤ k → k ≤ m → N1 2 (X + 207) (plc (D.1 6) k) = k) ∧ Cof X T.1 N1 N ∧ CB X (n + 1) N (atx (aopen T) T.1 (v3 - 1) f) (kpush K T.1 1 0 (T.2.2 T.1)) P D ∧ AI (atx (aopen T) T.1 (v3 - 1) f) (kpush K T.1 1 0 (T.2.2 T.1)) P D) (fun _ _ _ v3 => (1000 - v3).toNat) ?_ _ _ M2 ?_
        · rintro v0 v1 v2 v3 N ⟨rfl, rfl, i1, i2, rfl, N1, o1, pl, co, cN, aN⟩
          have WN := cN.1
          have tdN := cN.2.2.2.2.2.1.2.2.2.2.2.2.1
          rw [w_sorter_600 WN, tdN.2.2.1.1, len, w_sorter_601 WN, w_oturned_t WN, w_oturned_n WN]
          refine ⟨w_sorter_t WN, w_olast_t WN, fun q _ => ?_, fun q => ?_⟩
          · have e : v3 = m + 1 := by omega
            subst e
            rw [show m + 1 - 1 = m by omega] at cN aN
            have e := cN.2.1.1
            rw [wa_1200 WN]
            refine ⟨wa_t WN, w_shelf_t WN, c_newest WN (by rw [e]; exact ⟨by show 0 ≤ T.1 + 1; omega, by show T.1 + 1 ≤ 40; omega⟩) (fun _ => ?_)⟩
            rw [e, show (atx (aopen T) T.1 m f).1 - 1 = T.1 by show T.1 + 1 - 1 = T.1; omega]
            exact hQ N aN (f2.trans (FrC.trans (M' := N1) (fun k a j h1 h2 => o1 k a j (by omega)) (co.FrC a1 hm))) cN (co.stale (o1.cb c2 A2).2.2.2.2.2.2 a1 hm (s2.keep c2.2.2.2.2.2.2 fun k a j q => o1 k a j (by unfold fpH at q; omega))) (by rw [co _ _ _ (by omega) (by omega), o1 _ _ _ (by omega)]; exact q1) (by rw [co _ _ _ (by omega) (by omega), o1 _ _ _ (by omega)]; exact q2)
          · have wk := bw_walk (u := N1 2 (X + 207)) bw m0 hf0 pl
            have rr := rho_r (n := m) (f := f) (show 0 ≤ v3 - 1 by omega) (show v3 - 1 ≤ m by omega)
            have rr2 := rho_r (n := m) (f := f) (show 0 ≤ v3 - 1 + 1 by omega) (show v3 - 1 + 1 ≤ m by omega)
            have wv : N 2 (X + 207) (rho m f (v3 - 1)) = rho m f (v3 - 1 + 1) := by
              rw [co _ _ _ (by omega) (by omega)]; exact wk.2 (v3 - 1) (by omega) (by omega)
            rw [wv]
            refine ⟨w_sorter_t WN, ⟨rfl, rr.1, by omega⟩, w_sorter_t WN, w_olast_t WN, c_answer tdN (fun _ => ⟨(c_txa cN aN ht).2.2.2.2.1, ?_⟩)⟩
            have ta : tans 1 (D.1 6) (rho m f (v3 - 1 + 1)) 0 = f (v3 - 1) := by
              unfold tans
              rw [if_pos (by omega), if_pos (by omega)]
              exact last (v3 - 1) (by omega) (by omega)
            rw [ta]
            refine c_putF cN aN ht ⟨by omega, by omega⟩ rfl (mf _ (by omega) (by omega)) (fun N3 co3 c3 a3 _ => ⟨by unfold jR; omega, ⟨rfl, rfl, by omega, by omega, by rw [show v3 + 1 - 1 = v3 - 1 + 1 by omega], N1, o1, pl, co.trans co3, ?_, ?_⟩, by omega⟩)
            · rw [show v3 + 1 - 1 = v3 - 1 + 1 by omega]; exact c3
            · rw [show v3 + 1 - 1 = v3 - 1 + 1 by omega]; exact a3
        · refine ⟨w_sorter_t W2, c_turned W2 c2.2.2.2.2.2.1.2.2.2.2.2.2.1 bw ⟨m0, m1⟩ hf0 (fun N1 o1 pl _ => ?_)⟩
          have cN := o1.cb c2' A2'
          have WN := cN.1
          rw [w_sorter_601 WN, w_oturned_t WN, w_oturned_n WN]
          have wk := bw_walk (u := N1 2 (X + 207)) bw m0 hf0 pl
          refine ⟨w_sorter_t WN, ⟨rfl, by omega, by omega⟩, rfl, rfl, by omega, by omega, wk.1, N1, o1, pl, Cof.refl X T.1 N1, cN, A2'⟩
      · have W := R.1
        have wt := w_model_t W
        have rdf : ∀ N T' K', RI X N T' K' P D → RD1 X N 3249 256 (D.1 6) := fun N T' K' r => r.2.2.2.2.2.2.2.2.2.2.1
        have ub : ∀ N, Uof (X + 257) M1 N → RI X N T K P D := fun N o => R.keep (R.1.keep fun k a j _ _ hk => o k a j (by omega)) fun k a j q => o k a j (by unfold fpR at q; omega)
        refine lp_X12_unsort (fun v0 v1 N => X + 218 = v0 ∧ 0 ≤ v1 ∧ v1 ≤ m + 1 ∧ Uof (X + 257) M1 N ∧ ∀ k, 0 ≤ k → k < v1 → N 2 (X + 257) (plc (D.1 6) k) = k) (fun _ v1 => (10000 + (1000 - v1) * 1000).toNat) (fun v0 v1 v2 v3 N => X + 218 = v0 ∧ 0 ≤ v1 ∧ v1 ≤ m ∧ v2 = cntI (fun j => rowx (D.1 6) j 0 < rowx (D.1 6) v1 0 ∨ (rowx (D.1 6) j 0 = rowx (D.1 6) v1 0 ∧ j < v1)) v3 ∧ 0 ≤ v3 ∧ v3 ≤ m + 1 ∧ Uof (X + 257) M1 N ∧ ∀ k, 0 ≤ k → k < v1 → N 2 (X + 257) (plc (D.1 6) k) = k) (fun _ v1 _ v3 => (10000 + (1000 - v1) * 1000 - 1 - v3).toNat) (fun v0 v1 v2 v3 N => X + 218 = v0 ∧ T.1 = v1 ∧ 0 ≤ v3 ∧ v3 ≤ m ∧ v2 = rho m f v3 ∧ (∀ k, 0 ≤ k → k ≤ m → N 2 (X + 257) (plc (D.1 6) k) = k) ∧ FrR X M1 N ∧ RI X N (atx (aopen T) T.1 v3 f) (kpush K T.1 1 0 (T.2.2 T.1)) P D ∧ AI (atx (aopen T) T.1 v3 f) (kpush K T.1 1 0 (T.2.2 T.1)) P D) (fun _ _ _ v3 => (1000 - v3).toNat) ?_ ?_ ?_ _ M1 ?_
        · rintro v0 v1 N ⟨rfl, i1, i2, i3, i4⟩
          have RN := ub N i3
          have WN := RN.1
          have wn := w_model_t WN
          rw [(rdf N _ _ RN).1, len]
          refine ⟨wn, fun q => ⟨wn, r_newT RN A hm (fun M2 f2 k2 r2 a2' _ => ?_)⟩, fun q => ⟨⟨rfl, i1, by omega, by rw [cntI_z (by omega)], by omega, by omega, i3, i4⟩, by omega⟩⟩
          have W2 := r2.1
          rw [w_model_1351 W2, w_m1351_t W2, w_m1351_n W2]
          have pl : ∀ k, 0 ≤ k → k ≤ m → M2 2 (X + 257) (plc (D.1 6) k) = k := fun k k0 k1 => by rw [k2 _ _ (by omega)]; exact i4 k k0 (by omega)
          have wk := bw_walk (u := M2 2 (X + 257)) bw m0 hf0 pl
          exact ⟨w_model_t W2, ⟨rfl, by omega, by omega⟩, ⟨rfl, rfl, by omega, m0, wk.1, pl, FrR.trans (M' := N) (fun k a j q => i3 k a j (by omega)) f2, sm.RI r2, sm.AI a2'⟩, by omega⟩
        · rintro v0 v1 v2 v3 N ⟨rfl, i1, i2, rfl, i5, i6, i3, i4⟩
          have RN := ub N i3
          have WN := RN.1
          have wn := w_model_t WN
          have rd := rdf N _ _ RN
          have cr := @cntI_r (fun j => rowx (D.1 6) j 0 < rowx (D.1 6) v1 0 ∨ (rowx (D.1 6) j 0 = rowx (D.1 6) v1 0 ∧ j < v1)) v3 i5
          rw [rd.1, len, w_model_1351 WN, w_m1351_t WN, w_m1351_n WN, w_model_1350 WN, w_m1350_t WN, w_m1350_n WN]
          refine ⟨wn, fun q => ?_, fun q => ⟨wn, ⟨rfl, i5, by omega⟩, wn, ⟨rfl, i1, by omega⟩, ?_⟩⟩
          · have e : v3 = (D.1 6).length := by omega
            have pe : cntI (fun j => rowx (D.1 6) j 0 < rowx (D.1 6) v1 0 ∨ (rowx (D.1 6) j 0 = rowx (D.1 6) v1 0 ∧ j < v1)) v3 = plc (D.1 6) v1 := by rw [e]; rfl
            have pr := plc_r bw m0 hf0 i1 i2
            rw [pe]
            refine ⟨wn, ⟨rfl, pr.1, by omega⟩, by unfold jR; omega, ⟨rfl, by omega, by omega, fun k a j q => ?_, fun k k0 k1 => ?_⟩, by omega⟩
            · rw [show jset N 2 (X + 257) (plc (D.1 6) v1) v1 k a j = N k a j from if_neg (fun z => q ⟨z.1, z.2.1⟩)]; exact i3 k a j q
            · by_cases c : k = v1
              · rw [c, jset_s]
              · rw [jset_j (fun z => c (plc_inj bw m0 hf0 k0 (by omega) i1 i2 z))]; exact i4 k k0 (by omega)
          · rw [rd.2 v3 i5 (by omega), rd.2 v1 i1 (by omega)]
            have yes : (rowx (D.1 6) v3 0 < rowx (D.1 6) v1 0 ∨ (rowx (D.1 6) v3 0 = rowx (D.1 6) v1 0 ∧ v3 < v1)) → cntI (fun j => rowx (D.1 6) j 0 < rowx (D.1 6) v1 0 ∨ (rowx (D.1 6) j 0 = rowx (D.1 6) v1 0 ∧ j < v1)) v3 + 1 = cntI (fun j => rowx (D.1 6) j 0 < rowx (D.1 6) v1 0 ∨ (rowx (D.1 6) j 0 = rowx (D.1 6) v1 0 ∧ j < v1)) (v3 + 1) := fun z => (cntI_t (p := fun j => rowx (D.1 6) j 0 < rowx (D.1 6) v1 0 ∨ (rowx (D.1 6) j 0 = rowx (D.1 6) v1 0 ∧ j < v1)) i5 z).symm
            have no : ¬ (rowx (D.1 6) v3 0 < rowx (D.1 6) v1 0 ∨ (rowx (D.1 6) v3 0 = rowx (D.1 6) v1 0 ∧ v3 < v1)) → cntI (fun j => rowx (D.1 6) j 0 < rowx (D.1 6) v1 0 ∨ (rowx (D.1 6) j 0 = rowx (D.1 6) v1 0 ∧ j < v1)) v3 + 0 = cntI (fun j => rowx (D.1 6) j 0 < rowx (D.1 6) v1 0 ∨ (rowx (D.1 6) j 0 = rowx (D.1 6) v1 0 ∧ j < v1)) (v3 + 1) := fun z => by rw [Int.add_zero]; exact (cntI_f (p := fun j => rowx (D.1 6) j 0 < rowx (D.1 6) v1 0 ∨ (rowx (D.1 6) j 0 = rowx (D.1 6) v1 0 ∧ j < v1)) i5 z).symm
            exact ⟨fun c => ⟨by unfold jR; omega, by unfold jR; omega, ⟨rfl, i1, i2, yes (by omega), by omega, by omega, i3, i4⟩, by omega⟩, fun c => ⟨wn, ⟨rfl, i5, by omega⟩, wn, ⟨rfl, i1, by omega⟩, fun d => ⟨by unfold jR; omega, by unfold jR; omega, ⟨rfl, i1, i2, no (by omega), by omega, by omega, i3, i4⟩, by omega⟩, fun d => ⟨fun e => ⟨by unfold jR; omega, by unfold jR; omega, ⟨rfl, i1, i2, no (by omega), by omega, by omega, i3, i4⟩, by omega⟩, fun e => ⟨by unfold jR; omega, by unfold jR; omega, ⟨rfl, i1, i2, yes (by omega), by omega, by omega, i3, i4⟩, by omega⟩⟩⟩⟩
        · rintro v0 v1 v2 v3 N ⟨rfl, rfl, i1, i2, rfl, pl, i3, RN, aN⟩
          have WN := RN.1
          have wn := w_model_t WN
          have rd := rdf N _ _ RN
          rw [rd.1, len, w_model_1351 WN, w_m1351_t WN, w_m1351_n WN, w_model_1350 WN, w_m1350_t WN, w_m1350_n WN]
          refine ⟨wn, by unfold jR; omega, fun q => ?_, fun q => ?_⟩
          · have e : v3 = m := by omega
            subst e
            exact hQ N i3 RN
          · have wk := bw_walk (u := N 2 (X + 257)) bw m0 hf0 pl
            have rr := rho_r (n := m) (f := f) i1 i2
            have rr2 := rho_r (n := m) (f := f) (show 0 ≤ v3 + 1 by omega) (show v3 + 1 ≤ m by omega)
            rw [wk.2 v3 i1 (by omega), rd.2 _ rr2.1 (by omega), last v3 i1 (by omega)]
            refine ⟨wn, ⟨rfl, rr.1, by omega⟩, wn, ⟨rfl, rr2.1, by omega⟩, wn, r_putF RN aN ht ⟨i1, by omega⟩ rfl (mf _ i1 (by omega)) (fun N3 o3 r3 a3 _ => ⟨by unfold jR; omega, ⟨rfl, rfl, by omega, by omega, rfl, fun k k0 k1 => ?_, i3.trans o3.FrR, r3, a3⟩, by omega⟩)⟩
            rw [o3 _ _ _ (by omega)]; exact pl k k0 k1
        · rw [R.2.1.1, (rdf M1 _ _ R).1, len]
          exact ⟨wt, fun _ => ⟨wt, fun _ => ⟨rfl, by omega, by omega, fun _ _ _ _ => rfl, fun k k0 k1 => by omega⟩, fun z => absurd (by omega) z⟩, fun z => absurd (by omega) z⟩
  · refine mk_no (r := -3) C H A ⟨hn0, hn⟩ (fun Q hQ => ?_) (fun M1 Q R hQ => ?_)
    · have W := C.1
      refine rn_X11_unsort _ M (sg_X11_unsort_0 _ M ?_)
      rw [wa_1206 W, w_sorter_600 W, wa_1200 W]
      exact ⟨wa_t W, w_sorter_t W, w_olast_t W, fun _ => ⟨wa_t W, w_shelf_t W, c_open W (C.sh A) (fun g => absurd g (by rw [C.2.1.1]; omega)) (fun _ _ => ⟨fun _ => hQ, fun g => absurd rfl g⟩)⟩, fun _ => ⟨wa_t W, w_shelf_t W, c_isFull W (fun _ _ => ⟨fun _ => by rw [wa_1200 W]; exact ⟨wa_t W, w_shelf_t W, c_open W (C.sh A) (fun g => absurd g (by rw [C.2.1.1]; omega)) (fun _ _ => ⟨fun _ => hQ, fun g => absurd rfl g⟩)⟩, fun z => absurd (by decide) z⟩) (fun z => absurd z (by rw [C.2.1.1]; omega))⟩⟩
    · have W := R.1
      have wt := w_model_t W
      refine lp_X12_unsort (fun _ _ _ => False) (fun _ _ => 0) (fun _ _ _ _ _ => False) (fun _ _ _ _ => 0) (fun _ _ _ _ _ => False) (fun _ _ _ _ => 0) (fun _ _ _ g => g.elim) (fun _ _ _ _ _ g => g.elim) (fun _ _ _ _ _ g => g.elim) _ M1 ?_
      rw [R.2.1.1]
      exact ⟨wt, fun z => absurd (by omega) z, fun _ => hQ⟩
end UNSORT
