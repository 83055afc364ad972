/-! step: sort -/
theorem RT.kp {X : Int} {M M' : JM} {T : ATx} (R : RT X M T) (g : ∀ (k : Nat) (a j : Int), (k = 3200 ∧ a = X + 218) ∨ (k = 2 ∧ (a = X + 219 ∨ a = X + 220)) → M' k a j = M k a j) : RT X M' T := ⟨by rw [g _ _ _ (by omega)]; exact R.1, fun x x0 x1 => ⟨by rw [g _ _ _ (by omega)]; exact (R.2 x x0 x1).1, fun i i0 i1 => by rw [g _ _ _ (by omega)]; exact (R.2 x x0 x1).2 i i0 i1⟩⟩
section SORT
variable {G : JG} {X : Int}
theorem c_addL {Q : Int → JM → Prop} {M : JM} {t n p : Int} {f : Int → Int} {l : List TR} (W : WSt X M) (TT : Tx M t 240) (A : Txf M t n f) (td : TdL M (X + 205) (X + 206) 1 241 l) (hl : (l.length : Int) < 241) (p0 : 0 ≤ p) (p1 : p ≤ n) (h : ∀ M', Tof (X + 205) (X + 206) M M' → TdL M' (X + 205) (X + 206) 1 241 (l ++ [(if p = 0 then -1 else f (p - 1), 0, 0)]) → Q 0 M') : Runs G 37 0 0 [(1, X + 204), (1, t), (0, p)] M Q := by
  obtain ⟨a1, a2, a3, a4, a5, a6⟩ := A
  refine rn_X5_addLast _ _ _ M (sg_X5_addLast_0 _ _ _ M ?_)
  rw [w_sorter_600 W]
  refine ⟨w_sorter_t W, by unfold jR; omega, a1, c_hasPlace TT (fun q1 q2 _ => ⟨fun q => absurd q (by decide), fun _ => ⟨a1, by unfold jR; omega, ⟨a4, q1, by omega⟩, w_olast_t W, ?_⟩⟩) (fun q _ => ⟨fun _ => ⟨w_olast_t W, ?_⟩, fun q => absurd rfl q⟩)⟩
  · rw [a6 (p - 1) q1 (by omega)]
    refine c_add td hl (fun M' o t' _ => h M' o ?_)
    rw [if_neg (by omega)]; exact t'
  · refine c_add td hl (fun M' o t' _ => h M' o ?_)
    rw [if_pos (by omega)]; exact t'
set_option maxHeartbeats 1000000 in
theorem st_sort (t : Int) : JSt (IV X) 3072 G X 160 258 [(0, t)] := mk_stp fun n M T K P D C H A hX hn0 hn => by
  by_cases ht : 0 ≤ t ∧ t < T.1
  · have At := A.1.2.2 t ht.1 ht.2
    obtain ⟨L, hL⟩ : ∃ L, L = T.2.1 t := ⟨_, rfl⟩
    obtain ⟨f, hf⟩ : ∃ f, f = T.2.2 t := ⟨_, rfl⟩
    rw [← hL, ← hf] at At
    obtain ⟨u1, u2, u3⟩ := id At
    have hf0 : ∀ k, 0 ≤ k → k < L → 0 ≤ f k := fun k k0 k1 => (u3 k k0 k1).1
    obtain ⟨l, hl⟩ : ∃ l, l = bwl L f L.toNat := ⟨_, rfl⟩
    have bw := bwl_ok u1 hf0
    rw [← hl] at bw
    have A' : AI T K P (dset D 6 l) := ⟨A.1, A.2.1, A.2.2.1, A.2.2.2.put6 ⟨L, f, At, bw⟩⟩
    refine mk_gen (r := if L = 0 then 0 else rk L f 0 + 1) (T' := T) (K' := K) (P' := P) (D' := dset D 6 l) (fun Q hQ => ?_) (fun M1 Q R hQ => ?_)
    · have W := C.1
      refine rn_X11_sort _ _ M (sg_X11_sort_0 _ _ M ?_)
      rw [wa_1200 W]
      refine ⟨wa_t W, w_shelf_t W, c_lkT C A hX ht (fun _ => ⟨fun q => absurd q (by omega), fun _ => ?_⟩)⟩
      rw [wa_1206 W]
      refine ⟨wa_t W, wa_t W, c_sufOf C H A hX ht (fun N fr c h' e1 e2 _ s so _ => ?_)⟩
      rw [← hL] at s
      rw [← hL, ← hf] at so
      have Wn := c.1
      -- what holds while rows are added
      have base : ∀ N2, Tof (X + 205) (X + 206) N N2 → WSt X N2 ∧ Sx N2 (X + 144) 240 ∧ N2 2810 (X + 144) 0 = L ∧ SOk N2 (X + 150) (X + 151) (X + 154) L f ∧ Tx N2 (X + (4 + 2 * t)) 240 ∧ Txf N2 (X + (4 + 2 * t)) L f := fun N2 o => by
        have a2 := A.1.2.1
        have W2 : WSt X N2 := Wn.keep fun k a j _ _ hk => o k a j (by omega) (by omega)
        obtain ⟨t1, t2, t3, t4, t5, t6⟩ := (c_txt c A ht).1
        have tf := c_tf c A ht
        rw [← hL, ← hf] at tf
        have ee : N2 1000 (X + (4 + 2 * t)) 0 = N 1000 (X + (4 + 2 * t)) 0 := o _ _ _ (by omega) (by omega)
        have ea := (c_txt c A ht).2.2.1
        refine ⟨W2, sx_one W2, by rw [o _ _ _ (by omega) (by omega)]; exact s, so.keep fun a j ha => o _ _ _ (by omega) (by omega), ⟨by rw [o _ _ _ (by omega) (by omega)]; exact t1, by rw [ee, o _ _ _ (by omega) (by omega)]; exact t2, by rw [ee, o _ _ _ (by omega) (by omega)]; exact t3, by rw [o _ _ _ (by omega) (by omega)]; exact t4, by rw [o _ _ _ (by omega) (by omega)]; exact t5, t6⟩, ⟨by rw [o _ _ _ (by omega) (by omega)]; exact tf.1, by rw [o _ _ _ (by omega) (by omega)]; exact tf.2.1, tf.2.2.1, by rw [ee, o _ _ _ (by omega) (by omega)]; exact tf.2.2.2.1, by rw [ee, o _ _ _ (by omega) (by omega)]; exact tf.2.2.2.2.1, fun i i0 i1 => by rw [ee, o _ _ _ (by omega) (by omega)]; exact tf.2.2.2.2.2 i i0 i1⟩⟩
      refine ⟨w_sorter_t Wn, lp_X5_arrange (fun v0 v1 v2 v3 N2 => X + 204 = v0 ∧ X + (4 + 2 * t) = v1 ∧ X + 144 = v2 ∧ 0 ≤ v3 ∧ v3 ≤ L ∧ Tof (X + 205) (X + 206) N N2 ∧ TdL N2 (X + 205) (X + 206) 1 241 (bwl L f v3.toNat)) (fun _ _ _ v3 => (1000 - v3).toNat) ?_ _ _ _ N ?_⟩
      · rintro v0 v1 v2 v3 N2 ⟨rfl, rfl, rfl, i1, i2, i3, i4⟩
        obtain ⟨W2, S2, s2, so2, TT2, A2⟩ := base N2 i3
        rw [A2.2.1]
        refine ⟨A2.1, fun q => ?_, fun q => ⟨S2.tt, rn_X8_placeOf _ _ N2 (sg_X8_placeOf_0 _ _ N2 ?_)⟩⟩
        · have e : v3 = L := by omega
          subst e
          rw [← hl] at i4
          have fin : ∀ r, r = (if v3 = 0 then 0 else rk v3 f 0 + 1) → Q r N2 := fun r e => by
            rw [e]
            exact hQ N2 A' (fr.trans (FrC.tl (i3.tl (by omega) (by omega)))) ((c.tl A (i3.tl (by omega) (by omega)) (c.2.2.2.2.2.1.put6 i3 i4)).mono (by omega) (by omega)) (h'.tl c.2.2.2.2.2.2 (i3.tl (by omega) (by omega))) (by rw [i3 _ _ _ (by omega) (by omega)]; exact e1) (by rw [i3 _ _ _ (by omega) (by omega)]; exact e2)
          refine ⟨A2.1, fun z => ⟨S2.tt, c_rkOf S2 s2 (by omega) (Int.le_refl 0) (fun _ => ?_)⟩, fun z _ => fin _ (by rw [if_pos (Classical.not_not.mp z)])⟩
          have kr := rk_r (f := f) (Int.le_refl 0) (show 0 < v3 by omega)
          rw [if_pos (by omega), show X + 144 + 7 = X + 151 by omega, so2.1 0 (by omega) (by omega)]
          exact ⟨by unfold jR; omega, fun _ => fin _ (by rw [if_neg z])⟩
        · rw [s2, S2.f5, S2.t6, S2.n6, show X + 144 + 6 = X + 150 by omega]
          have oe := od_eq (od := N2 2 (X + 150)) hf0 so2.2.1 i1 (show v3 < L by omega)
          have ok := odr_ok hf0 i1 (show v3 < L by omega)
          refine ⟨fun z => absurd z (by omega), fun _ => ⟨S2.tt, fun z => absurd z (by omega), fun _ => ⟨S2.tt, ⟨rfl, i1, by omega⟩, fun _ => ?_⟩⟩⟩
          rw [oe]
          refine ⟨w_sorter_t W2, c_addL W2 TT2 A2 i4 (by rw [bwl_len]; omega) ok.1 (by omega) (fun N3 o3 t3 _ => ⟨by unfold jR; omega, ⟨rfl, rfl, rfl, by omega, by omega, i3.trans o3, ?_⟩, by omega⟩)⟩
          rw [bwl_s i1]; exact t3
      · rw [w_sorter_600 Wn]
        refine ⟨w_sorter_t Wn, w_olast_t Wn, c_clear c.2.2.2.2.2.1.2.2.2.2.2.2.1 (fun N1 o1 t1 _ => ?_)⟩
        obtain ⟨W1, S1, s1, so1, TT1, A1⟩ := base N1 o1
        rw [A1.2.1]
        refine ⟨A1.1, w_sorter_t W1, c_addL W1 TT1 A1 t1 (by show ((0 : Nat) : Int) < 241; omega) u1 (by omega) (fun N2 o2 t2 _ => ⟨rfl, rfl, rfl, by omega, by omega, o1.trans o2, ?_⟩)⟩
        exact t2
    · have W := R.1
      have wt := w_model_t W
      obtain ⟨z1, -, z3, -, -⟩ := r_txt R A ht
      rw [← hL] at z1
      have len : (l.length : Int) = L + 1 := bw.1
      refine lp_X12_sort (fun v0 v1 v2 v3 v4 N => X + 218 = v0 ∧ t = v1 ∧ L = v2 ∧ 0 ≤ v4 ∧ v4 ≤ L ∧ v3 = (if 0 < L ∧ rk L f 0 < v4 then rk L f 0 + 1 else 0) ∧ ∃ N1, Ox X M1 N1 ∧ (∀ i, 0 ≤ i → i < L → N1 2 (X + 226) (rk L f i) = i) ∧ Rof6 X N1 N ∧ N 3249 (X + 218) 0 = L + 1 ∧ ∀ k, 0 ≤ k → k ≤ v4 → N 2 (X + 256) k = rowx l k 0) (fun _ _ _ _ v4 => (1000 - v4).toNat) ?_ _ _ M1 ?_
      · rintro v0 v1 v2 v3 v4 N ⟨rfl, rfl, rfl, i1, i2, rfl, N1, i3, i4, i5, i6, i7⟩
        have R1 := i3.RI R
        have WN : WSt X N := R1.1.keep fun k a j _ _ hk => i5 k a j (by omega) (by omega)
        have wn := w_model_t WN
        have RTn : RT X N T := R1.2.1.kp fun k a j q => i5 k a j (by omega) (by omega)
        rw [w_model_1309 WN, w_m1309_t WN, w_m1309_n WN, w_model_1350 WN, w_m1350_t WN, w_m1350_n WN]
        refine ⟨fun q => ?_, fun q => ?_⟩
        · have e : v4 = L := by omega
          subst e
          have rr : (if 0 < v4 ∧ rk v4 f 0 < v4 then rk v4 f 0 + 1 else 0) = (if v4 = 0 then 0 else rk v4 f 0 + 1) := by
            by_cases c : v4 = 0
            · rw [if_pos c, if_neg (by omega)]
            · have := rk_r (f := f) (Int.le_refl 0) (show 0 < v4 by omega)
              rw [if_neg c, if_pos (by omega)]
          rw [rr]
          have rd : RD1 X N 3249 256 l := ⟨by rw [i6, len], fun k k0 k1 => i7 k k0 (by omega)⟩
          exact hQ N (i3.FrR.trans (FrR.tl i5.tl)) (R1.tl i5.tl (R1.2.2.2.2.put6 i5 rd))
        · have oe : N 2 (X + 226) v4 = odr L f v4 := by
            rw [i5 _ _ _ (by omega) (by omega)]
            exact od_eq (od := N1 2 (X + 226)) hf0 i4 i1 (by omega)
          have ok := odr_ok hf0 i1 (show v4 < L by omega)
          have rx : rowx l (v4 + 1) 0 = if odr L f v4 = 0 then -1 else f (odr L f v4 - 1) := by
            rw [hl]; exact bwl_row _ _ i1 (by omega)
          -- is it the text's own row
          have own1 : odr L f v4 = 0 → (if 0 < L ∧ rk L f 0 < v4 + 1 then rk L f 0 + 1 else 0) = v4 + 1 := fun z => by
            have := ok.2.2
            rw [z] at this
            rw [if_pos (by omega), this]
          have own0 : ¬ odr L f v4 = 0 → (if 0 < L ∧ rk L f 0 < v4 + 1 then rk L f 0 + 1 else 0) = (if 0 < L ∧ rk L f 0 < v4 then rk L f 0 + 1 else 0) := fun z => by
            have ne : rk L f 0 ≠ v4 := fun y => z (rk_inj hf0 ok.1 ok.2.1 (Int.le_refl 0) (by omega) (by rw [ok.2.2, y]))
            by_cases c : rk L f 0 < v4
            · rw [if_pos (by omega), if_pos (by omega)]
            · rw [if_neg (by omega), if_neg (by omega)]
          have nxt : ∀ v, v = rowx l (v4 + 1) 0 → Rof6 X N1 (jset N 2 (X + 256) (v4 + 1) v) ∧ jset N 2 (X + 256) (v4 + 1) v 3249 (X + 218) 0 = L + 1 ∧ ∀ k, 0 ≤ k → k ≤ v4 + 1 → jset N 2 (X + 256) (v4 + 1) v 2 (X + 256) k = rowx l k 0 := fun v hv => by
            refine ⟨i5.trans fun k a j q1 q2 => if_neg (by omega), by rw [jset_k (by decide)]; exact i6, fun k k0 k1 => ?_⟩
            by_cases c : k = v4 + 1
            · rw [c, jset_s]; exact hv
            · rw [jset_j c]; exact i7 k k0 (by omega)
          rw [oe]
          refine ⟨wn, ⟨rfl, i1, by omega⟩, wn, by unfold jR; omega, fun z => ⟨by unfold jR; omega, wn, r_unit WN RTn A.1 ht.1 ht.2 (by omega) (by omega) (fun _ => ?_)⟩, fun z => ?_⟩
          · rw [w_m1350_t WN, w_m1350_n WN, ← hf]
            obtain ⟨n1, n2, n3⟩ := nxt (f (odr L f v4 - 1)) (by rw [rx, if_neg z])
            exact ⟨⟨rfl, by omega, by omega⟩, fun _ => ⟨by unfold jR; omega, ⟨rfl, rfl, rfl, by omega, by omega, (own0 z).symm, N1, i3, i4, n1, n2, n3⟩, by omega⟩, fun y => absurd z y⟩
          · have z' := Classical.not_not.mp z
            obtain ⟨n1, n2, n3⟩ := nxt (-1) (by rw [rx, if_pos z'])
            exact ⟨⟨rfl, by omega, by omega⟩, fun y => absurd z' y, fun _ => ⟨by unfold jR; omega, by unfold jR; omega, ⟨rfl, rfl, rfl, by omega, by omega, (own1 z').symm, N1, i3, i4, n1, n2, n3⟩, by omega⟩⟩
      · refine ⟨wt, r_isT R A ht (fun _ => ⟨fun _ => ⟨wt, r_orders R A ht hL hf (fun N o RN tb od _ => ?_)⟩, fun z => absurd (by decide) z⟩)⟩
        have WN := RN.1
        have wn := w_model_t WN
        obtain ⟨y1, -, -, -, -⟩ := r_txt RN A ht
        rw [← hL] at y1
        rw [w_model_1301 WN, w_m1301_t WN, w_m1301_n WN, y1, w_model_1350 WN, w_m1350_t WN, w_m1350_n WN]
        have b0 : rowx l 0 0 = if L = 0 then -1 else f (L - 1) := bw.2.1
        have nxt : ∀ v, v = rowx l 0 0 → Rof6 X N (jset (jset N 3249 (X + 218) 0 (L + 1)) 2 (X + 256) 0 v) ∧ jset (jset N 3249 (X + 218) 0 (L + 1)) 2 (X + 256) 0 v 3249 (X + 218) 0 = L + 1 ∧ ∀ k, 0 ≤ k → k ≤ 0 → jset (jset N 3249 (X + 218) 0 (L + 1)) 2 (X + 256) 0 v 2 (X + 256) k = rowx l k 0 := fun v hv => by
          refine ⟨fun k a j q1 q2 => ?_, by rw [jset_k (by decide), jset_s], fun k k0 k1 => ?_⟩
          · rw [show jset (jset N 3249 (X + 218) 0 (L + 1)) 2 (X + 256) 0 v k a j = jset N 3249 (X + 218) 0 (L + 1) k a j from if_neg (by omega)]
            exact if_neg (by omega)
          · have : k = 0 := by omega
            rw [this, jset_s]; exact hv
        refine ⟨wn, ⟨rfl, ht.1, z3⟩, by unfold jR; omega, wn, wn, fun z => ⟨by unfold jR; omega, wn, ?_⟩, fun z => ?_⟩
        · have o9 : ∀ (k : Nat) (a j : Int), ¬ (k = 3249 ∧ a = X + 218) → jset N 3249 (X + 218) 0 (L + 1) k a j = N k a j := fun k a j q => if_neg (by omega)
          have W9 : WSt X (jset N 3249 (X + 218) 0 (L + 1)) := WN.keep fun k a j _ _ hk => o9 k a j (by omega)
          refine r_unit W9 (RN.2.1.kp fun k a j q => o9 k a j (by omega)) A.1 ht.1 ht.2 (by omega) (by omega) (fun _ => ?_)
          rw [w_m1350_t W9, w_m1350_n W9, ← hf]
          obtain ⟨n1, n2, n3⟩ := nxt (f (L - 1)) (by rw [b0, if_neg z])
          exact ⟨⟨rfl, by omega, by omega⟩, rfl, rfl, rfl, by omega, by omega, by rw [if_neg (fun y => by have := rk_r (f := f) (Int.le_refl 0) y.1; omega)], N, o, od, n1, n2, n3⟩
        · obtain ⟨n1, n2, n3⟩ := nxt (-1) (by rw [b0, if_pos (Classical.not_not.mp z)])
          exact ⟨⟨rfl, by omega, by omega⟩, rfl, rfl, rfl, by omega, by omega, by rw [if_neg (by omega)], N, o, od, n1, n2, n3⟩
  · refine mk_no (r := -2) C H A ⟨hn0, hn⟩ (fun Q hQ => ?_) (fun M1 Q R hQ => ?_)
    · have W := C.1
      refine rn_X11_sort _ _ M (sg_X11_sort_0 _ _ M ?_)
      repeat' first | rw [wa_1200 W] | (refine c_lkF C A hX ht ?_) | apply And.intro | intro _ | exact wt | exact wa_t W | exact w_shelf_t W | assumption | exact Or.inl rfl | exact Or.inr rfl | rfl | omega | (unfold jR; omega)
    · have W := R.1
      have wt := w_model_t W
      refine lp_X12_sort (fun _ _ _ _ _ _ => False) (fun _ _ _ _ _ => 0) (fun _ _ _ _ _ _ g => g.elim) _ _ M1 ?_
      repeat' first | rw [wa_1200 W] | (refine r_isF R A ht ?_) | apply And.intro | intro _ | exact wt | exact wa_t W | exact w_shelf_t W | assumption | exact Or.inl rfl | exact Or.inr rfl | rfl | omega | (unfold jR; omega)
end SORT
