/-! what is in many texts: the reference's answer; a new large object -/
theorem TdL.keep4 {M M' : JM} {d e w n : Int} {l : List TR} (T : TdL M d e w n l) (h1 : ∀ k, k ≠ 4 → M' k d 0 = M k d 0) (h2 : ∀ k j, k ≠ 4 → M' k e j = M k e j) : TdL M' d e w n l := by
  obtain ⟨⟨a1, a2, a3, a4⟩, ⟨b1, b2, b3⟩, ⟨c1, c2⟩, e1⟩ := T
  refine ⟨⟨?_, ?_, ?_, ?_⟩, ⟨?_, ?_, b3⟩, ⟨?_, c2⟩, fun k x g1 g2 g3 g4 => ?_⟩
  · rw [h1 _ (by decide)]; exact a1
  · rw [h1 _ (by decide)]; exact a2
  · rw [h2 _ _ (by decide)]; exact a3
  · rw [h2 _ _ (by decide)]; exact a4
  · rw [h1 _ (by decide)]; exact b1
  · rw [h1 _ (by decide)]; exact b2
  · rw [h1 _ (by decide)]; exact c1
  · rw [h2 _ _ (by decide)]; exact e1 k x g1 g2 g3 g4
section OMA
variable {G : JG} {X : Int} {Q : Int → JM → Prop} {M : JM} {n a many what : Int} {T : ATx} {K : AKp} {P : ATx} {D : ADt}
theorem CB.grow4 {M' : JM} (C : CB X n M T K P D) (A : AI T K P D) (hX : 0 < X) (g : ∀ (k : Nat) (a j : Int), a < M 4 0 0 → k ≠ 4 → ¬ (k = 1212 ∧ a = X) → M' k a j = M k a j) (B : CBig X M') : CB X n M' T K P D := by
  obtain ⟨c1, c2, c3, c4, c5, ⟨d1, d2, d3, d4, d5, d6, d7, d8⟩, c7⟩ := C
  have top := c7.1
  have k2 : ∀ {d e w m : Int} {l : List TR}, TdL M d e w m l → X < d → d < X + 258 → X < e → e < X + 258 → TdL M' d e w m l := fun t h1 h2 h3 h4 => t.keep4 (fun k hk => g k _ _ (by omega) hk (by omega)) (fun k j hk => g k _ _ (by omega) hk (by omega))
  refine ⟨c1.keep fun k a j h1 h2 hk => g k a j (by omega) (by omega) (by omega), c2.keep A.1 fun k a j q => g k a j (by unfold fpT at q; omega) (by unfold fpT at q; omega) (by unfold fpT at q; omega), c3.keep fun k a j q => g k a j (by unfold fpT fpK at q; omega) (by unfold fpT fpK at q; omega) (by unfold fpT fpK at q; omega), c4.keep fun k a j q => g k a j (by unfold fpK at q; omega) (by unfold fpK at q; omega) (by unfold fpK at q; omega), c5.keep A.2.2.1 fun k a j q => g k a j (by unfold fpP at q; omega) (by unfold fpP at q; omega) (by unfold fpP at q; omega), ⟨k2 d1 (by omega) (by omega) (by omega) (by omega), k2 d2 (by omega) (by omega) (by omega) (by omega), k2 d3 (by omega) (by omega) (by omega) (by omega), k2 d4 (by omega) (by omega) (by omega) (by omega), k2 d5 (by omega) (by omega) (by omega) (by omega), k2 d6 (by omega) (by omega) (by omega) (by omega), k2 d7 (by omega) (by omega) (by omega) (by omega), ?_⟩, B⟩
  rw [g _ _ _ (by omega) (by omega) (by omega)]; exact d8
theorem BigT.keep4 {M' : JM} {b : Int} (h : BigT M b) (g : ∀ (k : Nat) (a j : Int), b ≤ a → a < b + 2 → k ≠ 4 → M' k a j = M k a j) : BigT M' b := by
  obtain ⟨c1, c2, c3, c4⟩ := h
  exact ⟨by rw [g _ _ _ (by omega) (by omega) (by decide)]; exact c1, by rw [g _ _ _ (by omega) (by omega) (by decide)]; exact c2, by rw [g _ _ _ (by omega) (by omega) (by decide)]; exact c3, by rw [g _ _ _ (by omega) (by omega) (by decide)]; exact c4⟩
/-- the picture of the large object -/
def pBig : List PC := (18, 0, [(909, 10), (908, 9), (907, 8), (906, 7), (905, 6), (901, 5), (900, 4), (904, 3), (903, 2), (902, 1)], [(2812, -1), (2811, -1)], []) :: pnew 1 40 :: pnew 1 40 :: pnew 1 40 :: List.replicate 7 (pnew 1 9640)
theorem pBig_ok : pSuffixes ([] ++ [pnew 18 0]) 0 9640 = pBig := rfl
theorem mk_suf (C : CB X n M T K P D) (H : CH X M T) (A : AI T K P D) (R : RI X M T K P D) (hX : 0 < X) (e0 : M 1212 X 0 = 0) (h : ∀ M1, M1 0 X 0 = 21 → (∀ N, N = jset M1 1212 X 0 (M 4 0 0) → CB X n N T K P D ∧ CH X N T ∧ RI X N T K P D ∧ N 1212 X 0 = M 4 0 0 ∧ N 1213 X 0 = M 1213 X 0 ∧ N 0 (M 4 0 0) 0 = 18) → M1 1200 X 0 = X + 1 → Q 0 M1) : Runs G 57 10 67600 [(1, M 4 0 0), (0, 9640)] (jnew M 18 0) Q := by
  have B := C.2.2.2.2.2.2
  obtain ⟨B1, B2, B3, B4⟩ := id B
  have c4 := C.2.2.2.1.2.2.1
  obtain ⟨a, ea⟩ : ∃ a, a = M 4 0 0 := ⟨_, rfl⟩
  rw [← ea] at B1 B2 B3 h ⊢
  have h0 : Has M M a [] := ⟨by rw [← ea]; exact (Int.add_zero a).symm, by omega, fun i c hi => by simp at hi, fun _ _ _ _ _ => rfl⟩
  have hs : Has (jnew M 18 0) M a ([] ++ [pnew 18 0]) := h0.new 18 0
  have go := c_initSuffixes (G := G) (Q := Q) (o := 0) (n := 9640) hs rfl ⟨by omega, by omega⟩ (fun M1 h1 => ?_)
  · rw [show a + ((0 : Nat) : Int) = a by omega] at go
    exact go
  · rw [pBig_ok] at h1
    obtain ⟨g1, -, g3, g4⟩ := id h1
    have k0 := g3 0 _ rfl
    have k1 := g3 1 _ rfl
    have k2 := g3 2 _ rfl
    have k3 := g3 3 _ rfl
    have k4 := g3 4 _ rfl
    have k5 := g3 5 _ rfl
    have k6 := g3 6 _ rfl
    have k7 := g3 7 _ rfl
    have k8 := g3 8 _ rfl
    have k9 := g3 9 _ rfl
    have k10 := g3 10 _ rfl
    have fld := k0.2.2.1
    have tg := k0.1
    rw [show a + ((0 : Nat) : Int) = a by omega] at fld tg
    have old : ∀ (k : Nat) (b j : Int), b < a → k ≠ 4 → M1 k b j = M k b j := g4
    refine h M1 (by rw [old _ _ _ (by omega) (by decide)]; exact wa_t C.1) (fun N hN => ?_) (by rw [old _ _ _ (by omega) (by decide)]; exact wa_1200 C.1)
    have nw : ∀ (k : Nat) (b j : Int), a ≤ b → N k b j = M1 k b j := fun k b j z => by rw [hN]; exact jset_a (by omega) _ _
    have od : ∀ (k : Nat) (b j : Int), b < a → k ≠ 4 → ¬ (k = 1212 ∧ b = X) → N k b j = M k b j := fun k b j z1 z2 z3 => by
      rw [hN, show jset M1 1212 X 0 a k b j = M1 k b j from if_neg (fun y => z3 ⟨y.1, y.2.1⟩)]
      exact old k b j z1 z2
    have v12 : N 1212 X 0 = a := by rw [hN, jset_s]
    have v13 : N 1213 X 0 = M 1213 X 0 := od _ _ _ (by omega) (by decide) (by omega)
    have v4 : N 4 0 0 = a + 11 := by rw [hN, jset_k (by decide), g1]; rfl
    have bg : BigS N a := by
      refine ⟨⟨?_, ?_, ?_, ?_, ?_, ?_, ?_, ?_, ?_, ?_, ?_⟩, fun i i0 i1 => ?_, ⟨?_, ?_, ?_⟩, fun i i0 i1 => ?_⟩
      · rw [nw _ _ _ (by omega)]; exact tg
      · rw [nw _ _ _ (by omega)]; exact fld 902 (by decide)
      · rw [nw _ _ _ (by omega)]; exact fld 903 (by decide)
      · rw [nw _ _ _ (by omega)]; exact fld 904 (by decide)
      · rw [nw _ _ _ (by omega)]; exact fld 900 (by decide)
      · rw [nw _ _ _ (by omega)]; exact fld 901 (by decide)
      · rw [nw _ _ _ (by omega)]; exact fld 905 (by decide)
      · rw [nw _ _ _ (by omega)]; exact fld 906 (by decide)
      · rw [nw _ _ _ (by omega)]; exact fld 907 (by decide)
      · rw [nw _ _ _ (by omega)]; exact fld 908 (by decide)
      · rw [nw _ _ _ (by omega)]; exact fld 909 (by decide)
      · rw [nw _ _ _ (by omega)]
        rcases (show i = 1 ∨ i = 2 ∨ i = 3 ∨ i = 4 ∨ i = 5 ∨ i = 6 ∨ i = 7 ∨ i = 8 ∨ i = 9 ∨ i = 10 by omega) with e | e | e | e | e | e | e | e | e | e <;> subst e
        · exact k1.1
        · exact k2.1
        · exact k3.1
        · exact k4.1
        · exact k5.1
        · exact k6.1
        · exact k7.1
        · exact k8.1
        · exact k9.1
        · exact k10.1
      · rw [nw _ _ _ (by omega)]; exact k1.2.1
      · rw [nw _ _ _ (by omega)]; exact k2.2.1
      · rw [nw _ _ _ (by omega)]; exact k3.2.1
      · rw [nw _ _ _ (by omega)]
        rcases (show i = 4 ∨ i = 5 ∨ i = 6 ∨ i = 7 ∨ i = 8 ∨ i = 9 ∨ i = 10 by omega) with e | e | e | e | e | e | e <;> subst e
        · exact k4.2.1
        · exact k5.2.1
        · exact k6.2.1
        · exact k7.2.1
        · exact k8.2.1
        · exact k9.2.1
        · exact k10.2.1
    have BN : CBig X N := by
      unfold CBig
      rw [v12, v13, v4]
      refine ⟨by omega, Or.inr ⟨B1, by omega, bg⟩, B3.imp id fun q => ⟨q.1, by omega, q.2.2.keep4 fun k b j b0 b1 hk => od k b j (by omega) hk (by omega)⟩, ?_⟩
      rcases B3 with q | q
      · exact Or.inr (Or.inl q)
      · exact Or.inr (Or.inr (Or.inr (by omega)))
    have CN : CB X n N T K P D := C.grow4 A hX (fun k b j z1 z2 z3 => od k b j (by rw [ea]; exact z1) z2 z3) BN
    refine ⟨CN, ⟨⟨?_, fun q t t0 t1 et => ?_⟩, Or.inr ?_⟩, R.keep CN.1 (fun k b j q => od k b j (by unfold fpR at q; omega) (by unfold fpR at q; omega) (by unfold fpR at q; omega)), v12, v13, by rw [nw _ _ _ (by omega)]; exact tg⟩
    · rw [od _ _ _ (by omega) (by decide) (by omega), od _ _ _ (by omega) (by decide) (by omega)]; exact H.1.1
    · rw [od _ _ _ (by omega) (by decide) (by omega), od _ _ _ (by omega) (by decide) (by omega)] at q
      rw [od _ _ _ (by omega) (by decide) (by omega)] at et
      obtain ⟨u1, u2⟩ := H.1.2 q t t0 t1 et
      exact ⟨by rw [od _ _ _ (by omega) (by decide) (by omega)]; exact u1, u2.keep fun b j _ => od _ _ _ (by omega) (by decide) (by omega)⟩
    · have e12 : N 2812 a 0 = -1 := by rw [nw _ _ _ (by omega)]; exact fld 2812 (by decide)
      have e05 : N 2405 (X + 1) 0 = M 2405 (X + 1) 0 := od _ _ _ (by omega) (by decide) (by omega)
      rw [v12, e12, e05]
      exact ⟨by omega, fun q => by omega⟩
/-- the marks do not matter -/
theorem mk_ch {M' : JM} (H : CH X M T) (e : M 1212 X 0 = a) (ha : X + 258 ≤ a) (o : Sof (fun c => c = a + 3) M M') : CH X M' T := by
  obtain ⟨⟨h1, h2⟩, h3⟩ := H
  have e' : M' 1212 X 0 = a := by rw [o _ _ _ (by omega)]; exact e
  have e05 : M' 2405 (X + 1) 0 = M 2405 (X + 1) 0 := o _ _ _ (by omega)
  refine ⟨⟨?_, fun q t t0 t1 et => ?_⟩, ?_⟩
  · rw [o _ _ _ (by omega), e05]; exact h1
  · rw [o _ _ _ (by omega), e05] at q
    rw [o _ _ _ (by omega)] at et
    obtain ⟨u1, u2⟩ := h2 q t t0 t1 et
    exact ⟨by rw [o _ _ _ (by omega)]; exact u1, u2.keep fun b j _ => o _ _ _ (by omega)⟩
  · rw [e] at h3
    rw [e', e05]
    refine h3.imp id fun q => ⟨by rw [o _ _ _ (by omega)]; exact q.1, fun z1 z2 => ?_⟩
    rw [o _ _ _ (by omega)] at z1 z2
    obtain ⟨s1, F, s2, s3⟩ := q.2 z1 z2
    refine ⟨by rw [o _ _ _ (by omega)]; exact s1, F, fun t t0 t1 => ?_, s3.keep fun b j _ => o _ _ _ (by omega)⟩
    obtain ⟨w1, w2, w3, w4, w5⟩ := s2 t t0 t1
    exact ⟨by rw [o _ _ _ (by omega)]; exact w1, by rw [o _ _ _ (by omega)]; exact w2, w3, by rw [o _ _ _ (by omega)]; exact w4, fun i i0 i1 => ⟨(w5 i i0 i1).1, by rw [o _ _ _ (by omega)]; exact (w5 i i0 i1).2⟩⟩
theorem r_ofMany (R : RI X M T K P D) (A : AI T K P D) (hm : 1 ≤ many) (hT : many ≤ T.1) (hw : what = 0 ∨ what = 1 ∨ what = 2) (h : ∀ r M', FrR X M M' → RI X M' T K P D → AnsM T many what r → Q r M') : Runs G 223 0 0 [(1, X + 218), (0, many), (0, what)] M Q := by
  have W := R.1
  have L := pls_T A.1
  have nb := L.1
  have a2 := A.1.2.1
  have rt : ∀ N, Orf X M N → WSt X N ∧ FrR X M N ∧ RI X N T K P D := fun N o => ⟨o.w W, fun k a j q => o k a j (by omega) (by omega), R.keep (o.w W) fun k a j q => o k a j (by unfold fpR at q; omega) (by unfold fpR at q; omega)⟩
  refine lp_X12_ofMany (fun v0 v1 v2 v3 v4 v5 N => X + 218 = v0 ∧ many = v1 ∧ what = v2 ∧ (0 ≤ v3 ∧ v3 ≤ v4 ∧ v4 ≤ 240) ∧ Orf X M N ∧ Rall X N T ∧ (v3 = 0 ∨ GP (bsT T T.1) (txT T) (lfT T) (unT T) v3 many v5) ∧ Fl (fun k => bsF (PM T many) k v3 v4) (v4 - v3) (lzM T many)) (fun _ _ _ v3 v4 _ => (v4 - v3).toNat) ?_ _ _ _ M ?_
  · rintro v0 v1 v2 v3 v4 v5 N ⟨rfl, rfl, rfl, ⟨i1, i2, i3⟩, o, ra, gp, fl⟩
    obtain ⟨WN, fr, RN⟩ := rt N o
    have wn := w_model_t WN
    refine ⟨fun q => ?_, fun q => ⟨by unfold jR; omega, by unfold jR; omega, ⟨by omega, by omega⟩, wn, r_manyOf WN L ra.1 (fun p p0 p1 => (ra.2.1 p p0 p1).2) (fun p p0 p1 => (ra.2.1 p p0 p1).1) ⟨by omega, by omega⟩ hm ra.2.2 (fun N' p o' g _ => ⟨fun z => absurd g.1.1 (by omega), fun _ => ⟨⟨rfl, rfl, rfl, ⟨by omega, by omega, i3⟩, o.trans o'.orf, ra.keep A.1 o', Or.inr g, fl.step (by omega) (fun k => bsF_t q ⟨p, g⟩ k) (by omega)⟩, by omega⟩⟩) (fun N' o' g _ => ⟨fun _ => ⟨by unfold jR; omega, ⟨rfl, rfl, rfl, ⟨i1, by omega, by omega⟩, o.trans o'.orf, ra.keep A.1 o', gp, fl.step (by omega) (fun k => bsF_f q g k) (by omega)⟩, by omega⟩, fun z => absurd rfl z⟩)⟩⟩
    have e := fl.stop (fun k => bsF_stop q k)
    refine ⟨fun z => ?_, fun z => h 0 N fr RN (Or.inl ⟨by rw [e]; exact Classical.not_not.mp z, rfl⟩)⟩
    have g := gp.resolve_left z
    have g1 := g.1.1
    have g2 := g.1.2.1
    have tl := (L.2.1 v5 g1 g2)
    have tx1 : txT T v5 < T.1 := by
      obtain ⟨t, i, h1, h2, h3, h4, h5, h6, _⟩ := loc_ex A.1 g1 g2
      rw [h6]; exact h2
    have rl := (RN.2.1.2 (txT T v5) tl.2.1.1 tx1).1
    obtain ⟨uu1, uu2, -⟩ := A.1.2.2 (txT T v5) tl.2.1.1 tx1
    rw [w_model_1320 WN, w_m1320_t WN, w_m1320_n WN, w_model_1301 WN, w_m1301_t WN, w_m1301_n WN, w_model_1321 WN, w_m1321_t WN, w_m1321_n WN, (ra.2.1 v5 g1 g2).1, (ra.2.1 v5 g1 g2).2, rl]
    rw [← e] at g z
    refine ⟨wn, ⟨rfl, g1, by omega⟩, fun w0 => ⟨fun w1 => ⟨wn, ⟨rfl, tl.2.1.1, by omega⟩, wn, ⟨rfl, g1, by omega⟩, by unfold jR; omega, h _ N fr RN (Or.inr ⟨z, v5, g, Or.inr (Or.inr ⟨by omega, rfl⟩)⟩)⟩, fun w1 => h _ N fr RN (Or.inr ⟨z, v5, g, Or.inr (Or.inl ⟨Classical.not_not.mp w1, rfl⟩)⟩)⟩, fun w0 => h _ N fr RN (Or.inr ⟨z, v5, g, Or.inl ⟨Classical.not_not.mp w0, by omega⟩⟩)⟩
  · have e0 : M 3200 (X + 218) 0 = T.1 := R.2.1.1
    refine ⟨fun z => absurd z (by omega), fun _ => r_in (fun _ _ _ => ⟨fun _ => ⟨w_model_t W, fun _ => ⟨w_model_t W, r_rankAll W R.2.1 A.1 (fun N o ra _ => ⟨rfl, rfl, rfl, ⟨by omega, by omega, by omega⟩, o, ra, Or.inl rfl, Fl.go (F := fun k => bsF (PM T many) k 0 240) 300 (by omega)⟩)⟩, fun z => absurd (by rw [e0]; exact hT) z⟩, fun z => absurd (by decide) z⟩) (fun z => absurd (by omega) z)⟩
end OMA
