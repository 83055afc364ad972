/-! a large object is made; step: distance -/
section DIST2
variable {G : JG} {X : Int} {Q : Int → JM → Prop} {M : JM} {n : Int} {T : ATx} {K : AKp} {P : ATx} {D : ADt}
/-- only new cells, and what says where the large objects are, have changed -/
theorem CB.grow {M' : JM} (C : CB X n M T K P D) (A : AI T K P D) (hX : 0 < X) (g : ∀ (k : Nat) (a j : Int), a < M 4 0 0 → ¬ (k = 4 ∧ a = 0) → ¬ ((k = 1212 ∨ k = 1213) ∧ a = X) → M' k a j = M k a j) (B : CBig X M') : CB X n M' T K P D := by
  obtain ⟨c1, c2, c3, c4, c5, ⟨d1, d2, d3, d4, d5, d6, d7, d8⟩, c7⟩ := C
  have top := c7.1
  have k2 : ∀ {d e w m : Int} {l : List TR}, TdL M d e w m l → X < d → d < X + 258 → X < e → e < X + 258 → TdL M' d e w m l := fun t h1 h2 h3 h4 => t.keep (fun k => g k _ _ (by omega) (by omega) (by omega)) (fun k j => g k _ _ (by omega) (by omega) (by omega))
  refine ⟨c1.keep fun k a j h1 h2 hk => g k a j (by omega) (by omega) (by omega), c2.keep A.1 fun k a j q => g k a j (by unfold fpT at q; omega) (by unfold fpT at q; omega) (by unfold fpT at q; omega), c3.keep fun k a j q => g k a j (by unfold fpT fpK at q; omega) (by unfold fpT fpK at q; omega) (by unfold fpT fpK at q; omega), c4.keep fun k a j q => g k a j (by unfold fpK at q; omega) (by unfold fpK at q; omega) (by unfold fpK at q; omega), c5.keep A.2.2.1 fun k a j q => g k a j (by unfold fpP at q; omega) (by unfold fpP at q; omega) (by unfold fpP at q; omega), ⟨k2 d1 (by omega) (by omega) (by omega) (by omega), k2 d2 (by omega) (by omega) (by omega) (by omega), k2 d3 (by omega) (by omega) (by omega) (by omega), k2 d4 (by omega) (by omega) (by omega) (by omega), k2 d5 (by omega) (by omega) (by omega) (by omega), k2 d6 (by omega) (by omega) (by omega) (by omega), k2 d7 (by omega) (by omega) (by omega) (by omega), ?_⟩, B⟩
  rw [g _ _ _ (by omega) (by omega) (by omega)]; exact d8
theorem FrC.grow {M' : JM} (B : CBig X M) (hX : 0 < X) (g : ∀ (k : Nat) (a j : Int), a < M 4 0 0 → ¬ (k = 4 ∧ a = 0) → ¬ ((k = 1212 ∨ k = 1213) ∧ a = X) → M' k a j = M k a j) : FrC X M M' := fun k a j h1 h2 => g k a j (by have := B.1; omega) (by omega) (by omega)
theorem BigS.keepN {M' : JM} {a : Int} (h : BigS M a) (g : ∀ (k : Nat) (b j : Int), a ≤ b → b < a + 11 → M' k b j = M k b j) : BigS M' a := by
  obtain ⟨⟨c1, c2, c3, c4, c5, c6, c7, c8, c9, c10, c11⟩, d, ⟨e1, e2, e3⟩, f⟩ := h
  exact ⟨⟨by rw [g _ _ _ (by omega) (by omega)]; exact c1, by rw [g _ _ _ (by omega) (by omega)]; exact c2, by rw [g _ _ _ (by omega) (by omega)]; exact c3, by rw [g _ _ _ (by omega) (by omega)]; exact c4, by rw [g _ _ _ (by omega) (by omega)]; exact c5, by rw [g _ _ _ (by omega) (by omega)]; exact c6, by rw [g _ _ _ (by omega) (by omega)]; exact c7, by rw [g _ _ _ (by omega) (by omega)]; exact c8, by rw [g _ _ _ (by omega) (by omega)]; exact c9, by rw [g _ _ _ (by omega) (by omega)]; exact c10, by rw [g _ _ _ (by omega) (by omega)]; exact c11⟩, fun i i0 i1 => by rw [g _ _ _ (by omega) (by omega)]; exact d i i0 i1, ⟨by rw [g _ _ _ (by omega) (by omega)]; exact e1, by rw [g _ _ _ (by omega) (by omega)]; exact e2, by rw [g _ _ _ (by omega) (by omega)]; exact e3⟩, fun i i0 i1 => by rw [g _ _ _ (by omega) (by omega)]; exact f i i0 i1⟩
theorem BigT.keepN {M' : JM} {b : Int} (h : BigT M b) (g : ∀ (k : Nat) (a j : Int), b ≤ a → a < b + 2 → M' k a j = M k a j) : BigT M' b := by
  obtain ⟨c1, c2, c3, c4⟩ := h
  exact ⟨by rw [g _ _ _ (by omega) (by omega)]; exact c1, by rw [g _ _ _ (by omega) (by omega)]; exact c2, by rw [g _ _ _ (by omega) (by omega)]; exact c3, by rw [g _ _ _ (by omega) (by omega)]; exact c4⟩
theorem potc_n {a b : Int} (hb : b ≠ 0) : potc a b + 3 = potc a 0 := by
  unfold potc
  rw [if_neg hb, if_pos (rfl : (0 : Int) = 0)]
theorem pots_n {a b : Int} (hb : b ≠ 0) : pots a b + 60000 = pots a 0 := by
  unfold pots
  rw [if_neg hb, if_pos (rfl : (0 : Int) = 0)]
theorem c_hand (C : CB X n M T K P D) (H : CH X M T) (A : AI T K P D) (hX : 0 < X) : ∃ (c s : Nat) (b' : Int), c + potc (M 1212 X 0) b' ≤ potc (M 1212 X 0) (M 1213 X 0) ∧ s + pots (M 1212 X 0) b' ≤ pots (M 1212 X 0) (M 1213 X 0) ∧ ∀ Q : Int → JM → Prop, (∀ M', FrC X M M' → CB X n M' T K P D → CH X M' T → M' 1212 X 0 = M 1212 X 0 → M' 1213 X 0 = b' → b' ≠ 0 → Q b' M') → Runs G 168 c s [(1, X)] M Q := by
  have W := C.1
  have B := C.2.2.2.2.2.2
  obtain ⟨B1, B2, B3, B4⟩ := id B
  by_cases hb : M 1213 X 0 = 0
  · have m4 : M 4 0 0 ≠ 0 := by omega
    refine ⟨2, 58082, M 4 0 0, ?_, ?_, fun Q hQ => ?_⟩
    · have := potc_n (a := M 1212 X 0) m4
      rw [hb]; omega
    · have := pots_n (a := M 1212 X 0) m4
      rw [hb]; omega
    · refine rn_X11_stepsAtHand X M (sg_X11_stepsAtHand_0 X M ⟨wa_t W, fun _ => ⟨⟨by omega, by omega⟩, by omega, 1, 58081, by omega, by omega, ?_⟩, fun q => absurd hb q⟩)
      have n4 : jnew M 17 0 4 0 0 = M 4 0 0 + 1 := if_pos ⟨rfl, rfl, rfl⟩
      have nx : ∀ (k : Nat) (a j : Int), a < M 4 0 0 → ¬ (k = 4 ∧ a = 0) → jnew M 17 0 k a j = M k a j := fun k a j h1 h2 => by
        unfold jnew
        rw [if_neg (by omega), if_neg (by omega)]
      have nt : jnew M 17 0 0 (M 4 0 0) 0 = 17 := by
        unfold jnew
        rw [if_neg (by omega), if_pos rfl, if_pos ⟨rfl, rfl⟩]
      obtain ⟨N, hN⟩ : ∃ N, N = jnew M 17 0 := ⟨_, rfl⟩
      rw [← hN] at n4 nx nt ⊢
      have o4 : jnew N 1 58081 4 0 0 = M 4 0 0 + 2 := by
        unfold jnew
        rw [if_pos ⟨rfl, rfl, rfl⟩, n4]; omega
      have ox : ∀ (k : Nat) (a j : Int), a < M 4 0 0 + 1 → ¬ (k = 4 ∧ a = 0) → jnew N 1 58081 k a j = N k a j := fun k a j h1 h2 => by
        unfold jnew
        rw [if_neg (by omega), if_neg (by omega)]
      have ot : jnew N 1 58081 0 (M 4 0 0 + 1) 0 = 1 := by
        unfold jnew
        rw [if_neg (by omega), if_pos (by omega), if_pos ⟨rfl, rfl⟩]
      have ol : jnew N 1 58081 1 (M 4 0 0 + 1) 0 = 58081 := by
        unfold jnew
        rw [if_neg (by omega), if_pos (by omega), if_neg (by omega), if_pos ⟨rfl, rfl⟩]
      refine rn_X7_init _ N (sg_X7_init_0 _ N ?_)
      rw [n4]
      obtain ⟨O, hO⟩ : ∃ O, O = jnew N 1 58081 := ⟨_, rfl⟩
      rw [← hO] at o4 ox ot ol ⊢
      have big : ∀ (k : Nat) (a j : Int), a < M 4 0 0 → ¬ (k = 4 ∧ a = 0) → ¬ ((k = 1212 ∨ k = 1213) ∧ a = X) → jset (jset O 800 (M 4 0 0) 0 (M 4 0 0 + 1)) 1213 X 0 (M 4 0 0) k a j = M k a j := fun k a j h1 h2 h3 => by
        rw [show jset (jset O 800 (M 4 0 0) 0 (M 4 0 0 + 1)) 1213 X 0 (M 4 0 0) k a j = jset O 800 (M 4 0 0) 0 (M 4 0 0 + 1) k a j from if_neg (fun z => h3 ⟨Or.inr z.1, z.2.1⟩), jset_a (by omega), ox k a j (by omega) h2, nx k a j h1 h2]
      refine ⟨by omega, ⟨by decide, by decide, by omega, by omega⟩, by rw [ox _ _ _ (by omega) (by omega)]; exact nt, jends_in (by omega) (by omega) (fun _ => ?_)⟩
      have wx : jset O 800 (M 4 0 0) 0 (M 4 0 0 + 1) 0 X 0 = 21 := by
        rw [jset_k (by decide), ox _ _ _ (by omega) (by omega), nx _ _ _ (by omega) (by omega)]; exact wa_t W
      refine ⟨wx, wx, jends_in (by omega) (by omega) ?_⟩
      rw [jset_s]
      obtain ⟨V, hV⟩ : ∃ V, V = jset (jset O 800 (M 4 0 0) 0 (M 4 0 0 + 1)) 1213 X 0 (M 4 0 0) := ⟨_, rfl⟩
      rw [← hV] at big ⊢
      have v12 : V 1212 X 0 = M 1212 X 0 := by
        rw [hV, jset_k (by decide), jset_k (by decide), ox _ _ _ (by omega) (by omega), nx _ _ _ (by omega) (by omega)]
      have v13 : V 1213 X 0 = M 4 0 0 := by rw [hV, jset_s]
      have v4 : V 4 0 0 = M 4 0 0 + 2 := by rw [hV, jset_k (by decide), jset_k (by decide)]; exact o4
      have bt : BigT V (M 4 0 0) := by
        refine ⟨?_, ?_, ?_, ?_⟩
        · rw [hV, jset_k (by decide), jset_k (by decide), ox _ _ _ (by omega) (by omega)]; exact nt
        · rw [hV, jset_k (by decide), jset_s]
        · rw [hV, jset_k (by decide), jset_k (by decide)]; exact ot
        · rw [hV, jset_k (by decide), jset_k (by decide)]; exact ol
      have BV : CBig X V := by
        unfold CBig
        rw [v12, v13, v4]
        refine ⟨by omega, B2.imp id fun q => ⟨q.1, by omega, q.2.2.keepN fun k b j b0 b1 => big k b j (by omega) (by omega) (by omega)⟩, Or.inr ⟨by omega, by omega, bt⟩, ?_⟩
        rcases B2 with q | q
        · exact Or.inl q
        · exact Or.inr (Or.inr (Or.inl (by omega)))
      refine hQ V (FrC.grow B hX big) (C.grow A hX big BV) (H.keep B fun k a j q => ?_) v12 v13 m4
      by_cases e : k = 1212 ∧ a = X
      · rw [e.1, e.2, hV, jset_k (by decide), jset_k (by decide), ox _ _ _ (by omega) (by omega), nx _ _ _ (by omega) (by omega)]
      · unfold fpH at q
        exact big k a j (by omega) (by omega) (by omega)
  · refine ⟨0, 0, M 1213 X 0, by omega, by omega, fun Q hQ => ?_⟩
    refine rn_X11_stepsAtHand X M (sg_X11_stepsAtHand_0 X M ⟨wa_t W, fun q => absurd q hb, fun _ => ⟨wa_t W, hQ M (FrC.refl X M) C H rfl rfl hb⟩⟩)
/-- a call that asks for the large table -/
theorem mk_big {y y' : Nat} {as : List JV} {t s : Int} (hbad : ∀ n M T K P D, CB X n M T K P D → AI T K P D → 0 < X → ¬ ((0 ≤ t ∧ t < T.1) ∧ (0 ≤ s ∧ s < T.1)) → ∃ r : Int, (∀ Q : Int → JM → Prop, Q r M → Runs G y 0 0 ((1, X) :: as) M Q) ∧ ∀ (M1 : JM) (Q : Int → JM → Prop), RI X M1 T K P D → Q r M1 → Runs G y' 0 0 ((1, X + 218) :: as) M1 Q)
    (hok : ∀ n M T K P D, CB X n M T K P D → CH X M T → AI T K P D → 0 < X → (0 ≤ t ∧ t < T.1) → (0 ≤ s ∧ s < T.1) → ∃ (r : Int) (D' : ADt), AI T K P D' ∧ (∀ (c z : Nat) (b' : Int) (Q : Int → JM → Prop), (∀ Q : Int → JM → Prop, (∀ M', FrC X M M' → CB X n M' T K P D → CH X M' T → M' 1212 X 0 = M 1212 X 0 → M' 1213 X 0 = b' → b' ≠ 0 → Q b' M') → Runs G 168 c z [(1, X)] M Q) → (∀ M1, FrC X M M1 → CB X n M1 T K P D' → CH X M1 T → M1 1212 X 0 = M 1212 X 0 → M1 1213 X 0 = b' → Q r M1) → Runs G y c z ((1, X) :: as) M Q) ∧ ∀ (M1 : JM) (Q : Int → JM → Prop), RI X M1 T K P D → (∀ M2, FrR X M1 M2 → RI X M2 T K P D' → Q r M2) → Runs G y' 0 0 ((1, X + 218) :: as) M1 Q) : JStA (IV X) 3072 G X y y' as := by
  intro n a b M I hn0 hn
  obtain ⟨T, K, P, D, C, H, R, A, hX, ea, eb⟩ := I
  by_cases hv : (0 ≤ t ∧ t < T.1) ∧ (0 ≤ s ∧ s < T.1)
  · obtain ⟨c, z, b', p1, p2, p3⟩ := c_hand (G := G) C H A hX
    obtain ⟨r, D', A', h1, h2⟩ := hok n M T K P D C H A hX hv.1 hv.2
    rw [ea, eb] at p1 p2
    refine ⟨c, z, a, b', p1, p2, fun Q hQ => h1 c z b' Q p3 (fun M1 f1 c1 k1 e1 e2 => hQ r M1 (w_model_t c1.1) (fun Q2 hQ2 => h2 M1 Q2 (f1.RI c1.1 R) (fun M2 f2 r2 => hQ2 M2 ⟨T, K, P, D', f2.CB A' (c1.mono (by omega) (by omega)), f2.CH c1.2.2.2.2.2.2 k1, r2, A', hX, ?_, ?_⟩)))⟩
    · rw [f2 1212 X 0 (by omega), e1]; exact ea
    · rw [f2 1213 X 0 (by omega), e2]
  · obtain ⟨r, h1, h2⟩ := hbad n M T K P D C A hX hv
    exact ⟨0, 0, a, b, by omega, by omega, fun Q hQ => h1 Q (hQ r M (w_model_t C.1) (fun Q2 hQ2 => h2 M Q2 R (hQ2 M ⟨T, K, P, D, C.mono (by omega) (by omega), H, R, A, hX, ea, eb⟩)))⟩
/-- the large table's ints do not matter -/
theorem Zof.cb {M' : JM} {s : Int} (o : Zof s M M') (C : CB X n M T K P D) (A : AI T K P D) (hs : X + 258 ≤ s) : CB X n M' T K P D := C.keep A fun k a j q => o k a j (by unfold fpC fpS fpT fpK fpP fpD at q; omega)
theorem Zof.ch {M' : JM} {s : Int} (o : Zof s M M') (C : CB X n M T K P D) (H : CH X M T) (hs : X + 258 ≤ s) (e : M 1213 X 0 = s) (hX : 0 < X) : CH X M' T := H.keep C.2.2.2.2.2.2 fun k a j q => o k a j (by have := C.2.2.2.2.2.2.2.2.2; unfold fpH at q; omega)
theorem c_big {b : Int} (C : CB X n M T K P D) (e : M 1213 X 0 = b) (nb : b ≠ 0) : X + 258 ≤ b ∧ BigT M b := by
  have := C.2.2.2.2.2.2.2.2.1
  rw [e] at this
  rcases this with q | q
  · exact absurd q nb
  · exact ⟨q.1, q.2.2⟩
end DIST2
