/-! step: longestCommon -/
/-- b, i, j: the longest of the pairs in S, and the first of these -/
def LB (n : Int) (f : Int → Int) (m : Int) (g : Int → Int) (S : Int → Int → Prop) (b i j : Int) : Prop := (b = 0 ∧ i = 0 ∧ j = 0 ∧ ∀ x y, S x y → lcp2 n f m g x y = 0) ∨ (0 < b ∧ S i j ∧ lcp2 n f m g i j = b ∧ ∀ x y, S x y → lcp2 n f m g x y ≤ b ∧ (x < i ∨ (x = i ∧ y < j) → lcp2 n f m g x y < b))
theorem LB_uniq {n m b i j b' i' j' : Int} {f g : Int → Int} {S : Int → Int → Prop} (h : LB n f m g S b i j) (h' : LB n f m g S b' i' j') : b = b' ∧ i = i' ∧ j = j' := by
  rcases h with h | h
  · rcases h' with h' | h'
    · omega
    · have := h.2.2.2 _ _ h'.2.1; omega
  · rcases h' with h' | h'
    · have := h'.2.2.2 _ _ h.2.1; omega
    · have a := h.2.2.2 _ _ h'.2.1
      have b := h'.2.2.2 _ _ h.2.1
      have c := a.2
      have d := b.2
      have e := h.2.2.1
      have e' := h'.2.2.1
      have : ¬ (i' < i ∨ (i' = i ∧ j' < j)) := fun z => by have := c z; omega
      have : ¬ (i < i' ∨ (i = i' ∧ j < j')) := fun z => by have := d z; omega
      omega
def selw (w b i j : Int) : Int := if w = 0 then b else if w = 1 then i else j
section LCS
variable {G : JG} {X : Int}
/-- the answer is known by what holds of it; nothing that lasts changes -/
theorem mk_rl {y y' : Nat} {as : List JV} (h : ∀ n M T K P D, CB X n M T K P D → CH X M T → AI T K P D → 0 < X → ∃ Pr : Int → Prop, (∀ Q : Int → JM → Prop, (∀ r M1, Pr r → FrC X M M1 → CB X n M1 T K P D → CH X M1 T → M1 1212 X 0 = M 1212 X 0 → M1 1213 X 0 = M 1213 X 0 → Q r M1) → Runs G y 0 0 ((1, X) :: as) M Q) ∧ ∀ (M1 : JM) (Q : Int → JM → Prop) (r : Int), Pr r → RI X M1 T K P D → (∀ M2, FrR X M1 M2 → RI X M2 T K P D → Q r M2) → Runs G y' 0 0 ((1, X + 218) :: as) M1 Q) : JSt (IV X) 3072 G X y y' as :=
  mk_stp fun n M T K P D C H A hX hn0 hn => by
    obtain ⟨Pr, hc, hr⟩ := h n M T K P D C H A hX
    refine ⟨fun r T' K' P' D' => Pr r ∧ T' = T ∧ K' = K ∧ P' = P ∧ D' = D, fun Q hQ => hc Q (fun r M1 pr f c s e1 e2 => hQ r M1 T K P D ⟨pr, rfl, rfl, rfl, rfl⟩ A f (c.mono (by omega) (by omega)) s e1 e2), ?_⟩
    rintro M1 Q r T' K' P' D' ⟨pr, rfl, rfl, rfl, rfl⟩ R hQ
    exact hr M1 Q r pr R hQ
/-- the search's own cells -/
def Eof (X : Int) (M M' : JM) : Prop := ∀ (k : Nat) (a j : Int), ¬ (k = 2 ∧ X + 156 ≤ a ∧ a ≤ X + 160) → ¬ (a = X + 155 ∧ 2304 ≤ k ∧ k ≤ 2307) → ¬ (k = 2901 ∧ a = X + 159) → M' k a j = M k a j
theorem Eof.refl (X : Int) (M : JM) : Eof X M M := fun _ _ _ _ _ _ => rfl
theorem Eof.trans {M M' M'' : JM} (h : Eof X M M') (g : Eof X M' M'') : Eof X M M'' := fun k a j h1 h2 h3 => (g k a j h1 h2 h3).trans (h k a j h1 h2 h3)
theorem Eof.CB {n : Int} {M M' : JM} {T : ATx} {K : AKp} {P : ATx} {D : ADt} (o : Eof X M M') (C : CB X n M T K P D) (A : AI T K P D) : CB X n M' T K P D := C.keep A fun k a j q => o k a j (by unfold fpC fpS fpT fpK fpP fpD at q; omega) (by unfold fpC fpS fpT fpK fpP fpD at q; omega) (by unfold fpC fpS fpT fpK fpP fpD at q; omega)
theorem Eof.CH {M M' : JM} {T : ATx} (o : Eof X M M') (H : CH X M T) (B : CBig X M) : CH X M' T := H.keep B fun k a j q => o k a j (by unfold fpH at q; omega) (by unfold fpH at q; omega) (by unfold fpH at q; omega)
theorem Eof.arr {M M' : JM} (h : Eof X M M') {a : Int} (ha : X + 156 ≤ a ∧ a ≤ X + 160) (j v : Int) : Eof X M (jset M' 2 a j v) := fun k b i h1 h2 h3 => by
  rw [show jset M' 2 a j v k b i = M' k b i from if_neg (by omega)]
  exact h k b i h1 h2 h3
set_option maxHeartbeats 2000000 in
theorem st_longestCommon (t s w : Int) : JSt (IV X) 3072 G X 135 217 [(0, t), (0, s), (0, w)] := mk_rl fun n M T K P D C H A hX => by
  by_cases hv : (0 ≤ t ∧ t < T.1) ∧ (0 ≤ s ∧ s < T.1) ∧ 0 ≤ w ∧ w ≤ 2
  · obtain ⟨ht, hs, hw⟩ := hv
    obtain ⟨u1, u2, -⟩ := A.1.2.2 t ht.1 ht.2
    obtain ⟨w1, w2, -⟩ := A.1.2.2 s hs.1 hs.2
    obtain ⟨L, hL⟩ : ∃ L, L = T.2.1 t := ⟨_, rfl⟩
    obtain ⟨f, hf⟩ : ∃ f, f = T.2.2 t := ⟨_, rfl⟩
    obtain ⟨m, hm⟩ : ∃ m, m = T.2.1 s := ⟨_, rfl⟩
    obtain ⟨g, hg⟩ : ∃ g, g = T.2.2 s := ⟨_, rfl⟩
    rw [← hL] at u1 u2
    rw [← hm] at w1 w2
    refine ⟨fun r => ∃ b i j, LB L f m g (fun x y => 0 ≤ x ∧ x < L ∧ 0 ≤ y ∧ y < m) b i j ∧ r = selw w b i j, fun Q hQ => ?_, ?_⟩
    · have W := C.1
      have tx : ∀ N, Eof X M N → (N 0 (X + (4 + 2 * t)) 0 = 19 ∧ N 2901 (X + (4 + 2 * t)) 0 = L ∧ N 1000 (X + (4 + 2 * t)) 0 = X + (5 + 2 * t) ∧ N 0 (X + (5 + 2 * t)) 0 = 1 ∧ N 1 (X + (5 + 2 * t)) 0 = 240 ∧ ∀ i, 0 ≤ i → i < L → N 2 (X + (5 + 2 * t)) i = f i) ∧ (N 0 (X + (4 + 2 * s)) 0 = 19 ∧ N 2901 (X + (4 + 2 * s)) 0 = m ∧ N 1000 (X + (4 + 2 * s)) 0 = X + (5 + 2 * s) ∧ N 0 (X + (5 + 2 * s)) 0 = 1 ∧ N 1 (X + (5 + 2 * s)) 0 = 240 ∧ ∀ i, 0 ≤ i → i < m → N 2 (X + (5 + 2 * s)) i = g i) ∧ WSt X N ∧ CB X n N T K P D := fun N o => by
        have cN := o.CB C A
        obtain ⟨-, e1, e2, e3, e4, e5, e6, -, -⟩ := c_txt cN A ht
        obtain ⟨-, p1, p2, p3, p4, p5, p6, -, -⟩ := c_txt cN A hs
        rw [hL, hf, hm, hg]
        exact ⟨⟨e4, e1, e2, e5, e6, e3⟩, ⟨p4, p1, p2, p5, p6, p3⟩, cN.1, cN⟩
      have sets : ∀ N : JM, Eof X M N → ∀ a b c : Int, Eof X M (jset (jset (jset N 2305 (X + 155) 0 a) 2306 (X + 155) 0 b) 2307 (X + 155) 0 c) := fun N o a b c k x j h1 h2 h3 => by
        rw [show jset (jset (jset N 2305 (X + 155) 0 a) 2306 (X + 155) 0 b) 2307 (X + 155) 0 c k x j = _ from if_neg (by omega), show jset (jset N 2305 (X + 155) 0 a) 2306 (X + 155) 0 b k x j = _ from if_neg (by omega), show jset N 2305 (X + 155) 0 a k x j = _ from if_neg (by omega)]
        exact o k x j h1 h2 h3
      have main : ∀ Q : Int → JM → Prop, (∀ N, Eof X M N → LB L f m g (fun x y => 0 ≤ x ∧ x < L ∧ 0 ≤ y ∧ y < m) (N 2305 (X + 155) 0) (N 2306 (X + 155) 0) (N 2307 (X + 155) 0) → Q 0 N) → Runs G 20 0 0 [(1, X + 155), (1, X + (4 + 2 * t)), (1, X + (4 + 2 * s))] M Q := fun Q hQ => by
        refine lp_X3_measureShared (fun v0 v1 v2 v3 N => X + 155 = v0 ∧ X + (4 + 2 * t) = v1 ∧ X + (4 + 2 * s) = v2 ∧ Eof X M N ∧ 0 ≤ v3 ∧ v3 ≤ m + 1 ∧ (∀ j, 0 ≤ j → j < v3 → N 2 (X + 156) j = 0) ∧ N 2305 (X + 155) 0 = 0 ∧ N 2306 (X + 155) 0 = 0 ∧ N 2307 (X + 155) 0 = 0) (fun _ _ _ v3 => (1000 - v3).toNat + 10000000) (fun v0 v1 v2 v3 N => X + 155 = v0 ∧ X + (4 + 2 * t) = v1 ∧ X + (4 + 2 * s) = v2 ∧ Eof X M N ∧ -1 ≤ v3 ∧ v3 < L ∧ (∀ j, 0 ≤ j → j ≤ m → N 2 (X + 156) j = lcp2 L f m g (v3 + 1) j) ∧ LB L f m g (fun x y => v3 < x ∧ x < L ∧ 0 ≤ y ∧ y < m) (N 2305 (X + 155) 0) (N 2306 (X + 155) 0) (N 2307 (X + 155) 0)) (fun _ _ _ v3 => ((v3 + 1) * 1000).toNat) (fun v0 v1 v2 v3 v4 v5 v6 N => X + 155 = v0 ∧ X + (4 + 2 * t) = v1 ∧ X + (4 + 2 * s) = v2 ∧ Eof X M N ∧ 0 ≤ v3 ∧ v3 < L ∧ (0 ≤ v6 ∧ v6 ≤ m) ∧ (∀ j, 0 ≤ j → j < v6 → N 2 (X + 156) j = lcp2 L f m g v3 j) ∧ (∀ j, v6 ≤ j → j ≤ m → N 2 (X + 156) j = lcp2 L f m g (v3 + 1) j) ∧ LB L f m g (fun x y => v3 < x ∧ x < L ∧ 0 ≤ y ∧ y < m) (N 2305 (X + 155) 0) (N 2306 (X + 155) 0) (N 2307 (X + 155) 0) ∧ ((v4 = 0 ∧ v5 = 0 ∧ ∀ y, 0 ≤ y → y < v6 → lcp2 L f m g v3 y = 0) ∨ (0 < v4 ∧ 0 ≤ v5 ∧ v5 < v6 ∧ lcp2 L f m g v3 v5 = v4 ∧ ∀ y, 0 ≤ y → y < v6 → lcp2 L f m g v3 y ≤ v4 ∧ (y < v5 → lcp2 L f m g v3 y < v4)))) (fun _ _ _ v3 _ _ v6 => ((v3 + 1) * 1000 - 1 - v6).toNat) ?_ ?_ ?_ _ _ _ M ?_
        · rintro v0 v1 v2 v3 N ⟨rfl, rfl, rfl, i0, i1, i2, i3, i4, i5, i6⟩
          obtain ⟨⟨e4, e1, -⟩, ⟨p4, p1, -⟩, W1, -⟩ := tx N i0
          rw [p1, e1]
          refine ⟨p4, fun q => ⟨e4, by unfold jR; omega, ⟨rfl, rfl, rfl, i0, by omega, by omega, fun j j0 j1 => ?_, Or.inl ⟨i4, i5, i6, fun x y z => by omega⟩⟩, by omega⟩, fun q => ?_⟩
          · rw [i3 j j0 (by omega), lcp2_z (by omega)]
          · rw [w_search_400 W1, w_esame_t W1, w_esame_n W1]
            refine ⟨w_search_t W1, ⟨rfl, i1, by omega⟩, by unfold jR; omega, ⟨rfl, rfl, rfl, i0.arr (by omega) _ _, by omega, by omega, fun j j0 j1 => ?_, by rw [jset_k (by decide)]; exact i4, by rw [jset_k (by decide)]; exact i5, by rw [jset_k (by decide)]; exact i6⟩, by omega⟩
            by_cases hj : j = v3
            · rw [hj, jset_s]
            · rw [jset_j hj]; exact i3 j j0 (by omega)
        · rintro v0 v1 v2 v3 N ⟨rfl, rfl, rfl, i0, i1, i2, i3, i4⟩
          refine ⟨fun q => hQ N i0 ?_, fun q => ⟨⟨rfl, rfl, rfl, i0, by omega, i2, ⟨by omega, by omega⟩, fun j j0 j1 => by omega, fun j j0 j1 => i3 j j0 j1, i4, Or.inl ⟨rfl, rfl, fun y y0 y1 => by omega⟩⟩, by omega⟩⟩
          have : v3 = -1 := by omega
          subst this
          rcases i4 with h | h
          · exact Or.inl ⟨h.1, h.2.1, h.2.2.1, fun x y z => h.2.2.2 x y (by omega)⟩
          · exact Or.inr ⟨h.1, by have := h.2.1; omega, h.2.2.1, fun x y z => h.2.2.2 x y (by omega)⟩
        · rintro v0 v1 v2 v3 v4 v5 v6 N ⟨rfl, rfl, rfl, i0, i1, i2, ⟨i3, i4⟩, i5, i6, i7, i8⟩
          obtain ⟨⟨e4, e1, e2, e5, e6, e3⟩, ⟨p4, p1, p2, p5, p6, p3⟩, W1, -⟩ := tx N i0
          rw [p1]
          refine ⟨p4, fun q => ?_, fun q => ?_⟩
          · have hv6 : v6 = m := by omega
            subst hv6
            have lb0 : 0 ≤ N 2305 (X + 155) 0 := by rcases i7 with h | h <;> omega
            refine ⟨fun q2 => ⟨by unfold jR; omega, ⟨rfl, rfl, rfl, i0, by omega, by omega, fun j j0 j1 => ?_, ?_⟩, by omega⟩, fun q2 => ⟨w_search_t W1, fun q3 => ⟨by unfold jR; omega, ⟨rfl, rfl, rfl, i0, by omega, by omega, fun j j0 j1 => ?_, ?_⟩, by omega⟩, fun q3 => ⟨w_search_t W1, w_search_t W1, w_search_t W1, by unfold jR; omega, ⟨rfl, rfl, rfl, sets N i0 _ _ _, by omega, by omega, fun j j0 j1 => ?_, ?_⟩, by omega⟩⟩⟩
            · rw [show v3 + -1 + 1 = v3 by omega]
              by_cases hj : j = v6
              · rw [hj, i6 v6 (by omega) (by omega), lcp2_z (by omega), lcp2_z (by omega)]
              · exact i5 j j0 (by omega)
            · have z : ∀ y, 0 ≤ y → y < v6 → lcp2 L f v6 g v3 y = 0 := by
                rcases i8 with h | h
                · exact h.2.2
                · omega
              rcases i7 with h | h
              · refine Or.inl ⟨h.1, h.2.1, h.2.2.1, fun x y c => ?_⟩
                by_cases hx : x = v3
                · rw [hx]; exact z y c.2.2.1 c.2.2.2
                · exact h.2.2.2 x y ⟨by omega, c.2⟩
              · refine Or.inr ⟨h.1, by have := h.2.1; omega, h.2.2.1, fun x y c => ?_⟩
                by_cases hx : x = v3
                · rw [hx, z y c.2.2.1 c.2.2.2]; omega
                · exact h.2.2.2 x y ⟨by omega, c.2⟩
            · rw [show v3 + -1 + 1 = v3 by omega]
              by_cases hj : j = v6
              · rw [hj, i6 v6 (by omega) (by omega), lcp2_z (by omega), lcp2_z (by omega)]
              · exact i5 j j0 (by omega)
            · rcases i8 with h8 | h8
              · omega
              · rcases i7 with h | h
                · omega
                · refine Or.inr ⟨h.1, by have := h.2.1; omega, h.2.2.1, fun x y c => ?_⟩
                  by_cases hx : x = v3
                  · have := (h8.2.2.2.2 y c.2.2.1 c.2.2.2).1
                    rw [hx]; omega
                  · exact h.2.2.2 x y ⟨by omega, c.2⟩
            · rw [jset_k (by decide), jset_k (by decide), jset_k (by decide), show v3 + -1 + 1 = v3 by omega]
              by_cases hj : j = v6
              · rw [hj, i6 v6 (by omega) (by omega), lcp2_z (by omega), lcp2_z (by omega)]
              · exact i5 j j0 (by omega)
            · rw [jset_k (by decide), jset_k (by decide), jset_s, jset_k (by decide), jset_s, jset_s]
              rcases i8 with h8 | h8
              · omega
              · refine Or.inr ⟨h8.1, ⟨by omega, i2, h8.2.1, h8.2.2.1⟩, h8.2.2.2.1, fun x y c => ?_⟩
                by_cases hx : x = v3
                · have := h8.2.2.2.2 y c.2.2.1 c.2.2.2
                  rw [hx]
                  exact ⟨this.1, fun z => this.2 (by omega)⟩
                · have hc : v3 < x ∧ x < L ∧ 0 ≤ y ∧ y < v6 := ⟨by omega, c.2⟩
                  rcases i7 with h | h
                  · have := h.2.2.2 x y hc; omega
                  · have := (h.2.2.2 x y hc).1; omega
          · rw [e2, p2, e3 v3 i1 i2, p3 v6 i3 (by omega), w_search_400 W1, w_esame_t W1, w_esame_n W1]
            -- one more place: its value v
            have nxt : ∀ v, v = lcp2 L f m g v3 v6 → (((jset N 2 (X + 156) v6 v) 2 (X + 156) v6 ≤ v4 → jR (v6 + 1) ∧ (X + 155 = X + 155 ∧ X + (4 + 2 * t) = X + (4 + 2 * t) ∧ X + (4 + 2 * s) = X + (4 + 2 * s) ∧ Eof X M (jset N 2 (X + 156) v6 v) ∧ 0 ≤ v3 ∧ v3 < L ∧ (0 ≤ v6 + 1 ∧ v6 + 1 ≤ m) ∧ (∀ j, 0 ≤ j → j < v6 + 1 → jset N 2 (X + 156) v6 v 2 (X + 156) j = lcp2 L f m g v3 j) ∧ (∀ j, v6 + 1 ≤ j → j ≤ m → jset N 2 (X + 156) v6 v 2 (X + 156) j = lcp2 L f m g (v3 + 1) j) ∧ LB L f m g (fun x y => v3 < x ∧ x < L ∧ 0 ≤ y ∧ y < m) (jset N 2 (X + 156) v6 v 2305 (X + 155) 0) (jset N 2 (X + 156) v6 v 2306 (X + 155) 0) (jset N 2 (X + 156) v6 v 2307 (X + 155) 0) ∧ ((v4 = 0 ∧ v5 = 0 ∧ ∀ y, 0 ≤ y → y < v6 + 1 → lcp2 L f m g v3 y = 0) ∨ (0 < v4 ∧ 0 ≤ v5 ∧ v5 < v6 + 1 ∧ lcp2 L f m g v3 v5 = v4 ∧ ∀ y, 0 ≤ y → y < v6 + 1 → lcp2 L f m g v3 y ≤ v4 ∧ (y < v5 → lcp2 L f m g v3 y < v4)))) ∧ ((v3 + 1) * 1000 - 1 - (v6 + 1)).toNat < ((v3 + 1) * 1000 - 1 - v6).toNat) ∧ (¬ (jset N 2 (X + 156) v6 v) 2 (X + 156) v6 ≤ v4 → N 0 (X + 155) 0 = 13 ∧ ((1 : Int) = 1 ∧ 0 ≤ v6 ∧ v6 < 241) ∧ jR (v6 + 1) ∧ (X + 155 = X + 155 ∧ X + (4 + 2 * t) = X + (4 + 2 * t) ∧ X + (4 + 2 * s) = X + (4 + 2 * s) ∧ Eof X M (jset N 2 (X + 156) v6 v) ∧ 0 ≤ v3 ∧ v3 < L ∧ (0 ≤ v6 + 1 ∧ v6 + 1 ≤ m) ∧ (∀ j, 0 ≤ j → j < v6 + 1 → jset N 2 (X + 156) v6 v 2 (X + 156) j = lcp2 L f m g v3 j) ∧ (∀ j, v6 + 1 ≤ j → j ≤ m → jset N 2 (X + 156) v6 v 2 (X + 156) j = lcp2 L f m g (v3 + 1) j) ∧ LB L f m g (fun x y => v3 < x ∧ x < L ∧ 0 ≤ y ∧ y < m) (jset N 2 (X + 156) v6 v 2305 (X + 155) 0) (jset N 2 (X + 156) v6 v 2306 (X + 155) 0) (jset N 2 (X + 156) v6 v 2307 (X + 155) 0) ∧ (((jset N 2 (X + 156) v6 v) 2 (X + 156) v6 = 0 ∧ v6 = 0 ∧ ∀ y, 0 ≤ y → y < v6 + 1 → lcp2 L f m g v3 y = 0) ∨ (0 < (jset N 2 (X + 156) v6 v) 2 (X + 156) v6 ∧ 0 ≤ v6 ∧ v6 < v6 + 1 ∧ lcp2 L f m g v3 v6 = (jset N 2 (X + 156) v6 v) 2 (X + 156) v6 ∧ ∀ y, 0 ≤ y → y < v6 + 1 → lcp2 L f m g v3 y ≤ (jset N 2 (X + 156) v6 v) 2 (X + 156) v6 ∧ (y < v6 → lcp2 L f m g v3 y < (jset N 2 (X + 156) v6 v) 2 (X + 156) v6)))) ∧ ((v3 + 1) * 1000 - 1 - (v6 + 1)).toNat < ((v3 + 1) * 1000 - 1 - v6).toNat)) := fun v hv => by
              have q1 : ∀ j, 0 ≤ j → j < v6 + 1 → jset N 2 (X + 156) v6 v 2 (X + 156) j = lcp2 L f m g v3 j := fun j j0 j1 => by
                by_cases hj : j = v6
                · rw [hj, jset_s]; exact hv
                · rw [jset_j hj]; exact i5 j j0 (by omega)
              have q2 : ∀ j, v6 + 1 ≤ j → j ≤ m → jset N 2 (X + 156) v6 v 2 (X + 156) j = lcp2 L f m g (v3 + 1) j := fun j j0 j1 => by
                rw [jset_j (by omega)]; exact i6 j (by omega) j1
              have q3 : LB L f m g (fun x y => v3 < x ∧ x < L ∧ 0 ≤ y ∧ y < m) (jset N 2 (X + 156) v6 v 2305 (X + 155) 0) (jset N 2 (X + 156) v6 v 2306 (X + 155) 0) (jset N 2 (X + 156) v6 v 2307 (X + 155) 0) := by
                rw [jset_k (by decide), jset_k (by decide), jset_k (by decide)]; exact i7
              have l0 : 0 ≤ v := by rw [hv]; exact (lcp2_r (by omega) (by omega)).1
              rw [jset_s]
              refine ⟨fun le => ⟨by unfold jR; omega, ⟨rfl, rfl, rfl, i0.arr (by omega) _ _, i1, i2, ⟨by omega, by omega⟩, q1, q2, q3, ?_⟩, by omega⟩, fun le => ⟨w_search_t W1, ⟨rfl, i3, by omega⟩, by unfold jR; omega, ⟨rfl, rfl, rfl, i0.arr (by omega) _ _, i1, i2, ⟨by omega, by omega⟩, q1, q2, q3, ?_⟩, by omega⟩⟩
              · rcases i8 with h | h
                · refine Or.inl ⟨h.1, h.2.1, fun y y0 y1 => ?_⟩
                  by_cases hy : y = v6
                  · rw [hy]; omega
                  · exact h.2.2 y y0 (by omega)
                · refine Or.inr ⟨h.1, h.2.1, by omega, h.2.2.2.1, fun y y0 y1 => ?_⟩
                  by_cases hy : y = v6
                  · rw [hy]; omega
                  · exact h.2.2.2.2 y y0 (by omega)
              · have b4 : 0 ≤ v4 := by rcases i8 with h | h <;> omega
                refine Or.inr ⟨by omega, i3, by omega, hv.symm, fun y y0 y1 => ?_⟩
                by_cases hy : y = v6
                · rw [hy]; omega
                · rcases i8 with h | h
                  · have := h.2.2 y y0 (by omega); omega
                  · have := (h.2.2.2.2 y y0 (by omega)).1; omega
            have b := @lcp2_r L m (v3 + 1) (v6 + 1) f g (by omega) (by omega)
            refine ⟨w_search_t W1, e4, ⟨e5, i1, by omega⟩, p4, ⟨p5, i3, by omega⟩, fun e => ⟨⟨rfl, i3, by omega⟩, w_search_t W1, ⟨rfl, i3, by omega⟩, nxt 0 (by rw [lcp2_z (fun z => e z.2.2)])⟩, fun e => ?_⟩
            rw [i6 (v6 + 1) (by omega) (by omega)]
            exact ⟨w_search_t W1, by unfold jR; omega, ⟨rfl, by omega, by omega⟩, by unfold jR; omega, ⟨rfl, i3, by omega⟩, w_search_t W1, ⟨rfl, i3, by omega⟩, nxt _ (by rw [lcp2_s i2 (by omega) (Classical.not_not.mp e)]; omega)⟩
        · exact ⟨w_search_t W, w_search_t W, w_search_t W, ⟨rfl, rfl, rfl, sets M (Eof.refl X M) 0 0 0, by omega, by omega, fun j j0 j1 => by omega, by rw [jset_k (by decide), jset_k (by decide), jset_s], by rw [jset_k (by decide), jset_s], jset_s⟩⟩
      refine rn_X11_longestCommon _ _ _ _ M (sg_X11_longestCommon_0 _ _ _ _ M ?_)
      rw [wa_1200 W]
      refine ⟨wa_t W, w_shelf_t W, c_lkT C A hX ht (fun _ => ⟨wa_t W, by rw [wa_1200 W]; exact w_shelf_t W, ?_⟩)⟩
      rw [wa_1200 W]
      refine c_lkT C A hX hs (fun _ => ⟨fun q => absurd q (by omega), fun _ => ⟨fun q => absurd q (by omega), fun _ => ⟨fun q => absurd q (by omega), fun _ => ⟨fun _ => ⟨wa_t W, by rw [wa_1202 W]; exact w_search_t W, ?_⟩, fun q => absurd hw.2 q⟩⟩⟩⟩)
      rw [wa_1202 W]
      refine main _ (fun N o lb _ => ?_)
      have cN := o.CB C A
      have W1 := cN.1
      have fin : ∀ r, r = selw w (N 2305 (X + 155) 0) (N 2306 (X + 155) 0) (N 2307 (X + 155) 0) → Q r N := fun r hr => hQ r N ⟨_, _, _, lb, hr⟩ (fun k a j h1 h2 => o k a j (by omega) (by omega) (by omega)) cN (o.CH H C.2.2.2.2.2.2) (o _ _ _ (by omega) (by omega) (by omega)) (o _ _ _ (by omega) (by omega) (by omega))
      rw [wa_1202 W1]
      unfold selw at fin
      exact ⟨fun q0 => ⟨fun q1 => ⟨wa_t W1, w_search_t W1, fin _ (by rw [if_neg q0, if_neg q1])⟩, fun q1 => ⟨wa_t W1, w_search_t W1, fin _ (by rw [if_neg q0, if_pos (Classical.not_not.mp q1)])⟩⟩, fun q0 => ⟨wa_t W1, w_search_t W1, fin _ (by rw [if_pos (Classical.not_not.mp q0)])⟩⟩
    · rintro M1 Q r ⟨b, i, j, lb, rfl⟩ R hQ
      have W := R.1
      have wt := w_model_t W
      obtain ⟨z1, z2, z3, z4, z5⟩ := r_txt R A ht
      obtain ⟨y1, y2, y3, y4, y5⟩ := r_txt R A hs
      rw [← hL] at z1
      rw [← hm] at y1
      refine lp_X12_longestCommon (fun v0 v1 v2 v3 v4 v5 v6 v7 N => X + 218 = v0 ∧ t = v1 ∧ s = v2 ∧ w = v3 ∧ 0 ≤ v7 ∧ v7 ≤ L ∧ Lk X M1 N ∧ (∀ i j, 0 ≤ i → i ≤ L → 0 ≤ j → j ≤ m → N 2 (X + 225) (241 * i + j) = lcp2 L f m g i j) ∧ LB L f m g (fun x y => 0 ≤ x ∧ x < v7 ∧ 0 ≤ y ∧ y < m) v4 v5 v6) (fun _ _ _ _ _ _ _ v7 => ((1000 - v7) * 1000).toNat) (fun v0 v1 v2 v3 v4 v5 v6 v7 v8 N => X + 218 = v0 ∧ t = v1 ∧ s = v2 ∧ w = v3 ∧ 0 ≤ v7 ∧ v7 < L ∧ 0 ≤ v8 ∧ v8 ≤ m ∧ Lk X M1 N ∧ (∀ i j, 0 ≤ i → i ≤ L → 0 ≤ j → j ≤ m → N 2 (X + 225) (241 * i + j) = lcp2 L f m g i j) ∧ LB L f m g (fun x y => 0 ≤ x ∧ x ≤ v7 ∧ 0 ≤ y ∧ y < m ∧ (x = v7 → y < v8)) v4 v5 v6) (fun _ _ _ _ _ _ _ v7 v8 => ((1000 - v7) * 1000 - 1 - v8).toNat) ?_ ?_ _ _ _ _ M1 ?_
      · rintro v0 v1 v2 v3 v4 v5 v6 v7 N ⟨rfl, rfl, rfl, rfl, i1, i2, i3, i4, i5⟩
        have WN := i3.W W
        have zn : N 2 (X + 219) t = L := by rw [i3 _ _ _ (by omega)]; exact z1
        rw [w_model_1301 WN, w_m1301_t WN, w_m1301_n WN, zn]
        refine ⟨w_model_t WN, ⟨rfl, ht.1, z3⟩, fun q => ?_, fun q => ⟨⟨rfl, rfl, rfl, rfl, i1, by omega, by omega, by omega, i3, i4, ?_⟩, by omega⟩⟩
        · have : v7 = L := by omega
          subst this
          obtain ⟨rfl, rfl, rfl⟩ := LB_uniq i5 lb
          have fin := hQ N i3.FrR (i3.RI R)
          unfold selw at fin
          refine ⟨fun q0 => ⟨fun q1 => ?_, fun q1 => ?_⟩, fun q0 => ?_⟩
          · rw [if_neg q0, if_neg q1] at fin; exact fin
          · rw [if_neg q0, if_pos (Classical.not_not.mp q1)] at fin; exact fin
          · rw [if_pos (Classical.not_not.mp q0)] at fin; exact fin
        · rcases i5 with h | h
          · exact Or.inl ⟨h.1, h.2.1, h.2.2.1, fun x y c => h.2.2.2 x y (by omega)⟩
          · exact Or.inr ⟨h.1, by have := h.2.1; omega, h.2.2.1, fun x y c => h.2.2.2 x y (by omega)⟩
      · rintro v0 v1 v2 v3 v4 v5 v6 v7 v8 N ⟨rfl, rfl, rfl, rfl, i1, i2, i3, i4, i5, i6, i7⟩
        have WN := i5.W W
        have yn : N 2 (X + 219) s = m := by rw [i5 _ _ _ (by omega)]; exact y1
        rw [w_model_1301 WN, w_m1301_t WN, w_m1301_n WN, yn]
        refine ⟨w_model_t WN, ⟨rfl, hs.1, y3⟩, fun q => ⟨by unfold jR; omega, ⟨rfl, rfl, rfl, rfl, by omega, by omega, i5, i6, ?_⟩, by omega⟩, fun q => ?_⟩
        · rcases i7 with h | h
          · exact Or.inl ⟨h.1, h.2.1, h.2.2.1, fun x y c => h.2.2.2 x y (by omega)⟩
          · exact Or.inr ⟨h.1, by have := h.2.1; omega, h.2.2.1, fun x y c => h.2.2.2 x y (by omega)⟩
        · rw [w_model_1308 WN, w_m1308_t WN, w_m1308_n WN, i6 v7 v8 i1 (by omega) i3 (by omega)]
          have b4 : 0 ≤ v4 := by rcases i7 with h | h <;> omega
          have l0 := (@lcp2_r L m v7 v8 f g (by omega) (by omega)).1
          refine ⟨w_model_t WN, by unfold jR; omega, by unfold jR; omega, ⟨rfl, by omega, by omega⟩, fun le => ⟨by unfold jR; omega, ⟨rfl, rfl, rfl, rfl, i1, i2, by omega, by omega, i5, i6, ?_⟩, by omega⟩, fun le => ⟨w_model_t WN, by unfold jR; omega, by unfold jR; omega, ⟨rfl, by omega, by omega⟩, by unfold jR; omega, ⟨rfl, rfl, rfl, rfl, i1, i2, by omega, by omega, i5, i6, ?_⟩, by omega⟩⟩
          · rcases i7 with h | h
            · refine Or.inl ⟨h.1, h.2.1, h.2.2.1, fun x y c => ?_⟩
              by_cases hx : x = v7 ∧ y = v8
              · rw [hx.1, hx.2]; omega
              · exact h.2.2.2 x y (by omega)
            · refine Or.inr ⟨h.1, by have := h.2.1; omega, h.2.2.1, fun x y c => ?_⟩
              by_cases hx : x = v7 ∧ y = v8
              · have := h.2.1
                rw [hx.1, hx.2]; omega
              · exact h.2.2.2 x y (by omega)
          · refine Or.inr ⟨by omega, by omega, rfl, fun x y c => ?_⟩
            by_cases hx : x = v7 ∧ y = v8
            · rw [hx.1, hx.2]; omega
            · rcases i7 with h | h
              · have := h.2.2.2 x y (by omega); omega
              · have := (h.2.2.2 x y (by omega)).1; omega
      · refine ⟨wt, r_isT R A ht (fun _ => ⟨fun q => absurd q (by decide), fun _ => ⟨wt, r_isT R A hs (fun _ => ⟨fun q => absurd q (by decide), fun _ => r_in (fun _ _ _ => ⟨fun _ => ⟨wt, r_look R.1 R.2.1 A.1 ht hs (fun M2 lk lv _ => ⟨rfl, rfl, rfl, rfl, by omega, by omega, lk, ?_, Or.inl ⟨rfl, rfl, rfl, fun x y c => by omega⟩⟩)⟩, fun q => absurd (by decide) q⟩) (fun q => absurd hw q)⟩)⟩⟩)⟩
        rw [hL, hf, hm, hg]; exact lv
  · refine ⟨fun r => r = -2, fun Q hQ => ?_, ?_⟩
    · have hQ := hQ (-2) M rfl (FrC.refl X M) C H rfl rfl
      have W := C.1
      refine rn_X11_longestCommon _ _ _ _ M (sg_X11_longestCommon_0 _ _ _ _ M ?_)
      by_cases ht : 0 ≤ t ∧ t < T.1
      · by_cases hs : 0 ≤ s ∧ s < T.1
        · repeat' first | rw [wa_1200 W] | (refine c_lkT C A hX ht ?_) | (refine c_lkT C A hX hs ?_) | apply And.intro | intro _ | exact wt | exact wa_t W | exact w_shelf_t W | assumption | exact Or.inl rfl | exact Or.inr rfl | rfl | omega | (unfold jR; omega)
        · repeat' first | rw [wa_1200 W] | (refine c_lkT C A hX ht ?_) | (refine c_lkF C A hX hs ?_) | apply And.intro | intro _ | exact wt | exact wa_t W | exact w_shelf_t W | assumption | exact Or.inl rfl | exact Or.inr rfl | rfl | omega | (unfold jR; omega)
      · by_cases hs : 0 ≤ s ∧ s < T.1
        · repeat' first | rw [wa_1200 W] | (refine c_lkF C A hX ht ?_) | (refine c_lkT C A hX hs ?_) | apply And.intro | intro _ | exact wt | exact wa_t W | exact w_shelf_t W | assumption | exact Or.inl rfl | exact Or.inr rfl | rfl | omega | (unfold jR; omega)
        · repeat' first | rw [wa_1200 W] | (refine c_lkF C A hX ht ?_) | (refine c_lkF C A hX hs ?_) | apply And.intro | intro _ | exact wt | exact wa_t W | exact w_shelf_t W | assumption | exact Or.inl rfl | exact Or.inr rfl | rfl | omega | (unfold jR; omega)
    · rintro M1 Q r rfl R hQ
      have hQ := hQ M1 (FrR.refl X M1) R
      have W := R.1
      have wt := w_model_t W
      refine lp_X12_longestCommon (fun _ _ _ _ _ _ _ _ _ => False) (fun _ _ _ _ _ _ _ _ => 0) (fun _ _ _ _ _ _ _ _ _ _ => False) (fun _ _ _ _ _ _ _ _ _ => 0) (fun _ _ _ _ _ _ _ _ _ g => g.elim) (fun _ _ _ _ _ _ _ _ _ _ g => g.elim) _ _ _ _ M1 ?_
      by_cases ht : 0 ≤ t ∧ t < T.1
      · by_cases hs : 0 ≤ s ∧ s < T.1
        · repeat' first | rw [wa_1200 W] | (refine r_isT R A ht ?_) | (refine r_isT R A hs ?_) | (refine r_in ?_ ?_) | apply And.intro | intro _ | exact wt | exact wa_t W | exact w_shelf_t W | assumption | exact Or.inl rfl | exact Or.inr rfl | rfl | omega | (unfold jR; omega)
        · repeat' first | rw [wa_1200 W] | (refine r_isT R A ht ?_) | (refine r_isF R A hs ?_) | apply And.intro | intro _ | exact wt | exact wa_t W | exact w_shelf_t W | assumption | exact Or.inl rfl | exact Or.inr rfl | rfl | omega | (unfold jR; omega)
      · repeat' first | rw [wa_1200 W] | (refine r_isF R A ht ?_) | apply And.intro | intro _ | exact wt | exact wa_t W | exact w_shelf_t W | assumption | exact Or.inl rfl | exact Or.inr rfl | rfl | omega | (unfold jR; omega)
end LCS
