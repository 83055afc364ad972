/-! borders and periods; steps: border, period, root -/
def IsB (u : Int → Int) (l b : Int) : Prop := 0 ≤ b ∧ b < l ∧ ∀ k, 0 ≤ k → k < b → u k = u (l - b + k)
def Mx (u : Int → Int) (l b : Int) : Prop := IsB u l b ∧ ∀ c, IsB u l c → c ≤ b
theorem Mx_uniq {u : Int → Int} {l b c : Int} (h : Mx u l b) (h' : Mx u l c) : b = c := by
  have := h.2 c h'.1
  have := h'.2 b h.1
  omega
theorem IsB_sub {u : Int → Int} {l b c : Int} (h : IsB u l b) (h' : IsB u l c) (hc : c < b) : IsB u b c := ⟨h'.1, hc, fun k k0 k1 => by
  have a := h'.2.2 k k0 k1
  have b' := h.2.2 (b - c + k) (by omega) (by omega)
  rw [show l - b + (b - c + k) = l - c + k by omega] at b'
  rw [a, b']⟩
theorem IsB_trans {u : Int → Int} {l b c : Int} (h : IsB u l b) (h' : IsB u b c) : IsB u l c := ⟨h'.1, by have := h'.2.1; have := h.2.1; omega, fun k k0 k1 => by
  have a := h'.2.2 k k0 k1
  have z := h'.2.1
  have b' := h.2.2 (b - c + k) (by omega) (by omega)
  rw [show l - b + (b - c + k) = l - c + k by omega] at b'
  rw [a, b']⟩
theorem IsB_ext {u : Int → Int} {l b : Int} (h : IsB u l b) (e : u l = u b) : IsB u (l + 1) (b + 1) := ⟨by have := h.1; omega, by have := h.2.1; omega, fun k k0 k1 => by
  by_cases hk : k = b
  · rw [hk, show l + 1 - (b + 1) + b = l by omega]; exact e.symm
  · have := h.2.2 k k0 (by omega)
    rw [show l + 1 - (b + 1) + k = l - b + k by omega]; exact this⟩
theorem IsB_pre {u : Int → Int} {l c : Int} (h : IsB u (l + 1) c) (hc : 1 ≤ c) : IsB u l (c - 1) ∧ u l = u (c - 1) := by
  have h1 := h.2.1
  refine ⟨⟨by omega, by omega, fun k k0 k1 => ?_⟩, ?_⟩
  · have := h.2.2 k k0 (by omega)
    rw [show l + 1 - c + k = l - (c - 1) + k by omega] at this
    exact this
  · have := h.2.2 (c - 1) (by omega) (by omega)
    rw [show l + 1 - c + (c - 1) = l by omega] at this
    exact this.symm
theorem Mx_step {u : Int → Int} {l b : Int} (h : IsB u l b) (e : u l = u b) (hm : ∀ c, IsB u l c → b < c → u l ≠ u c) : Mx u (l + 1) (b + 1) := ⟨IsB_ext h e, fun c hc => by
  have h0 := hc.1
  by_cases c1 : 1 ≤ c
  · obtain ⟨p1, p2⟩ := IsB_pre hc c1
    by_cases hb : b < c - 1
    · exact absurd p2 (hm _ p1 hb)
    · omega
  · have := h.1; omega⟩
theorem Mx_zero {u : Int → Int} {l : Int} (hl : 1 ≤ l) (e : u l ≠ u 0) (hm : ∀ c, IsB u l c → 0 < c → u l ≠ u c) : Mx u (l + 1) 0 := ⟨⟨by omega, by omega, fun k k0 k1 => by omega⟩, fun c hc => by
  have h0 := hc.1
  by_cases c1 : 1 ≤ c
  · obtain ⟨p1, p2⟩ := IsB_pre hc c1
    by_cases hb : 0 < c - 1
    · exact absurd p2 (hm _ p1 hb)
    · exact absurd p2 (by rw [show c - 1 = 0 by omega]; exact e)
  · omega⟩
theorem lcp_ge {n m i j b : Int} {f g : Int → Int} (h0 : 0 ≤ b) (hi : i + b ≤ n) (hj : j + b ≤ m) : b ≤ lcp2 n f m g i j ↔ ∀ k, 0 ≤ k → k < b → f (i + k) = g (j + k) := by
  obtain ⟨a1, a2, a3, a4⟩ := @lcp2_is n m f g i j
  constructor
  · intro h k k0 k1
    exact a3 k k0 (by omega)
  · intro h
    rcases Int.lt_or_le (lcp2 n f m g i j) b with q | q
    · exact absurd ⟨by omega, by omega, h _ a1 q⟩ a4
    · exact q
/-- p is a period of the first n of u -/
def Per (u : Int → Int) (n p : Int) : Prop := 1 ≤ p ∧ ∀ k, 0 ≤ k → k + p < n → u k = u (k + p)
theorem Per_B {u : Int → Int} {n p : Int} (h1 : 1 ≤ p) (h2 : p ≤ n) : Per u n p ↔ IsB u n (n - p) := by
  constructor
  · intro h
    refine ⟨by omega, by omega, fun k k0 k1 => ?_⟩
    have := h.2 k k0 (by omega)
    rw [show n - (n - p) + k = k + p by omega]; exact this
  · intro h
    refine ⟨h1, fun k k0 k1 => ?_⟩
    have := h.2.2 k k0 (by omega)
    rw [show n - (n - p) + k = k + p by omega] at this; exact this
/-- the least period goes into each period that is short enough -/
theorem Per_dvd {u : Int → Int} {n q : Int} (hq : Per u n q) (hl : ∀ r, Per u n r → q ≤ r) : ∀ (m : Nat) (p : Int), p = m → Per u n p → p + q ≤ n → ∃ k, p = q * k := by
  intro m
  induction m using Nat.strongRecOn with
  | ind m ih =>
    intro p hp h hs
    have q1 := hq.1
    have := hl p h
    by_cases e : p = q
    · exact ⟨1, by omega⟩
    · have hd : Per u n (p - q) := ⟨by omega, fun k k0 k1 => by
        by_cases hk : k + p < n
        · have a := h.2 k k0 hk
          have b := hq.2 (k + (p - q)) (by omega) (by omega)
          rw [show k + (p - q) + q = k + p by omega] at b
          rw [a, b]
        · have a := hq.2 (k - q) (by omega) (by omega)
          rw [show k - q + q = k by omega] at a
          have b := h.2 (k - q) (by omega) (by omega)
          rw [show k - q + p = k + (p - q) by omega] at b
          rw [← a, b]⟩
      obtain ⟨k, hk⟩ := ih (p - q).toNat (by omega) (p - q) (by omega) hd (by omega)
      exact ⟨k + 1, by rw [Int.mul_add, Int.mul_one, ← hk]; omega⟩
theorem half_of {n p : Int} (h0 : 1 ≤ p) (h1 : p < n) (h : n % p = 0) : p + p ≤ n := by
  obtain ⟨k, hk⟩ := Int.dvd_of_emod_eq_zero h
  have k2 : ¬ k ≤ 1 := fun z => by
    have := Int.mul_le_mul_of_nonneg_left z (show 0 ≤ p by omega)
    omega
  have := Int.mul_le_mul_of_nonneg_left (show 2 ≤ k by omega) (show 0 ≤ p by omega)
  omega
section KMP
variable {G : JG} {X : Int}
theorem c_edge {Q : Int → JM → Prop} {M : JM} {n t a e : Int} {T : ATx} {K : AKp} {P : ATx} {D : ADt} (C : CB X n M T K P D) (A : AI T K P D) (ht : 0 ≤ t ∧ t < T.1) (h0 : 0 ≤ a) (h1 : a < e) (h2 : e ≤ T.2.1 t) (h : ∀ b N, Aof X 162 M N → Mx (fun k => T.2.2 t (a + k)) (e - a) b → Q b N) : Runs G 1 0 0 [(1, X + 161), (1, X + (4 + 2 * t)), (0, a), (0, e)] M Q := by
  have W := C.1
  obtain ⟨u, hu⟩ : ∃ u : Int → Int, u = fun k => T.2.2 t (a + k) := ⟨_, rfl⟩
  rw [← hu] at h
  obtain ⟨TT, e1, e2, e3, e4, e5, e6, e7, e8⟩ := c_txt C A ht
  have tx : ∀ N, Aof X 162 M N → WSt X N ∧ N 0 (X + (4 + 2 * t)) 0 = 19 ∧ N 1000 (X + (4 + 2 * t)) 0 = X + (5 + 2 * t) ∧ N 0 (X + (5 + 2 * t)) 0 = 1 ∧ N 1 (X + (5 + 2 * t)) 0 = 240 ∧ ∀ i, 0 ≤ i → i < e - a → N 2 (X + (5 + 2 * t)) (a + i) = u i := fun N o => ⟨W.keep fun k a j _ _ hk => o k a j (by omega), by rw [o _ _ _ (by omega)]; exact e4, by rw [o _ _ _ (by omega)]; exact e2, by rw [o _ _ _ (by omega)]; exact e5, by rw [o _ _ _ (by omega)]; exact e6, fun i i0 i1 => by rw [o _ _ _ (by omega), hu]; exact e3 (a + i) (by omega) (by omega)⟩
  have a2 := A.1.2.1
  refine lp_X0_edgeOf (fun v0 v1 v2 v4 v5 v6 N => X + 161 = v0 ∧ X + (4 + 2 * t) = v1 ∧ a = v2 ∧ e - a = v4 ∧ 1 ≤ v6 ∧ v6 ≤ e - a ∧ Aof X 162 M N ∧ Mx u v6 v5 ∧ ∀ j, 1 ≤ j → j < v6 → Mx u j (N 2 (X + 162) j)) (fun _ _ _ _ _ v6 => ((1000 - v6) * 1000).toNat) (fun v0 v1 v2 v4 v5 v6 N => X + 161 = v0 ∧ X + (4 + 2 * t) = v1 ∧ a = v2 ∧ e - a = v4 ∧ 1 ≤ v6 ∧ v6 < e - a ∧ Aof X 162 M N ∧ IsB u v6 v5 ∧ (∀ c, IsB u v6 c → v5 < c → u v6 ≠ u c) ∧ ∀ j, 1 ≤ j → j < v6 + 1 → Mx u j (N 2 (X + 162) j)) (fun _ _ _ _ v5 v6 => ((1000 - v6) * 1000 - 500 + v5).toNat) ?_ ?_ _ _ _ _ M ?_
  · rintro v0 v1 v2 v4 v5 v6 N ⟨rfl, rfl, rfl, rfl, i1, i2, i3, i4, i5⟩
    obtain ⟨W1, -⟩ := tx N i3
    have b0 := i4.1.1
    have b1 := i4.1.2.1
    refine ⟨fun q => ?_, fun q => ?_⟩
    · have : v6 = e - a := by omega
      subst this
      exact h v5 N i3 i4
    · rw [w_forms_100 W1, w_fedge_t W1, w_fedge_n W1]
      refine ⟨w_forms_t W1, ⟨rfl, by omega, by omega⟩, ⟨rfl, rfl, rfl, rfl, i1, by omega, i3.set _ _, i4.1, fun c hc hb => absurd (i4.2 c hc) (by omega), fun j j0 j1 => ?_⟩, by omega⟩
      by_cases hj : j = v6
      · rw [hj, jset_s]; exact i4
      · rw [jset_j hj]; exact i5 j j0 (by omega)
  · rintro v0 v1 v2 v4 v5 v6 N ⟨rfl, rfl, rfl, rfl, i1, i2, i3, i4, i5, i6⟩
    obtain ⟨W1, t4, t2, t5, t6, t3⟩ := tx N i3
    have b0 := i4.1
    have b1 := i4.2.1
    rw [t2, t3 v6 (by omega) (by omega), t3 v5 b0 (by omega), w_forms_100 W1, w_fedge_t W1, w_fedge_n W1]
    have up : u v6 = u v5 → jR (v5 + 1) ∧ jR (v6 + 1) ∧ (X + 161 = X + 161 ∧ X + (4 + 2 * t) = X + (4 + 2 * t) ∧ a = a ∧ e - a = e - a ∧ 1 ≤ v6 + 1 ∧ v6 + 1 ≤ e - a ∧ Aof X 162 M N ∧ Mx u (v6 + 1) (v5 + 1) ∧ ∀ j, 1 ≤ j → j < v6 + 1 → Mx u j (N 2 (X + 162) j)) ∧ ((1000 - (v6 + 1)) * 1000).toNat < ((1000 - v6) * 1000 - 500 + v5).toNat := fun q => ⟨by unfold jR; omega, by unfold jR; omega, ⟨rfl, rfl, rfl, rfl, by omega, by omega, i3, Mx_step i4 q i5, i6⟩, by omega⟩
    refine ⟨fun q => ⟨t4, by unfold jR; omega, ⟨t5, by omega, by omega⟩, t4, by unfold jR; omega, ⟨t5, by omega, by omega⟩, fun e1 => ⟨by unfold jR; omega, ⟨rfl, rfl, rfl, rfl, by omega, by omega, i3, ?_, i6⟩, by omega⟩, fun e1 => up (Classical.not_not.mp e1)⟩, fun q => ⟨t4, by unfold jR; omega, ⟨t5, by omega, by omega⟩, t4, by unfold jR; omega, ⟨t5, by omega, by omega⟩, fun e1 => ⟨t4, by unfold jR; omega, ⟨t5, by omega, by omega⟩, t4, by unfold jR; omega, ⟨t5, by omega, by omega⟩, fun e2 => absurd e1 e2, fun _ => up e1⟩, fun e1 => ?_⟩⟩
    · have : v5 = 0 := by omega
      subst this
      exact Mx_zero i1 e1 i5
    · have mb := i6 v5 (by omega) (by omega)
      have z := mb.1.2.1
      rw [show min (N 2 (X + 162) v5) (v5 - 1) = N 2 (X + 162) v5 by omega]
      refine ⟨w_forms_t W1, ⟨rfl, by omega, by omega⟩, by unfold jR; omega, ⟨rfl, rfl, rfl, rfl, i1, i2, i3, IsB_trans i4 mb.1, fun c hc hb => ?_, i6⟩, by have := mb.1.1; omega⟩
      rcases Int.lt_trichotomy v5 c with g | g | g
      · exact i5 c hc g
      · rw [← g]; exact e1
      · exact absurd (mb.2 c (IsB_sub i4 hc g)) (by omega)
  · refine ⟨e4, c_hasPart TT (fun _ _ _ _ => ⟨fun _ => ⟨by unfold jR; omega, ?_⟩, fun q => absurd (by decide) q⟩) (fun q => absurd ⟨h0, by omega, by omega⟩ q)⟩
    rw [w_forms_100 W, w_fedge_t W, w_fedge_n W]
    exact ⟨w_forms_t W, ⟨rfl, by decide, by decide⟩, ⟨rfl, rfl, rfl, rfl, by omega, by omega, (Aof.refl X 162 M).set _ _, ⟨⟨by omega, by omega, fun k k0 k1 => by omega⟩, fun c hc => by have := hc.2.1; omega⟩, fun j j0 j1 => by omega⟩⟩
theorem Aof.cb {M N : JM} {n p : Int} {T : ATx} {K : AKp} {P : ATx} {D : ADt} (o : Aof X p M N) (hp : p = 162 ∨ p = 163) (C : CB X n M T K P D) (H : CH X M T) (A : AI T K P D) : FrC X M N ∧ CB X n N T K P D ∧ CH X N T ∧ N 1212 X 0 = M 1212 X 0 ∧ N 1213 X 0 = M 1213 X 0 := ⟨fun k a j h1 h2 => o k a j (by omega), C.keep A fun k a j q => o k a j (by unfold fpC fpS fpT fpK fpP fpD at q; omega), H.keep C.2.2.2.2.2.2 fun k a j q => o k a j (by unfold fpH at q; omega), o _ _ _ (by omega), o _ _ _ (by omega)⟩
theorem st_border (t i : Int) : JSt (IV X) 3072 G X 127 203 [(0, t), (0, i)] := mk_rl fun n M T K P D C H A hX => by
  by_cases hv : (0 ≤ t ∧ t < T.1) ∧ 1 ≤ i ∧ i ≤ T.2.1 t
  · obtain ⟨ht, hi⟩ := hv
    refine ⟨fun r => Mx (fun k => T.2.2 t (0 + k)) (i - 0) r, fun Q hQ => ?_, ?_⟩
    · have W := C.1
      obtain ⟨TT, e1, e2, e3, e4, e5, e6, e7, e8⟩ := c_txt C A ht
      refine rn_X11_border _ _ _ M (sg_X11_border_0 _ _ _ M ?_)
      rw [wa_1200 W]
      refine ⟨wa_t W, w_shelf_t W, c_lkT C A hX ht (fun _ => ⟨fun q => absurd q (by omega), fun _ => ⟨fun q => absurd q (by omega), fun _ => ⟨e4, fun _ => ⟨wa_t W, by rw [wa_1203 W]; exact w_forms_t W, ?_⟩, fun q => absurd (by omega) q⟩⟩⟩)⟩
      rw [wa_1203 W]
      refine c_edge C A ht (by omega) (by omega) hi.2 (fun b N o mb _ => ?_)
      obtain ⟨x1, x2, x3, x4, x5⟩ := o.cb (Or.inl rfl) C H A
      exact hQ b N mb x1 x2 x3 x4 x5
    · intro M1 Q r mr R hQ
      have W := R.1
      have wt := w_model_t W
      obtain ⟨z1, z2, z3, z4, z5⟩ := r_txt R A ht
      obtain ⟨u, hu⟩ : ∃ u : Int → Int, u = fun k => T.2.2 t (0 + k) := ⟨_, rfl⟩
      rw [← hu, Int.sub_zero] at mr
      refine lp_X12_border (fun v0 v2 v3 N => X + 218 = v0 ∧ i = v2 ∧ 0 ≤ v3 ∧ v3 < i ∧ Lk X M1 N ∧ (∀ j, 0 ≤ j → j ≤ T.2.1 t → N 2 (X + 225) j = lcp2 (T.2.1 t) (T.2.2 t) (T.2.1 t) (T.2.2 t) 0 j) ∧ ∀ c, IsB u i c → c ≤ v3) (fun _ _ v3 => v3.toNat) ?_ _ _ _ M1 ?_
      · rintro v0 v2 v3 N ⟨rfl, rfl, i1, i2, i3, i4, i5⟩
        have WN := i3.W W
        refine ⟨fun q => ?_, fun q => ?_⟩
        · have : v3 = 0 := by omega
          subst this
          have e := Mx_uniq mr ⟨⟨by omega, by omega, fun k k0 k1 => by omega⟩, i5⟩
          rw [← e]
          exact hQ N i3.FrR (i3.RI R)
        · have ge := @lcp_ge (T.2.1 t) (T.2.1 t) 0 (i - v3) v3 (T.2.2 t) (T.2.2 t) (by omega) (by omega) (by omega)
          rw [w_model_1308 WN, w_m1308_t WN, w_m1308_n WN, i4 (i - v3) (by omega) (by omega)]
          refine ⟨w_model_t WN, by unfold jR; omega, ⟨rfl, by omega, by omega⟩, fun lt => ⟨by unfold jR; omega, ⟨rfl, rfl, by omega, by omega, i3, i4, fun c hc => ?_⟩, by omega⟩, fun lt => ?_⟩
          · have := i5 c hc
            by_cases hcv : c = v3
            · exfalso
              subst hcv
              have : c ≤ lcp2 (T.2.1 t) (T.2.2 t) (T.2.1 t) (T.2.2 t) 0 (i - c) := ge.mpr (fun k k0 k1 => by
                have := hc.2.2 k k0 k1
                rw [hu] at this
                dsimp only at this
                rw [Int.zero_add (i - c + k)] at this
                exact this)
              omega
            · omega
          · have bb : IsB u i v3 := ⟨by omega, i2, fun k k0 k1 => by
              have := ge.mp (by omega) k k0 k1
              rw [hu]
              dsimp only
              rw [Int.zero_add (i - v3 + k)]; exact this⟩
            have e := Mx_uniq mr ⟨bb, i5⟩
            rw [← e]
            exact hQ N i3.FrR (i3.RI R)
      · refine ⟨wt, r_isT R A ht (fun _ => ⟨fun q => absurd q (by decide), fun _ => ⟨wt, ?_⟩⟩)⟩
        rw [w_model_1301 W, w_m1301_t W, w_m1301_n W, z1]
        refine ⟨⟨rfl, ht.1, z3⟩, r_in (fun _ _ _ => ⟨fun _ => ⟨wt, r_look R.1 R.2.1 A.1 ht ht (fun M2 lk lv _ => ⟨by unfold jR; omega, ⟨rfl, rfl, by omega, by omega, lk, fun j j0 j1 => ?_, fun c hc => by have := hc.2.1; omega⟩⟩)⟩, fun q => absurd (by decide) q⟩) (fun q => absurd hi q)⟩
        have := lv 0 j (by omega) (by omega) j0 j1
        rw [show (241 : Int) * 0 + j = j by omega] at this
        exact this
  · refine ⟨fun r => r = -2, fun Q hQ => ?_, ?_⟩
    · have hQ := hQ (-2) M rfl (FrC.refl X M) C H rfl rfl
      have W := C.1
      refine rn_X11_border _ _ _ M (sg_X11_border_0 _ _ _ M ?_)
      by_cases ht : 0 ≤ t ∧ t < T.1
      · obtain ⟨TT, e1, e2, e3, e4, e5, e6, e7, e8⟩ := c_txt C A ht
        repeat' first | rw [wa_1200 W] | (refine c_lkT C A hX ht ?_) | apply And.intro | intro _ | exact wt | exact wa_t W | exact w_shelf_t W | assumption | exact Or.inl rfl | exact Or.inr rfl | rfl | omega | (unfold jR; omega)
      · repeat' first | rw [wa_1200 W] | (refine c_lkF C A hX ht ?_) | apply And.intro | intro _ | exact wt | exact wa_t W | exact w_shelf_t W | assumption | exact Or.inl rfl | exact Or.inr rfl | rfl | omega | (unfold jR; omega)
    · rintro M1 Q r rfl R hQ
      have hQ := hQ M1 (FrR.refl X M1) R
      have W := R.1
      have wt := w_model_t W
      refine lp_X12_border (fun _ _ _ _ => False) (fun _ _ _ => 0) (fun _ _ _ _ g => g.elim) _ _ _ M1 ?_
      by_cases ht : 0 ≤ t ∧ t < T.1
      · obtain ⟨z1, z2, z3, z4, z5⟩ := r_txt R A ht
        repeat' first | rw [wa_1200 W] | (refine r_isT R A ht ?_) | (refine r_in ?_ ?_) | (rw [w_model_1301 W]) | (rw [w_m1301_n W]) | exact w_m1301_t W | (rw [z1]) | apply And.intro | intro _ | exact wt | exact wa_t W | exact w_shelf_t W | assumption | exact Or.inl rfl | exact Or.inr rfl | rfl | omega | (unfold jR; omega)
      · repeat' first | rw [wa_1200 W] | (refine r_isF R A ht ?_) | apply And.intro | intro _ | exact wt | exact wa_t W | exact w_shelf_t W | assumption | exact Or.inl rfl | exact Or.inr rfl | rfl | omega | (unfold jR; omega)
/-- the reference's periodOf, with the table of all lcp's -/
theorem r_periodOf {M : JM} {Q : Int → JM → Prop} {a e L : Int} {f : Int → Int} (W : WSt X M) (hL : 0 ≤ L ∧ L ≤ 240) (h0 : 0 ≤ a) (h1 : a < e) (h2 : e ≤ L) (tb : ∀ i j, 0 ≤ i → i ≤ L → 0 ≤ j → j ≤ L → M 2 (X + 225) (241 * i + j) = lcp2 L f L f i j) (h : ∀ b, Mx (fun k => f (a + k)) (e - a) b → Q (e - a - b) M) : Runs G 224 0 0 [(1, X + 218), (0, a), (0, e)] M Q := by
  obtain ⟨u, hu⟩ : ∃ u : Int → Int, u = fun k => f (a + k) := ⟨_, rfl⟩
  rw [← hu] at h
  refine lp_X12_periodOf (fun v0 v1 v2 v3 N => M = N ∧ X + 218 = v0 ∧ a = v1 ∧ e = v2 ∧ 1 ≤ v3 ∧ v3 ≤ e - a ∧ ∀ c, IsB u (e - a) c → c ≤ e - a - v3) (fun _ _ _ v3 => (1000 - v3).toNat) ?_ _ _ _ M ⟨rfl, rfl, rfl, rfl, by omega, by omega, fun c hc => by have := hc.2.1; omega⟩
  rintro v0 v1 v2 v3 N ⟨rfl, rfl, rfl, rfl, i1, i2, i3⟩
  refine ⟨by unfold jR; omega, fun q => ?_, fun q => ?_⟩
  · have hv : v3 = e - a := by omega
    have := h 0 ⟨⟨by omega, by omega, fun k k0 k1 => by omega⟩, fun c hc => by have := i3 c hc; omega⟩
    rw [show e - a - 0 = v3 by omega] at this
    exact this
  · have ge := @lcp_ge L L a (a + v3) (e - a - v3) f f (by omega) (by omega) (by omega)
    have tv := tb a (a + v3) h0 (by omega) (by omega) (by omega)
    rw [show 241 * a + (a + v3) = 241 * a + a + v3 by omega] at tv
    rw [w_model_1308 W, w_m1308_t W, w_m1308_n W, tv]
    refine ⟨w_model_t W, by unfold jR; omega, by unfold jR; omega, by unfold jR; omega, ⟨rfl, by omega, by omega⟩, by unfold jR; omega, by unfold jR; omega, fun le => ?_, fun le => ⟨by unfold jR; omega, ⟨rfl, rfl, rfl, rfl, by omega, by omega, fun c hc => ?_⟩, by omega⟩⟩
    · have := h (e - a - v3) ⟨⟨by omega, by omega, fun k k0 k1 => by
        have := ge.mp le k k0 k1
        rw [hu]
        dsimp only
        rw [show a + (e - a - (e - a - v3) + k) = a + v3 + k by omega]; exact this⟩, i3⟩
      rw [show e - a - (e - a - v3) = v3 by omega] at this
      exact this
    · have := i3 c hc
      by_cases hcv : c = e - a - v3
      · exfalso
        apply le
        refine ge.mpr (fun k k0 k1 => ?_)
        have := hc.2.2 k k0 (by omega)
        rw [hu] at this
        dsimp only at this
        rw [show a + (e - a - c + k) = a + v3 + k by omega] at this
        exact this
      · omega
theorem st_period (t a e : Int) : JSt (IV X) 3072 G X 137 225 [(0, t), (0, a), (0, e)] := mk_rl fun n M T K P D C H A hX => by
  by_cases hv : (0 ≤ t ∧ t < T.1) ∧ 0 ≤ a ∧ a < e ∧ e ≤ T.2.1 t
  · obtain ⟨ht, h0, h1, h2⟩ := hv
    refine ⟨fun r => ∃ b, Mx (fun k => T.2.2 t (a + k)) (e - a) b ∧ r = e - a - b, fun Q hQ => ?_, ?_⟩
    · have W := C.1
      obtain ⟨TT, e1, e2, e3, e4, e5, e6, e7, e8⟩ := c_txt C A ht
      refine rn_X11_period _ _ _ _ M (sg_X11_period_0 _ _ _ _ M ?_)
      rw [wa_1200 W]
      refine ⟨wa_t W, w_shelf_t W, c_lkT C A hX ht (fun _ => ⟨fun q => absurd q (by omega), fun _ => ⟨e4, c_hasPart TT (fun _ _ _ _ => ⟨fun q => absurd q (by decide), fun _ => ⟨fun _ => ⟨by unfold jR; omega, wa_t W, by rw [wa_1203 W]; exact w_forms_t W, ?_⟩, fun q => absurd (by omega) q⟩⟩) (fun q => absurd ⟨h0, by omega, by omega⟩ q)⟩⟩)⟩
      rw [wa_1203 W]
      refine c_edge C A ht h0 h1 h2 (fun b N o mb _ => ?_)
      obtain ⟨x1, x2, x3, x4, x5⟩ := o.cb (Or.inl rfl) C H A
      have := mb.1.1
      have := mb.1.2.1
      exact ⟨by unfold jR; omega, hQ _ N ⟨b, mb, rfl⟩ x1 x2 x3 x4 x5⟩
    · rintro M1 Q r ⟨b, mb, rfl⟩ R hQ
      have W := R.1
      have wt := w_model_t W
      obtain ⟨z1, z2, z3, z4, z5⟩ := r_txt R A ht
      refine rn_X12_period _ _ _ _ M1 (sg_X12_period_0 _ _ _ _ M1 ⟨wt, r_isPart R.1 R.2.1 A.1 (fun _ _ _ _ _ _ => ⟨fun q => absurd q (by decide), fun _ => ⟨fun _ => ⟨wt, r_look R.1 R.2.1 A.1 ht ht (fun M2 lk lv _ => ⟨w_model_t (lk.W W), r_periodOf (lk.W W) ⟨z4, z5⟩ h0 h1 h2 lv (fun b' mb' _ => ?_)⟩)⟩, fun q => absurd (by omega) q⟩⟩) (fun q => absurd ⟨ht.1, ht.2, h0, by omega, h2⟩ q)⟩)
      rw [← Mx_uniq mb mb']
      exact hQ M2 lk.FrR (lk.RI R)
  · refine ⟨fun r => r = -2, fun Q hQ => ?_, ?_⟩
    · have hQ := hQ (-2) M rfl (FrC.refl X M) C H rfl rfl
      have W := C.1
      refine rn_X11_period _ _ _ _ M (sg_X11_period_0 _ _ _ _ M ?_)
      by_cases ht : 0 ≤ t ∧ t < T.1
      · obtain ⟨TT, e1, e2, e3, e4, e5, e6, e7, e8⟩ := c_txt C A ht
        repeat' first | rw [wa_1200 W] | (refine c_lkT C A hX ht ?_) | (refine c_hasPart TT ?_ ?_) | apply And.intro | intro _ | exact wt | exact wa_t W | exact w_shelf_t W | assumption | exact Or.inl rfl | exact Or.inr rfl | rfl | omega | (unfold jR; omega)
      · repeat' first | rw [wa_1200 W] | (refine c_lkF C A hX ht ?_) | apply And.intro | intro _ | exact wt | exact wa_t W | exact w_shelf_t W | assumption | exact Or.inl rfl | exact Or.inr rfl | rfl | omega | (unfold jR; omega)
    · rintro M1 Q r rfl R hQ
      have hQ := hQ M1 (FrR.refl X M1) R
      have W := R.1
      have wt := w_model_t W
      refine rn_X12_period _ _ _ _ M1 (sg_X12_period_0 _ _ _ _ M1 ?_)
      repeat' first | rw [wa_1200 W] | (refine r_isPart R.1 R.2.1 A.1 ?_ ?_) | apply And.intro | intro _ | exact wt | exact wa_t W | exact w_shelf_t W | assumption | exact Or.inl rfl | exact Or.inr rfl | rfl | omega | (unfold jR; omega)
theorem st_root (t : Int) : JSt (IV X) 3072 G X 138 226 [(0, t)] := mk_rl fun n M T K P D C H A hX => by
  by_cases ht : 0 ≤ t ∧ t < T.1
  · obtain ⟨L, hL⟩ : ∃ L, L = T.2.1 t := ⟨_, rfl⟩
    obtain ⟨f, hf⟩ : ∃ f, f = T.2.2 t := ⟨_, rfl⟩
    refine ⟨fun r => (L = 0 ∧ r = 0) ∨ (1 ≤ L ∧ ∃ b, Mx f L b ∧ r = if L % (L - b) = 0 then L - b else L), fun Q hQ => ?_, ?_⟩
    · have W := C.1
      obtain ⟨TT, e1, e2, e3, e4, e5, e6, e7, e8⟩ := c_txt C A ht
      rw [← hL] at e1 e7 e8
      refine rn_X11_root _ _ M (sg_X11_root_0 _ _ M ?_)
      rw [wa_1200 W]
      refine ⟨wa_t W, w_shelf_t W, c_lkT C A hX ht (fun _ => ⟨fun q => absurd q (by omega), fun _ => ⟨e4, ?_⟩⟩)⟩
      rw [e1]
      refine ⟨fun q => ⟨e4, wa_t W, e4, by rw [wa_1203 W]; exact w_forms_t W, ?_⟩, fun q => hQ 0 M (Or.inl ⟨by omega, rfl⟩) (FrC.refl X M) C H rfl rfl⟩
      rw [wa_1203 W]
      refine c_edge C A ht (by omega) (by omega) (by omega) (fun b N o mb _ => ?_)
      have mb : Mx f L b := by
        have z : (fun k => T.2.2 t (0 + k)) = f := by rw [hf]; funext k; rw [Int.zero_add]
        rw [z, Int.sub_zero] at mb; exact mb
      obtain ⟨x1, x2, x3, x4, x5⟩ := o.cb (Or.inl rfl) C H A
      have b0 := mb.1.1
      have b1 := mb.1.2.1
      have o1 : N 2901 (X + (4 + 2 * t)) 0 = L := by rw [o _ _ _ (by omega)]; exact e1
      have o2 : N 0 (X + (4 + 2 * t)) 0 = 19 := by rw [o _ _ _ (by omega)]; exact e4
      rw [o1]
      exact ⟨by unfold jR; omega, fun g => absurd g (by omega), fun _ => ⟨o2, ⟨by omega, by omega⟩, fun g => ⟨o2, hQ L N (Or.inr ⟨by omega, b, mb, (if_neg g).symm⟩) x1 x2 x3 x4 x5⟩, fun g => hQ (L - b) N (Or.inr ⟨by omega, b, mb, (if_pos (Classical.not_not.mp g)).symm⟩) x1 x2 x3 x4 x5⟩⟩
    · intro M1 Q r pr R hQ
      have W := R.1
      have wt := w_model_t W
      obtain ⟨z1, z2, z3, z4, z5⟩ := r_txt R A ht
      rw [← hL] at z1 z4 z5
      refine lp_X12_root (fun v0 v2 v3 N => X + 218 = v0 ∧ L = v2 ∧ 1 ≤ v3 ∧ v3 ≤ 300 ∧ Lk X M1 N ∧ (∀ j, 0 ≤ j → j ≤ L → N 2 (X + 225) j = lcp2 L f L f 0 j) ∧ ∀ p, 1 ≤ p → p < v3 → p < L → ¬ (L % p = 0 ∧ Per f L p)) (fun _ _ v3 => (1000 - v3).toNat) ?_ _ _ M1 ?_
      · rintro v0 v2 v3 N ⟨rfl, rfl, i1, i2, i3, i4, i5⟩
        have WN := i3.W W
        have step : (v3 < L → ¬ (L % v3 = 0 ∧ Per f L v3)) → ∀ p, 1 ≤ p → p < v3 + 1 → p < L → ¬ (L % p = 0 ∧ Per f L p) := fun h p h0 h1 h2 => by
          by_cases hp : p = v3
          · rw [hp] at h2 ⊢; exact h h2
          · exact i5 p h0 (by omega) h2
        refine ⟨fun q => ?_, fun q => ⟨⟨by omega, by omega⟩, fun g => ⟨by unfold jR; omega, ⟨rfl, rfl, by omega, by omega, i3, i4, step (fun _ z => g z.1)⟩, by omega⟩, fun g => ?_⟩⟩
        · have fin := hQ N i3.FrR (i3.RI R)
          have e : r = L := by
            rcases pr with h | h
            · omega
            · obtain ⟨h1, b, mb, e⟩ := h
              have b0 := mb.1.1
              have b1 := mb.1.2.1
              by_cases g : L % (L - b) = 0
              · rw [if_pos g] at e
                by_cases hb : b = 0
                · omega
                · exact absurd ⟨g, (Per_B (by omega) (by omega)).mpr (by rw [show L - (L - b) = b by omega]; exact mb.1)⟩ (i5 (L - b) (by omega) (by omega) (by omega))
              · rw [if_neg g] at e; exact e
          rw [e] at fin; exact fin
        · have g := Classical.not_not.mp g
          have ge := @lcp_ge L L 0 v3 (L - v3) f f (by omega) (by omega) (by omega)
          have ub := @lcp2_r L L 0 v3 f f (by omega) (by omega)
          have pi : lcp2 L f L f 0 v3 = L - v3 ↔ Per f L v3 := by
            constructor
            · intro e
              refine ⟨i1, fun k k0 k1 => ?_⟩
              have := ge.mp (by omega) k k0 (by omega)
              rw [Int.zero_add, show v3 + k = k + v3 by omega] at this
              exact this
            · intro h
              have := ge.mpr (fun k k0 k1 => by rw [Int.zero_add, show v3 + k = k + v3 by omega]; exact h.2 k k0 (by omega))
              omega
          rw [w_model_1308 WN, w_m1308_t WN, w_m1308_n WN, i4 v3 (by omega) (by omega)]
          refine ⟨w_model_t WN, ⟨rfl, by omega, by omega⟩, by unfold jR; omega, fun e => ⟨by unfold jR; omega, ⟨rfl, rfl, by omega, by omega, i3, i4, step (fun _ z => e (pi.mpr z.2))⟩, by omega⟩, fun e => ?_⟩
          have pv := pi.mp (Classical.not_not.mp e)
          have fin := hQ N i3.FrR (i3.RI R)
          have hh := half_of i1 (by omega) g
          have e : r = v3 := by
            rcases pr with h | h
            · omega
            · obtain ⟨h1, b, mb, e⟩ := h
              have b0 := mb.1.1
              have b1 := mb.1.2.1
              have pq : Per f L (L - b) := (Per_B (by omega) (by omega)).mpr (by rw [show L - (L - b) = b by omega]; exact mb.1)
              have lq : ∀ p, Per f L p → L - b ≤ p := fun p hp => by
                by_cases hpl : p ≤ L
                · have := mb.2 _ ((Per_B hp.1 hpl).mp hp); omega
                · omega
              have l1 := lq v3 pv
              obtain ⟨k, hk⟩ := Per_dvd pq lq v3.toNat v3 (by omega) pv (by omega)
              have dq : L % (L - b) = 0 := by
                obtain ⟨k2, hk2⟩ := Int.dvd_of_emod_eq_zero g
                exact Int.emod_eq_zero_of_dvd ⟨k * k2, by rw [← Int.mul_assoc, ← hk]; exact hk2⟩
              rw [if_pos dq] at e
              by_cases hlt : L - b < v3
              · exact absurd ⟨dq, pq⟩ (i5 (L - b) (by omega) hlt (by omega))
              · omega
          rw [e] at fin; exact fin
      · refine ⟨wt, r_isT R A ht (fun _ => ⟨fun _ => ⟨wt, ?_⟩, fun q => absurd (by decide) q⟩)⟩
        rw [w_model_1301 W, w_m1301_t W, w_m1301_n W, z1]
        refine ⟨⟨rfl, ht.1, z3⟩, wt, r_look R.1 R.2.1 A.1 ht ht (fun M2 lk lv _ => ⟨rfl, rfl, by omega, by omega, lk, fun j j0 j1 => ?_, fun p h0 h1 => by omega⟩)⟩
        have := lv 0 j (by omega) (by omega) j0 (by omega)
        rw [show (241 : Int) * 0 + j = j by omega] at this
        rw [hL, hf]; exact this
  · refine ⟨fun r => r = -2, fun Q hQ => ?_, ?_⟩
    · have hQ := hQ (-2) M rfl (FrC.refl X M) C H rfl rfl
      have W := C.1
      refine rn_X11_root _ _ M (sg_X11_root_0 _ _ M ?_)
      repeat' first | rw [wa_1200 W] | (refine c_lkF C A hX ht ?_) | apply And.intro | intro _ | exact wt | exact wa_t W | exact w_shelf_t W | assumption | exact Or.inl rfl | exact Or.inr rfl | rfl | omega | (unfold jR; omega)
    · rintro M1 Q r rfl R hQ
      have hQ := hQ M1 (FrR.refl X M1) R
      have W := R.1
      have wt := w_model_t W
      refine lp_X12_root (fun _ _ _ _ => False) (fun _ _ _ => 0) (fun _ _ _ _ g => g.elim) _ _ M1 ?_
      repeat' first | rw [wa_1200 W] | (refine r_isF R A ht ?_) | apply And.intro | intro _ | exact wt | exact wa_t W | exact w_shelf_t W | assumption | exact Or.inl rfl | exact Or.inr rfl | rfl | omega | (unfold jR; omega)
end KMP
