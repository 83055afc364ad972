/-! sums over permutations; least ones of classes -/
theorem smI_sub {g h : Int → Int} (n : Int) : smI (fun i => g i - h i) n = smI g n - smI h n := by
  have a := @smI_add (fun i => g i - h i) h n
  have b : smI (fun i => g i - h i + h i) n = smI g n := smI_c fun i _ _ => by omega
  omega
theorem smI_zz : ∀ k : Nat, smI (fun _ => 0) (k : Int) = 0
  | 0 => smI_z (by omega)
  | k + 1 => by rw [show ((k + 1 : Nat) : Int) = (k : Int) + 1 by omega, smI_s (by omega), smI_zz k]; rfl
theorem smI_0I (n : Int) : smI (fun _ => 0) n = 0 := by
  rcases Int.le_total n 0 with c | c
  · exact smI_z c
  · have := smI_zz n.toNat
    rw [show (n.toNat : Int) = n by omega] at this
    exact this
theorem sm_swap {g : Int → Int → Int} {N : Int} : ∀ n : Nat, smI (fun i => smI (g i) N) (n : Int) = smI (fun l => smI (fun i => g i l) (n : Int)) N
  | 0 => by
    rw [smI_z (n := ((0 : Nat) : Int)) (by omega)]
    have : smI (fun l => smI (fun i => g i l) ((0 : Nat) : Int)) N = smI (fun _ => 0) N := smI_c fun l _ _ => smI_z (by omega)
    rw [this, smI_0I]
  | n + 1 => by
    have e : ((n + 1 : Nat) : Int) = (n : Int) + 1 := by omega
    rw [e, smI_s (by omega), sm_swap n, ← smI_add]
    exact smI_c fun l _ _ => (smI_s (by omega)).symm
theorem sm_swapI {g : Int → Int → Int} {n N : Int} (h : 0 ≤ n) : smI (fun i => smI (g i) N) n = smI (fun l => smI (fun i => g i l) n) N := by
  have := @sm_swap g N n.toNat
  rw [show (n.toNat : Int) = n by omega] at this
  exact this
theorem sm_one {g : Int → Int} {y : Int} (y0 : 0 ≤ y) : ∀ n : Nat, smI (fun r => if y = r then g r else 0) (n : Int) = if y < n then g y else 0
  | 0 => by rw [smI_z (by omega), if_neg (by omega)]
  | n + 1 => by
    rw [show ((n + 1 : Nat) : Int) = (n : Int) + 1 by omega, smI_s (by omega), sm_one y0 n]
    by_cases c : y = n
    · rw [if_neg (by omega), if_pos c, if_pos (by omega), c]; omega
    · rw [if_neg c]
      by_cases d : y < n
      · rw [if_pos d, if_pos (by omega)]; omega
      · rw [if_neg d, if_neg (by omega)]; omega
theorem sm_oneI {g : Int → Int} {y n : Int} (y0 : 0 ≤ y) (y1 : y < n) : smI (fun r => if y = r then g r else 0) n = g y := by
  have := sm_one (g := g) y0 n.toNat
  rw [show (n.toNat : Int) = n by omega, if_pos y1] at this
  exact this
theorem Prm_sum {n : Int} {p g : Int → Int} (hn : 0 ≤ n) (hp : Prm n p) : smI (fun i => g (p i)) n = smI g n := by
  have a : smI (fun i => g (p i)) n = smI (fun i => smI (fun r => if p i = r then g r else 0) n) n := smI_c fun i i0 i1 => (sm_oneI (hp.1 i i0 i1).1 (hp.1 i i0 i1).2).symm
  rw [a, sm_swapI hn]
  refine smI_c fun r r0 r1 => ?_
  obtain ⟨x, x0, x1, x2⟩ := hp.2.2 r r0 r1
  have b : smI (fun i => if p i = r then g r else 0) n = smI (fun i => if x = i then g r else 0) n := smI_c fun i i0 i1 => by
    by_cases c : x = i
    · rw [if_pos c, if_pos (by rw [← c]; exact x2)]
    · rw [if_neg c, if_neg (fun z => c (hp.2.1 x i x0 x1 i0 i1 (by omega)))]
  rw [b]
  exact sm_oneI (g := fun _ => g r) x0 x1
theorem Prm_cntp {n : Int} {p : Int → Int} {q : Int → Prop} (hn : 0 ≤ n) (hp : Prm n p) : cntI (fun i => q (p i)) n = cntI q n := Prm_sum (g := fun r => b01 (q r)) hn hp
theorem cnt_below {a : Int} (a0 : 0 ≤ a) : ∀ N : Nat, cntI (fun l => l < a) (N : Int) = if a ≤ N then a else N
  | 0 => by
    rw [cntI_z (by omega)]
    by_cases c : a ≤ ((0 : Nat) : Int)
    · rw [if_pos c]; omega
    · rw [if_neg c]; rfl
  | N + 1 => by
    rw [show ((N + 1 : Nat) : Int) = (N : Int) + 1 by omega]
    by_cases c : (N : Int) < a
    · rw [cntI_t (p := fun l => l < a) (by omega) c, cnt_below a0 N]
      by_cases d : a ≤ N
      · omega
      · rw [if_neg d]
        by_cases e : a ≤ (N : Int) + 1
        · rw [if_pos e]; omega
        · rw [if_neg e]
    · rw [cntI_f (p := fun l => l < a) (by omega) c, cnt_below a0 N, if_pos (by omega), if_pos (by omega)]
theorem cnt_belowI {a N : Int} (a0 : 0 ≤ a) (a1 : a ≤ N) : cntI (fun l => l < a) N = a := by
  have := cnt_below a0 N.toNat
  rw [show (N.toNat : Int) = N by omega, if_pos a1] at this
  exact this
theorem cnt_not {p : Int → Prop} : ∀ n : Nat, cntI p (n : Int) + cntI (fun i => ¬ p i) (n : Int) = n
  | 0 => by rw [cntI_z (by omega), cntI_z (by omega)]; rfl
  | n + 1 => by
    have a := cnt_not (p := p) n
    rw [show ((n + 1 : Nat) : Int) = (n : Int) + 1 by omega]
    rcases Classical.em (p n) with c | c
    · rw [cntI_t (by omega) c, cntI_f (p := fun i => ¬ p i) (by omega) (fun z => z c)]; omega
    · rw [cntI_f (by omega) c, cntI_t (p := fun i => ¬ p i) (by omega) c]; omega
theorem cnt_is {r : Int} (r0 : 0 ≤ r) {n : Int} (r1 : r < n) : cntI (fun i => i = r) n = 1 := by
  have a : cntI (fun i => i = r) n = smI (fun i => if r = i then 1 else 0) n := by
    unfold cntI
    refine smI_c fun i _ _ => ?_
    by_cases c : i = r
    · rw [b01_t c, if_pos c.symm]
    · rw [b01_f c, if_neg (fun z => c z.symm)]
  rw [a]
  exact sm_oneI (g := fun _ => 1) r0 r1
theorem min_ex {q : Int → Int} {S : Int → Prop} : ∀ m : Nat, (∃ j : Int, 0 ≤ j ∧ j < m ∧ S j) → ∃ i : Int, 0 ≤ i ∧ i < m ∧ S i ∧ ∀ j : Int, 0 ≤ j → j < m → S j → q i ≤ q j
  | 0, ⟨j, h0, h1, _⟩ => by omega
  | m + 1, ⟨j, h0, h1, h2⟩ => by
    rcases Classical.em (∃ j : Int, 0 ≤ j ∧ j < m ∧ S j) with c | c
    · obtain ⟨i, i0, i1, i2, i3⟩ := min_ex (q := q) m c
      rcases Classical.em (S m ∧ q m < q i) with d | d
      · refine ⟨m, by omega, by omega, d.1, fun k k0 k1 k2 => ?_⟩
        by_cases e : k = m
        · rw [e]; omega
        · have := i3 k k0 (by omega) k2; omega
      · refine ⟨i, i0, by omega, i2, fun k k0 k1 k2 => ?_⟩
        by_cases e : k = m
        · subst e
          rcases Int.lt_or_le (q m) (q i) with f | f
          · exact absurd ⟨k2, f⟩ d
          · exact f
        · exact i3 k k0 (by omega) k2
    · have jm : j = m := by
        rcases Classical.em (j = m) with e | e
        · exact e
        · exact absurd ⟨j, h0, by omega, h2⟩ c
      refine ⟨j, h0, h1, h2, fun k k0 k1 k2 => ?_⟩
      by_cases e : k = m
      · rw [e, jm]; omega
      · exact absurd ⟨k, k0, by omega, k2⟩ c
/-- as many classes by one order as by another -/
theorem min_cnt {q : Int → Int} {E : Int → Int → Prop} {N : Int} (hr : ∀ i, E i i) (hs : ∀ i j, E i j → E j i) (ht : ∀ i j k, E i j → E j k → E i k) (hq : ∀ i j, 0 ≤ i → i < N → 0 ≤ j → j < N → q i = q j → i = j) : ∀ m : Nat, (m : Int) ≤ N → cntI (fun i => ∀ j : Int, 0 ≤ j → j < m → E i j → q i ≤ q j) (m : Int) = cntI (fun i => ∀ j : Int, 0 ≤ j → j < i → ¬ E i j) (m : Int)
  | 0, _ => by rw [cntI_z (by omega), cntI_z (by omega)]
  | m + 1, hm => by
    have ih := min_cnt hr hs ht hq m (by omega)
    have e : ((m + 1 : Nat) : Int) = (m : Int) + 1 := by omega
    rw [e] at hm ⊢
    rcases Classical.em (∃ j : Int, 0 ≤ j ∧ j < m ∧ E m j) with c | c
    · obtain ⟨x, x0, x1, x2, x3⟩ := min_ex (q := q) (S := fun j => E m j) m c
      rw [cntI_f (p := fun i => ∀ j : Int, 0 ≤ j → j < i → ¬ E i j) (by omega) (fun z => by obtain ⟨j, j0, j1, j2⟩ := c; exact z j j0 j1 j2), ← ih]
      have ne : q x ≠ q m := fun z => by have := hq x m x0 (by omega) (by omega) (by omega) z; omega
      rcases Int.lt_or_le (q x) (q m) with d | d
      · rw [cntI_f (p := fun i => ∀ j : Int, 0 ≤ j → j < (m : Int) + 1 → E i j → q i ≤ q j) (by omega) (fun z => by have := z x x0 (by omega) x2; omega)]
        refine cntI_c fun i i0 i1 => ⟨fun z j j0 j1 => z j j0 (by omega), fun z j j0 j1 j2 => ?_⟩
        by_cases k : j = m
        · subst k
          have := z x x0 x1 (ht _ _ _ j2 x2)
          omega
        · exact z j j0 (by omega) j2
      · rw [cntI_t (p := fun i => ∀ j : Int, 0 ≤ j → j < (m : Int) + 1 → E i j → q i ≤ q j) (by omega) (fun j j0 j1 j2 => by
          by_cases k : j = m
          · rw [k]; omega
          · have := x3 j j0 (by omega) j2; omega)]
        have a : cntI (fun i => (∀ j : Int, 0 ≤ j → j < (m : Int) + 1 → E i j → q i ≤ q j) ∨ i = x) (m : Int) = cntI (fun i => ∀ j : Int, 0 ≤ j → j < (m : Int) + 1 → E i j → q i ≤ q j) (m : Int) + cntI (fun i => i = x) (m : Int) := cntI_split _ (fun i z => by
          have z2 := z.2
          subst z2
          have := z.1 m (by omega) (by omega) (hs _ _ x2)
          omega)
        rw [cnt_is x0 x1] at a
        rw [← a]
        refine cntI_c fun i i0 i1 => ⟨fun z j j0 j1 j2 => ?_, fun z => ?_⟩
        · rcases z with z | z
          · exact z j j0 (by omega) j2
          · subst z
            exact x3 j j0 j1 (ht _ _ _ x2 j2)
        · rcases Classical.em (E i m) with k | k
          · right
            have k1 := z x x0 x1 (ht _ _ _ k x2)
            have k2 := x3 i i0 i1 (hs _ _ k)
            exact hq i x i0 (by omega) x0 (by omega) (by omega)
          · left
            intro j j0 j1 j2
            by_cases w : j = m
            · subst w; exact absurd j2 k
            · exact z j j0 (by omega) j2
    · have nn : ∀ j : Int, 0 ≤ j → j < m → ¬ E m j := fun j j0 j1 z => c ⟨j, j0, j1, z⟩
      rw [cntI_t (p := fun i => ∀ j : Int, 0 ≤ j → j < i → ¬ E i j) (by omega) nn, ← ih, cntI_t (p := fun i => ∀ j : Int, 0 ≤ j → j < (m : Int) + 1 → E i j → q i ≤ q j) (by omega) (fun j j0 j1 j2 => by
        by_cases k : j = m
        · rw [k]; omega
        · exact absurd j2 (nn j j0 (by omega)))]
      have a : cntI (fun i => ∀ j : Int, 0 ≤ j → j < (m : Int) + 1 → E i j → q i ≤ q j) (m : Int) = cntI (fun i => ∀ j : Int, 0 ≤ j → j < (m : Int) → E i j → q i ≤ q j) (m : Int) := cntI_c fun i i0 i1 => ⟨fun z j j0 j1 => z j j0 (by omega), fun z j j0 j1 j2 => by
        by_cases k : j = m
        · subst k; exact absurd (hs _ _ j2) (nn i i0 i1)
        · exact z j j0 (by omega) j2⟩
      rw [a]
theorem lcp_tr {n i j k l : Int} {f : Int → Int} (l0 : 0 ≤ l) (h1 : l < lcp2 n f n f i j) (h2 : l < lcp2 n f n f j k) : l < lcp2 n f n f i k := by
  obtain ⟨x1, x2, x3, x4⟩ := @lcp2_is n n f f i j
  obtain ⟨y1, y2, y3, y4⟩ := @lcp2_is n n f f j k
  obtain ⟨z1, z2, z3, z4⟩ := @lcp2_is n n f f i k
  rcases Int.lt_or_le l (lcp2 n f n f i k) with c | c
  · exact c
  · exfalso
    exact z4 ⟨by omega, by omega, (x3 _ z1 (by omega)).trans (y3 _ z1 (by omega))⟩
/-- what is shared with one ahead, summed: by places as by the order -/
theorem share_sum {n : Int} {f a b : Int → Int} (hn : 0 ≤ n) (hf : ∀ k, 0 ≤ k → k < n → 0 ≤ f k) (ha : ∀ i, 0 ≤ i → i < n → (0 ≤ a i ∧ a i ≤ n) ∧ ∀ l, 0 ≤ l → (l < a i ↔ ∃ j, 0 ≤ j ∧ j < i ∧ l < lcp2 n f n f i j)) (hb : ∀ i, 0 ≤ i → i < n → (0 ≤ b i ∧ b i ≤ n) ∧ ∀ l, 0 ≤ l → (l < b i ↔ ∃ j, 0 ≤ j ∧ j < n ∧ rk n f j < rk n f i ∧ l < lcp2 n f n f i j)) : smI a n = smI b n := by
  have up : ∀ c : Int → Int, (∀ i, 0 ≤ i → i < n → 0 ≤ c i ∧ c i ≤ n) → smI c n = smI (fun l => cntI (fun i => l < c i) n) n := fun c hc => by
    have e : smI c n = smI (fun i => cntI (fun l => l < c i) n) n := smI_c fun i i0 i1 => (cnt_belowI (hc i i0 i1).1 (hc i i0 i1).2).symm
    rw [e]
    exact sm_swapI hn
  rw [up a (fun i i0 i1 => (ha i i0 i1).1), up b (fun i i0 i1 => (hb i i0 i1).1)]
  refine smI_c fun l l0 l1 => ?_
  have m := @min_cnt (rk n f) (fun i j => i = j ∨ l < lcp2 n f n f i j) n (fun i => Or.inl rfl) (fun i j z => z.imp Eq.symm (fun y => by rw [lcp_sym]; exact y)) (fun i j k z y => by
    rcases z with z | z
    · rw [z]; exact y
    · rcases y with y | y
      · rw [← y]; exact Or.inr z
      · exact Or.inr (lcp_tr l0 z y)) (fun i j i0 i1 j0 j1 e => rk_inj hf i0 i1 j0 j1 e) n.toNat (by omega)
  have ca := @cnt_not (fun i => l < a i) n.toNat
  have cb := @cnt_not (fun i => l < b i) n.toNat
  rw [show (n.toNat : Int) = n by omega] at m ca cb
  have ea : cntI (fun i => ¬ l < a i) n = cntI (fun i => ∀ j : Int, 0 ≤ j → j < i → ¬ (i = j ∨ l < lcp2 n f n f i j)) n := cntI_c fun i i0 i1 => by
    rw [(ha i i0 i1).2 l l0]
    exact ⟨fun z j j0 j1 y => y.elim (fun w => by omega) (fun w => z ⟨j, j0, j1, w⟩), fun z ⟨j, j0, j1, j2⟩ => z j j0 j1 (Or.inr j2)⟩
  have eb : cntI (fun i => ¬ l < b i) n = cntI (fun i => ∀ j : Int, 0 ≤ j → j < n → (i = j ∨ l < lcp2 n f n f i j) → rk n f i ≤ rk n f j) n := cntI_c fun i i0 i1 => by
    rw [(hb i i0 i1).2 l l0]
    refine ⟨fun z j j0 j1 y => ?_, fun z ⟨j, j0, j1, j2, j3⟩ => by have := z j j0 j1 (Or.inr j3); omega⟩
    rcases y with y | y
    · rw [y]; omega
    · rcases Int.lt_or_le (rk n f j) (rk n f i) with c | c
      · exact absurd ⟨j, j0, j1, c, y⟩ z
      · exact c
  omega
