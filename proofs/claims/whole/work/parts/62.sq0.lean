/-! squeezing by copies, on both sides -/
noncomputable def dsq (D : ADt) (l : List TR) (w : Int) : ADt := (fun j => if j = 5 then l else D.1 j, w)
theorem lcp2_sym {n i j : Int} {f : Int → Int} : lcp2 n f n f i j = lcp2 n f n f j i := by
  apply lcp2_eq
  obtain ⟨a1, a2, a3, a4⟩ := @lcp2_is n n f f j i
  exact ⟨a1, a2.imp id (fun z => ⟨z.2, z.1⟩), fun k k0 k1 => (a3 k k0 k1).symm, fun z => a4 ⟨z.2.1, z.1, z.2.2.symm⟩⟩
def isCp (n : Int) (f : Int → Int) (i b j : Int) : Prop := 2 ≤ b ∧ 0 ≤ j ∧ j < i ∧ lcp2 n f n f i j = b ∧ ∀ y, 0 ≤ y → y < i → lcp2 n f n f i y ≤ b ∧ (y < j → lcp2 n f n f i y < b)
def noCp (n : Int) (f : Int → Int) (i : Int) : Prop := ∀ y, 0 ≤ y → y < i → lcp2 n f n f i y ≤ 1
def Sq0 (n : Int) (f : Int → Int) : List TR → Int → Prop
  | [], i => i = n
  | r :: l, i => i < n ∧ ((r = (0, f i, 1) ∧ noCp n f i ∧ Sq0 n f l (i + 1)) ∨ (∃ j b, r = (1, j, b) ∧ isCp n f i b j ∧ Sq0 n f l (i + b)))
theorem isCp_uniq {n i b j b' j' : Int} {f : Int → Int} (h : isCp n f i b j) (h' : isCp n f i b' j') : b = b' ∧ j = j' := by
  obtain ⟨a1, a2, a3, a4, a5⟩ := h
  obtain ⟨c1, c2, c3, c4, c5⟩ := h'
  have p := a5 j' c2 c3
  have q := c5 j a2 a3
  have : ¬ j' < j := fun z => by have := p.2 z; omega
  have : ¬ j < j' := fun z => by have := q.2 z; omega
  omega
theorem Sq0_uniq {n : Int} {f : Int → Int} : ∀ (l m : List TR) (i : Int), Sq0 n f l i → Sq0 n f m i → l = m
  | [], [], _, _, _ => rfl
  | [], r :: m, i, h, h' => by have := h'.1; have h : i = n := h; omega
  | r :: l, [], i, h, h' => by have := h.1; have h' : i = n := h'; omega
  | r :: l, s :: m, i, h, h' => by
    rcases h.2 with ⟨e, no, t⟩ | ⟨j, b, e, c, t⟩
    · rcases h'.2 with ⟨e', no', t'⟩ | ⟨j', b', e', c', t'⟩
      · rw [e, e', Sq0_uniq l m _ t t']
      · have := no j' c'.2.1 c'.2.2.1
        have := c'.1
        have := c'.2.2.2.1
        omega
    · rcases h'.2 with ⟨e', no', t'⟩ | ⟨j', b', e', c', t'⟩
      · have := no' j c.2.1 c.2.2.1
        have := c.1
        have := c.2.2.2.1
        omega
      · obtain ⟨rfl, rfl⟩ := isCp_uniq c c'
        rw [e, e', Sq0_uniq l m _ t t']
theorem Sq0_ex {n : Int} {f : Int → Int} (hf : AU n f) : ∀ (l : List TR) (i : Int), 0 ≤ i → i ≤ n → Sq0 n f l i → Ex0 l i
  | [], i, _, h1, _ => by have := hf.2.1; show i ≤ 240; omega
  | r :: l, i, h0, h1, h => by
    rcases h.2 with ⟨e, no, t⟩ | ⟨j, b, e, c, t⟩
    · subst e
      have u := hf.2.2 i h0 h.1
      exact Or.inl ⟨rfl, u.1, u.2, Sq0_ex hf l (i + 1) (by omega) (by have := h.1; omega) t⟩
    · subst e
      have r := @lcp2_r n n i j f f (by omega) (by have := c.2.2.1; omega)
      have := c.1
      have e4 := c.2.2.2.1
      exact Or.inr ⟨rfl, c.2.1, c.2.2.1, by show 1 ≤ b; omega, Sq0_ex hf l (i + b) (by omega) (by omega) t⟩
theorem RT.keepX {X : Int} {M M' : JM} {T : ATx} (h : RT X M T) (g : ∀ (k : Nat) (a j : Int), (a = X + 218 ∧ k = 3200) ∨ (k = 2 ∧ (a = X + 219 ∨ a = X + 220)) → M' k a j = M k a j) : RT X M' T := ⟨by rw [g _ _ _ (by omega)]; exact h.1, fun t h0 h1 => ⟨by rw [g _ _ _ (by omega)]; exact (h.2 t h0 h1).1, fun i i0 i1 => by rw [g _ _ _ (by omega)]; exact (h.2 t h0 h1).2 i i0 i1⟩⟩
theorem RK.keepX {X : Int} {M M' : JM} {K : AKp} (h : RK X M K) (g : ∀ (k : Nat) (a j : Int), (a = X + 218 ∧ k = 3203) ∨ (k = 2 ∧ X + 221 ≤ a ∧ a ≤ X + 224) → M' k a j = M k a j) : RK X M' K := ⟨by rw [g _ _ _ (by omega)]; exact h.1, fun t h0 h1 => ⟨by rw [g _ _ _ (by omega)]; exact (h.2 t h0 h1).1, by rw [g _ _ _ (by omega)]; exact (h.2 t h0 h1).2.1, fun hb => ⟨by rw [g _ _ _ (by omega)]; exact ((h.2 t h0 h1).2.2 hb).1, fun i i0 i1 => by rw [g _ _ _ (by omega)]; exact ((h.2 t h0 h1).2.2 hb).2 i i0 i1⟩⟩⟩
theorem RP.keepX {X : Int} {M M' : JM} {P : ATx} (h : RP X M P) (g : ∀ (k : Nat) (a j : Int), (a = X + 218 ∧ k = 3210) ∨ (k = 2 ∧ (a = X + 227 ∨ a = X + 228)) → M' k a j = M k a j) : RP X M' P := ⟨by rw [g _ _ _ (by omega)]; exact h.1, fun t h0 h1 => ⟨by rw [g _ _ _ (by omega)]; exact (h.2 t h0 h1).1, fun i i0 i1 => by rw [g _ _ _ (by omega)]; exact (h.2 t h0 h1).2 i i0 i1⟩⟩
section SQ0
variable {G : JG} {X : Int}
/-- the squeezer's items and way -/
def Qof (X : Int) (M M' : JM) : Prop := ∀ (k : Nat) (a j : Int), ¬ (k = 2603 ∧ a = X + 199) → ¬ (k = 3003 ∧ a = X + 200) → ¬ (k = 2 ∧ a = X + 201) → M' k a j = M k a j
def Rqx (X : Int) (M M' : JM) : Prop := ∀ (k : Nat) (a j : Int), ¬ (a = X + 218 ∧ (k = 3242 ∨ k = 3243)) → ¬ (k = 2 ∧ (a = X + 225 ∨ (X + 251 ≤ a ∧ a ≤ X + 255))) → M' k a j = M k a j
theorem Rqx.trans {M M' M'' : JM} (h : Rqx X M M') (g : Rqx X M' M'') : Rqx X M M'' := fun k a j h1 h2 => (g k a j h1 h2).trans (h k a j h1 h2)
theorem Qof.tof {M M' M'' : JM} (h : Qof X M M') (g : Tof (X + 200) (X + 201) M' M'') : Qof X M M'' := fun k a j h1 h2 h3 => (g k a j h2 h3).trans (h k a j h1 h2 h3)
section SQV
variable {n w : Int} {M M' : JM} {T : ATx} {K : AKp} {P : ATx} {D : ADt} {l : List TR}
theorem CB.q (C : CB X n M T K P D) (A : AI T K P D) (o : Qof X M M') (t : TdL M' (X + 200) (X + 201) 3 240 l) (hw : M' 2603 (X + 199) 0 = w) : CB X n M' T K P (dsq D l w) := by
  refine C.tl A (fun k a j q => o k a j (fun z => q (by unfold fpD; omega)) (fun z => q (by unfold fpD; omega)) (fun z => q (by unfold fpD; omega))) ?_
  have cd := C.2.2.2.2.2.1
  have kp : ∀ {d e w m : Int} {l : List TR}, TdL M d e w m l → d ≠ X + 200 → d ≠ X + 199 → d ≠ X + 201 → e ≠ X + 200 → e ≠ X + 199 → e ≠ X + 201 → TdL M' d e w m l := fun t h1 h2 h3 h4 h5 h6 => t.keep (fun k => o k _ 0 (fun z => h2 z.2) (fun z => h1 z.2) (fun z => h3 z.2)) (fun k j => o k _ j (fun z => h5 z.2) (fun z => h4 z.2) (fun z => h6 z.2))
  exact ⟨kp cd.1 (by omega) (by omega) (by omega) (by omega) (by omega) (by omega), kp cd.2.1 (by omega) (by omega) (by omega) (by omega) (by omega) (by omega), kp cd.2.2.1 (by omega) (by omega) (by omega) (by omega) (by omega) (by omega), kp cd.2.2.2.1 (by omega) (by omega) (by omega) (by omega) (by omega) (by omega), kp cd.2.2.2.2.1 (by omega) (by omega) (by omega) (by omega) (by omega) (by omega), t, kp cd.2.2.2.2.2.2.1 (by omega) (by omega) (by omega) (by omega) (by omega) (by omega), hw⟩
theorem RI.q (R : RI X M T K P D) (o : Rqx X M M') (r : RD3 X M' 3242 251 252 253 l) (hw : M' 3243 (X + 218) 0 = w) : RI X M' T K P (dsq D l w) := by
  have rd := R.2.2.2.2
  refine ⟨R.1.keep fun k a j _ _ hk => o k a j (by omega) (by omega), R.2.1.keepX fun k a j q => o k a j (by omega) (by omega), R.2.2.1.keepX fun k a j q => o k a j (by omega) (by omega), R.2.2.2.1.keepX fun k a j q => o k a j (by omega) (by omega), ?_⟩
  obtain ⟨h1, h2, h3, h4, h5, h6, h7, h8⟩ := rd
  refine ⟨⟨?_, fun k k0 k1 => ⟨?_, ?_⟩⟩, ⟨?_, fun k k0 k1 => ?_⟩, ⟨?_, fun k k0 k1 => ⟨?_, ?_, ?_⟩⟩, ⟨?_, fun k k0 k1 => ⟨?_, ?_, ?_⟩⟩, ⟨?_, fun k k0 k1 => ⟨?_, ?_⟩⟩, r, ⟨?_, fun k k0 k1 => ?_⟩, hw⟩
  · rw [o _ _ _ (by omega) (by omega)]; exact h1.1
  · rw [o _ _ _ (by omega) (by omega)]; exact (h1.2 k k0 k1).1
  · rw [o _ _ _ (by omega) (by omega)]; exact (h1.2 k k0 k1).2
  · rw [o _ _ _ (by omega) (by omega)]; exact h2.1
  · rw [o _ _ _ (by omega) (by omega)]; exact h2.2 k k0 k1
  · rw [o _ _ _ (by omega) (by omega)]; exact h3.1
  · rw [o _ _ _ (by omega) (by omega)]; exact (h3.2 k k0 k1).1
  · rw [o _ _ _ (by omega) (by omega)]; exact (h3.2 k k0 k1).2.1
  · rw [o _ _ _ (by omega) (by omega)]; exact (h3.2 k k0 k1).2.2
  · rw [o _ _ _ (by omega) (by omega)]; exact h4.1
  · rw [o _ _ _ (by omega) (by omega)]; exact (h4.2 k k0 k1).1
  · rw [o _ _ _ (by omega) (by omega)]; exact (h4.2 k k0 k1).2.1
  · rw [o _ _ _ (by omega) (by omega)]; exact (h4.2 k k0 k1).2.2
  · rw [o _ _ _ (by omega) (by omega)]; exact h5.1
  · rw [o _ _ _ (by omega) (by omega)]; exact (h5.2 k k0 k1).1
  · rw [o _ _ _ (by omega) (by omega)]; exact (h5.2 k k0 k1).2
  · rw [o _ _ _ (by omega) (by omega)]; exact h7.1
  · rw [o _ _ _ (by omega) (by omega)]; exact h7.2 k k0 k1
theorem r_item {Q : Int → JM → Prop} {a b c : Int} (W : WSt X M) (r : RD3 X M 3242 251 252 253 l) (hl : (l.length : Int) < 240) (h : ∀ M', Rqx X M M' → M' 3243 (X + 218) 0 = M 3243 (X + 218) 0 → (∀ k j, (k = 2 ∧ (j = X + 225 ∨ j = X + 254 ∨ j = X + 255)) → ∀ i, M' k j i = M k j i) → RD3 X M' 3242 251 252 253 (l ++ [(a, b, c)]) → Q 0 M') : Runs G 251 0 0 [(1, X + 218), (0, a), (0, b), (0, c)] M Q := by
  have wt := w_model_t W
  refine rn_X12_item _ _ _ _ M (sg_X12_item_0 _ _ _ _ M ?_)
  rw [r.1, w_model_1344 W, w_m1344_t W, w_m1344_n W, w_model_1345 W, w_m1345_t W, w_m1345_n W, w_model_1346 W, w_m1346_t W, w_m1346_n W]
  refine ⟨wt, wt, ⟨rfl, by omega, by omega⟩, wt, wt, ⟨rfl, by omega, by omega⟩, wt, wt, ⟨rfl, by omega, by omega⟩, wt, by unfold jR; omega, wt, h _ (fun k x j h1 h2 => ?_) ?_ (fun k x hk i => ?_) (r.app (by decide) (by decide) (by decide) (by decide))⟩
  · rw [show jset (jset (jset (jset M 2 (X + 251) _ a) 2 (X + 252) _ b) 2 (X + 253) _ c) 3242 (X + 218) 0 _ k x j = _ from if_neg (by omega), show jset (jset (jset M 2 (X + 251) _ a) 2 (X + 252) _ b) 2 (X + 253) _ c k x j = _ from if_neg (by omega), show jset (jset M 2 (X + 251) _ a) 2 (X + 252) _ b k x j = _ from if_neg (by omega)]
    exact if_neg (by omega)
  · rw [jset_k (by decide), jset_k (by decide), jset_k (by decide), jset_k (by decide)]
  · rw [show jset (jset (jset (jset M 2 (X + 251) _ a) 2 (X + 252) _ b) 2 (X + 253) _ c) 3242 (X + 218) 0 _ k x i = _ from if_neg (by omega), show jset (jset (jset M 2 (X + 251) _ a) 2 (X + 252) _ b) 2 (X + 253) _ c k x i = _ from if_neg (by omega), show jset (jset M 2 (X + 251) _ a) 2 (X + 252) _ b k x i = _ from if_neg (by omega)]
    exact if_neg (by omega)
end SQV
end SQ0
