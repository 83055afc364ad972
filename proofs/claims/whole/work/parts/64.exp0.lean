/-! what expanding makes -/
def Xp : List TR → Int → (Int → Int) → Prop
  | [], _, _ => True
  | r :: l, s, F => (r.1 = 0 ∧ F s = r.2.1 ∧ Xp l (s + 1) F) ∨ (r.1 = 1 ∧ (∀ j, 0 ≤ j → j < r.2.2 → F (s + j) = F (r.2.1 + j)) ∧ Xp l (s + r.2.2) F)
def Sz0 : List TR → Int → Int
  | [], s => s
  | r :: l, s => if r.1 = 0 then Sz0 l (s + 1) else Sz0 l (s + r.2.2)
theorem cp_ex (s b : Int) (g : Int → Int) (h : b < s) : ∀ c : Nat, ∃ g' : Int → Int, (∀ i, i < s → g' i = g i) ∧ ∀ j : Int, 0 ≤ j → j < c → g' (s + j) = g' (b + j)
  | 0 => ⟨g, fun _ _ => rfl, fun j h0 h1 => by omega⟩
  | c + 1 => by
    obtain ⟨g', g1, g2⟩ := cp_ex s b g h c
    refine ⟨fun i => if i = s + c then g' (b + c) else g' i, fun i hi => ?_, fun j j0 j1 => ?_⟩
    · show (if i = s + c then _ else _) = _
      rw [if_neg (by omega)]; exact g1 i hi
    · show (if s + j = s + c then _ else _) = (if b + j = s + c then _ else _)
      rw [if_neg (show ¬ b + j = s + c by omega)]
      by_cases hj : j = c
      · rw [if_pos (by omega), hj]
      · rw [if_neg (by omega)]; exact g2 j j0 (by omega)
theorem Ex0_le : ∀ (l : List TR) (s : Int), Ex0 l s → s ≤ 240
  | [], _, h => h
  | r :: l, s, h => by
    rcases h with h | h
    · have := Ex0_le l _ h.2.2.2; omega
    · have := Ex0_le l _ h.2.2.2.2; omega
theorem Xp_ex : ∀ (l : List TR) (s : Int) (g : Int → Int), 0 ≤ s → Ex0 l s → ∃ F : Int → Int, (∀ i, i < s → F i = g i) ∧ Xp l s F
  | [], s, g, _, _ => ⟨g, fun _ _ => rfl, trivial⟩
  | r :: l, s, g, h0, h => by
    rcases h with h | h
    · obtain ⟨F, f1, f2⟩ := Xp_ex l (s + 1) (fun i => if i = s then r.2.1 else g i) (by omega) h.2.2.2
      refine ⟨F, fun i hi => ?_, Or.inl ⟨h.1, ?_, f2⟩⟩
      · rw [f1 i (by omega), if_neg (by omega)]
      · rw [f1 s (by omega), if_pos rfl]
    · obtain ⟨h1, h2, h3, h4, h5⟩ := h
      obtain ⟨g', g1, g2⟩ := cp_ex s r.2.1 g h3 r.2.2.toNat
      obtain ⟨F, f1, f2⟩ := Xp_ex l (s + r.2.2) g' (by omega) h5
      refine ⟨F, fun i hi => ?_, Or.inr ⟨h1, fun j j0 j1 => ?_, f2⟩⟩
      · rw [f1 i (by omega)]; exact g1 i hi
      · rw [f1 _ (by omega), f1 _ (by omega)]; exact g2 j j0 (by omega)
theorem drop_s {l : List TR} {k : Int} (h0 : 0 ≤ k) (h1 : k < l.length) : ∃ r, l.drop k.toNat = r :: l.drop (k + 1).toNat ∧ ∀ x, rowx l k x = fld r x := by
  have hk : k.toNat < l.length := by omega
  refine ⟨l[k.toNat], ?_, fun x => ?_⟩
  · rw [show (k + 1).toNat = k.toNat + 1 by omega]
    exact List.drop_eq_getElem_cons hk
  · unfold rowx
    rw [List.getD_eq_getElem?_getD, List.getElem?_eq_getElem hk]
    rfl
/-- phrases, unit by unit -/
noncomputable def phv (l : List TR) : Nat → Int → Int → Int
  | 0, _, _ => 0
  | k + 1, p, j => if p ≤ 0 then 0 else if j = phl l k (rowx l (p - 1) 0) then rowx l (p - 1) 1 else phv l k (rowx l (p - 1) 0) j
theorem phv_fuel {l : List TR} (g : ∀ j : Int, 0 ≤ j → j < l.length → rowx l j 0 ≤ j) : ∀ (k k' : Nat) (p j : Int), p ≤ k → p ≤ k' → p ≤ l.length → phv l k p j = phv l k' p j := by
  intro k
  induction k with
  | zero =>
    intro k' p j h h' hl
    cases k' with
    | zero => rfl
    | succ k' => exact (if_pos (by omega)).symm
  | succ k ih =>
    intro k' p j h h' hl
    cases k' with
    | zero => exact if_pos (by omega)
    | succ k' =>
      show (if p ≤ 0 then 0 else if j = phl l k (rowx l (p - 1) 0) then rowx l (p - 1) 1 else phv l k (rowx l (p - 1) 0) j) = (if p ≤ 0 then 0 else if j = phl l k' (rowx l (p - 1) 0) then rowx l (p - 1) 1 else phv l k' (rowx l (p - 1) 0) j)
      by_cases h0 : p ≤ 0
      · rw [if_pos h0, if_pos h0]
      · have := g (p - 1) (by omega) (by omega)
        rw [if_neg h0, if_neg h0, ih k' (rowx l (p - 1) 0) j (by omega) (by omega) (by omega), phl_fuel g k k' (rowx l (p - 1) 0) (by omega) (by omega) (by omega)]
theorem phl_s {l : List TR} (g : ∀ j : Int, 0 ≤ j → j < l.length → rowx l j 0 ≤ j) {p : Int} (h0 : 0 < p) (h1 : p ≤ l.length) : phl l l.length p = phl l l.length (rowx l (p - 1) 0) + 1 := by
  obtain ⟨m, hm⟩ : ∃ m, l.length = m + 1 := ⟨l.length - 1, by omega⟩
  have := g (p - 1) (by omega) (by omega)
  rw [phl_fuel g l.length (m + 1) p (by omega) (by omega) h1]
  show (if p ≤ 0 then 0 else phl l m (rowx l (p - 1) 0) + 1) = _
  rw [if_neg (by omega), phl_fuel g m l.length (rowx l (p - 1) 0) (by omega) (by omega) (by omega)]
theorem phv_s {l : List TR} (g : ∀ j : Int, 0 ≤ j → j < l.length → rowx l j 0 ≤ j) {p : Int} (h0 : 0 < p) (h1 : p ≤ l.length) (j : Int) : phv l l.length p j = if j = phl l l.length (rowx l (p - 1) 0) then rowx l (p - 1) 1 else phv l l.length (rowx l (p - 1) 0) j := by
  obtain ⟨m, hm⟩ : ∃ m, l.length = m + 1 := ⟨l.length - 1, by omega⟩
  have := g (p - 1) (by omega) (by omega)
  rw [phv_fuel g l.length (m + 1) p j (by omega) (by omega) h1]
  show (if p ≤ 0 then 0 else if j = phl l m (rowx l (p - 1) 0) then rowx l (p - 1) 1 else phv l m (rowx l (p - 1) 0) j) = _
  rw [if_neg (by omega), phl_fuel g m l.length (rowx l (p - 1) 0) (by omega) (by omega) (by omega), phv_fuel g m l.length (rowx l (p - 1) 0) j (by omega) (by omega) (by omega)]
theorem phl_n {l : List TR} : ∀ (k : Nat) (p : Int), 0 ≤ phl l k p
  | 0, _ => by show (0 : Int) ≤ 0; omega
  | k + 1, p => by
    show 0 ≤ (if p ≤ 0 then 0 else phl l k (rowx l (p - 1) 0) + 1)
    have := phl_n (l := l) k (rowx l (p - 1) 0)
    by_cases h : p ≤ 0
    · rw [if_pos h]; omega
    · rw [if_neg h]; omega
theorem phs_s {l : List TR} (g : ∀ j : Int, 0 ≤ j → j < l.length → rowx l j 0 ≤ j) {k : Int} (h0 : 0 ≤ k) (h1 : k < l.length) : phs l (k + 1) = phs l k + (phl l l.length (rowx l k 0) + if rowx l k 1 = -1 then 0 else 1) := by
  have := g k h0 h1
  unfold phs
  rw [smI_s h0, phl_fuel g k.toNat l.length (rowx l k 0) (by omega) (by omega) (by omega)]
theorem phs_mono {l : List TR} (g : ∀ j : Int, 0 ≤ j → j < l.length → rowx l j 0 ≤ j) {k : Int} (h0 : 0 ≤ k) : ∀ d : Nat, k + d ≤ l.length → phs l k ≤ phs l (k + d)
  | 0, _ => by rw [show k + ((0 : Nat) : Int) = k by omega]; exact Int.le_refl _
  | d + 1, h => by
    have a := phs_mono g h0 d (by omega)
    have b := phs_s g (k := k + d) (by omega) (by omega)
    have c := phl_n (l := l) l.length (rowx l (k + d) 0)
    rw [show k + ((d + 1 : Nat) : Int) = k + d + 1 by omega, b]
    by_cases z : rowx l (k + d) 1 = -1
    · rw [if_pos z]; omega
    · rw [if_neg z]; omega
theorem phs_le {l : List TR} (g : ∀ j : Int, 0 ≤ j → j < l.length → rowx l j 0 ≤ j) {k m : Int} (h0 : 0 ≤ k) (h1 : k ≤ m) (h2 : m ≤ l.length) : phs l k ≤ phs l m := by
  have := phs_mono g h0 (m - k).toNat (by omega)
  rw [show k + ((m - k).toNat : Int) = m by omega] at this
  exact this
def XF (l : List TR) (F : Int → Int) (m : Int) : Prop := ∀ k : Int, 0 ≤ k → k < m → (∀ j, 0 ≤ j → j < phl l l.length (rowx l k 0) → F (phs l k + j) = phv l l.length (rowx l k 0) j) ∧ (rowx l k 1 ≠ -1 → F (phs l k + phl l l.length (rowx l k 0)) = rowx l k 1)
theorem XF_ex {l : List TR} (g : ∀ j : Int, 0 ≤ j → j < l.length → rowx l j 0 ≤ j) : ∀ m : Nat, m ≤ l.length → ∃ F, XF l F m
  | 0, _ => ⟨fun _ => 0, fun k k0 k1 => by omega⟩
  | m + 1, h => by
    obtain ⟨F, hF⟩ := XF_ex g m (by omega)
    refine ⟨fun i => if i < phs l m then F i else if i - phs l m < phl l l.length (rowx l m 0) then phv l l.length (rowx l m 0) (i - phs l m) else rowx l m 1, fun k k0 k1 => ?_⟩
    have n := phl_n (l := l) l.length (rowx l k 0)
    by_cases hk : k = m
    · subst hk
      refine ⟨fun j j0 j1 => ?_, fun z => ?_⟩
      · show (if phs l m + j < phs l m then _ else if phs l m + j - phs l m < _ then _ else _) = _
        rw [if_neg (by omega), show phs l m + j - phs l m = j by omega, if_pos j1]
      · show (if phs l m + _ < phs l m then _ else if phs l m + phl l l.length (rowx l m 0) - phs l m < _ then _ else _) = _
        rw [if_neg (by omega), if_neg (by omega)]
    · have s := phs_s g (k := k) k0 (by omega)
      have le := phs_le g (k := k + 1) (m := m) (by omega) (by omega) (by omega)
      refine ⟨fun j j0 j1 => ?_, fun z => ?_⟩
      · show (if phs l k + j < phs l m then _ else _) = _
        rw [if_pos (by
          by_cases z : rowx l k 1 = -1
          · rw [if_pos z] at s; omega
          · rw [if_neg z] at s; omega)]
        exact (hF k k0 (by omega)).1 j j0 j1
      · show (if phs l k + phl l l.length (rowx l k 0) < phs l m then _ else _) = _
        rw [if_neg z] at s
        rw [if_pos (by omega)]
        exact (hF k k0 (by omega)).2 z
/-- k items done, s units made of S -/
def Pos (w : Int) (l : List TR) (F : Int → Int) (S k s : Int) : Prop := (w = 0 ∧ Ex0 (l.drop k.toNat) s ∧ Xp (l.drop k.toNat) s F ∧ Sz0 (l.drop k.toNat) s = S) ∨ (w = 1 ∧ s = phs l k ∧ S = phs l l.length ∧ Ex1 l ∧ XF l F l.length)
theorem Pos_end {w S s : Int} {l : List TR} {F : Int → Int} (h : Pos w l F S l.length s) : s = S := by
  rcases h with h | h
  · have e := h.2.2.2
    rw [show ((l.length : Int)).toNat = l.length by omega, List.drop_length] at e
    exact e
  · rw [h.2.1, h.2.2.1]
theorem Pos_0 {w : Int} {l : List TR} (h : (w = 0 ∧ Ex0 l 0) ∨ (w = 1 ∧ Ex1 l)) : ∃ F S, Pos w l F S 0 0 := by
  rcases h with h | h
  · obtain ⟨F, -, f2⟩ := Xp_ex l 0 (fun _ => 0) (by omega) h.2
    exact ⟨F, _, Or.inl ⟨h.1, h.2, f2, rfl⟩⟩
  · obtain ⟨F, hF⟩ := XF_ex (fun j j0 j1 => (h.2.1 j j0 j1).2.1) l.length (by omega)
    exact ⟨F, _, Or.inr ⟨h.1, by unfold phs; rw [smI_z (by omega)], rfl, h.2, hF⟩⟩
theorem Pos_unit {S k s : Int} {l : List TR} {F : Int → Int} (h : Pos 0 l F S k s) (h0 : 0 ≤ k) (h1 : k < l.length) (hr : rowx l k 0 = 0) : F s = rowx l k 1 ∧ (0 ≤ rowx l k 1 ∧ rowx l k 1 ≤ 65535) ∧ s < 240 ∧ Pos 0 l F S (k + 1) (s + 1) := by
  rcases h with h | h
  · obtain ⟨-, a, b, c⟩ := h
    obtain ⟨r, e, er⟩ := drop_s h0 h1
    rw [e] at a b c
    have r0 : r.1 = 0 := (er 0).symm.trans hr
    have r1 : rowx l k 1 = r.2.1 := er 1
    rw [r1]
    rcases a with a | a
    · rcases b with b | b
      · have le := Ex0_le _ _ a.2.2.2
        refine ⟨b.2.1, ⟨a.2.1, a.2.2.1⟩, by omega, Or.inl ⟨rfl, a.2.2.2, b.2.2, ?_⟩⟩
        have c : (if r.1 = 0 then Sz0 (l.drop (k + 1).toNat) (s + 1) else Sz0 (l.drop (k + 1).toNat) (s + r.2.2)) = S := c
        rw [if_pos r0] at c
        exact c
      · omega
    · omega
  · exact absurd h.1 (by decide)
theorem Pos_copy {S k s : Int} {l : List TR} {F : Int → Int} (h : Pos 0 l F S k s) (h0 : 0 ≤ k) (h1 : k < l.length) (hr : ¬ rowx l k 0 = 0) : rowx l k 0 = 1 ∧ (0 ≤ rowx l k 1 ∧ rowx l k 1 < s) ∧ 1 ≤ rowx l k 2 ∧ s + rowx l k 2 ≤ 240 ∧ (∀ j, 0 ≤ j → j < rowx l k 2 → F (s + j) = F (rowx l k 1 + j)) ∧ Pos 0 l F S (k + 1) (s + rowx l k 2) := by
  rcases h with h | h
  · obtain ⟨-, a, b, c⟩ := h
    obtain ⟨r, e, er⟩ := drop_s h0 h1
    rw [e] at a b c
    have r0 : rowx l k 0 = r.1 := er 0
    have r1 : rowx l k 1 = r.2.1 := er 1
    have r2 : rowx l k 2 = r.2.2 := er 2
    rw [r0] at hr
    rw [r0, r1, r2]
    rcases a with a | a
    · omega
    · rcases b with b | b
      · omega
      · have le := Ex0_le _ _ a.2.2.2.2
        refine ⟨a.1, ⟨a.2.1, a.2.2.1⟩, a.2.2.2.1, by omega, b.2.1, Or.inl ⟨rfl, a.2.2.2.2, b.2.2, ?_⟩⟩
        have c : (if r.1 = 0 then Sz0 (l.drop (k + 1).toNat) (s + 1) else Sz0 (l.drop (k + 1).toNat) (s + r.2.2)) = S := c
        rw [if_neg hr] at c
        exact c
  · exact absurd h.1 (by decide)
theorem Pos_ph {S k s : Int} {l : List TR} {F : Int → Int} (h : Pos 1 l F S k s) (h0 : 0 ≤ k) (h1 : k < l.length) : s = phs l k ∧ (∀ j : Int, 0 ≤ j → j < l.length → rowx l j 0 ≤ j) ∧ (0 ≤ rowx l k 0 ∧ rowx l k 0 ≤ k) ∧ (∀ j : Int, 0 ≤ j → j < k → (0 ≤ rowx l j 0 ∧ rowx l j 0 ≤ j) ∧ 0 ≤ rowx l j 1 ∧ rowx l j 1 ≤ 65535) ∧ ((0 ≤ rowx l k 1 ∧ rowx l k 1 ≤ 65535) ∨ rowx l k 1 = -1) ∧ phs l (k + 1) ≤ 240 ∧ XF l F l.length ∧ Pos 1 l F S (k + 1) (phs l (k + 1)) := by
  rcases h with h | h
  · exact absurd h.1 (by decide)
  · obtain ⟨-, a, b, c, d⟩ := h
    have g : ∀ j : Int, 0 ≤ j → j < l.length → rowx l j 0 ≤ j := fun j j0 j1 => (c.1 j j0 j1).2.1
    have e := c.1 k h0 h1
    refine ⟨a, g, ⟨e.1, e.2.1⟩, fun j j0 j1 => ?_, e.2.2.imp id And.left, ?_, d, Or.inr ⟨rfl, rfl, b, c, d⟩⟩
    · have q := c.1 j j0 (by omega)
      exact ⟨⟨q.1, q.2.1⟩, q.2.2.resolve_right (fun z => by omega)⟩
    · have le := phs_le g (k := k + 1) (m := l.length) (by omega) (by omega) (by omega)
      have := c.2
      have t : phs l l.length ≤ 240 := c.2
      omega
theorem tans_in {w k x : Int} {l : List TR} (h0 : 0 ≤ x) (h1 : x < w) (h2 : 0 ≤ k) (h3 : k < l.length) : tans w l k x = rowx l k x := by
  unfold tans
  rw [if_pos ⟨h0, h1⟩, if_pos ⟨h2, h3⟩]
