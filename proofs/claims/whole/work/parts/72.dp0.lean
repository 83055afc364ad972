/-! least changes, and what two texts have in a row: tables and walks -/
section DP0
variable {n m i j : Int} {f g : Int → Int}
def dE (n : Int) (f : Int → Int) (m : Int) (g : Int → Int) : Nat → Nat → Int
  | 0, b => (b : Int)
  | a + 1, 0 => ((a + 1 : Nat) : Int)
  | a + 1, b + 1 => if f (n - ((a + 1 : Nat) : Int)) = g (m - ((b + 1 : Nat) : Int)) then dE n f m g a b else 1 + min (dE n f m g a b) (min (dE n f m g a (b + 1)) (dE n f m g (a + 1) b))
termination_by a b => a + b
def cE (n : Int) (f : Int → Int) (m : Int) (g : Int → Int) : Nat → Nat → Int
  | 0, _ => 0
  | _ + 1, 0 => 0
  | a + 1, b + 1 => if f (n - ((a + 1 : Nat) : Int)) = g (m - ((b + 1 : Nat) : Int)) then cE n f m g a b + 1 else max (cE n f m g a (b + 1)) (cE n f m g (a + 1) b)
termination_by a b => a + b
/-- least changes from the rest of f at i to the rest of g at j -/
def ds (n : Int) (f : Int → Int) (m : Int) (g : Int → Int) (i j : Int) : Int := dE n f m g (n - i).toNat (m - j).toNat
/-- the most that both rests have in a row -/
def cs (n : Int) (f : Int → Int) (m : Int) (g : Int → Int) (i j : Int) : Int := cE n f m g (n - i).toNat (m - j).toNat
theorem ds_n (h : j ≤ m) : ds n f m g n j = m - j := by
  unfold ds
  rw [show (n - n).toNat = 0 by omega, dE]
  omega
theorem ds_m (h : i ≤ n) : ds n f m g i m = n - i := by
  unfold ds
  rw [show (m - m).toNat = 0 by omega]
  cases e : (n - i).toNat with
  | zero => rw [dE]; omega
  | succ a => rw [dE]; omega
theorem ds_s (h1 : i < n) (h2 : j < m) (h3 : f i = g j) : ds n f m g i j = ds n f m g (i + 1) (j + 1) := by
  unfold ds
  obtain ⟨a, ha⟩ : ∃ a, (n - i).toNat = a + 1 := ⟨(n - i).toNat - 1, by omega⟩
  obtain ⟨b, hb⟩ : ∃ b, (m - j).toNat = b + 1 := ⟨(m - j).toNat - 1, by omega⟩
  rw [ha, hb, show (n - (i + 1)).toNat = a by omega, show (m - (j + 1)).toNat = b by omega, dE, show n - ((a + 1 : Nat) : Int) = i by omega, show m - ((b + 1 : Nat) : Int) = j by omega, if_pos h3]
theorem ds_d (h1 : i < n) (h2 : j < m) (h3 : ¬ f i = g j) : ds n f m g i j = 1 + min (ds n f m g (i + 1) (j + 1)) (min (ds n f m g (i + 1) j) (ds n f m g i (j + 1))) := by
  unfold ds
  obtain ⟨a, ha⟩ : ∃ a, (n - i).toNat = a + 1 := ⟨(n - i).toNat - 1, by omega⟩
  obtain ⟨b, hb⟩ : ∃ b, (m - j).toNat = b + 1 := ⟨(m - j).toNat - 1, by omega⟩
  rw [ha, hb, show (n - (i + 1)).toNat = a by omega, show (m - (j + 1)).toNat = b by omega, dE, show n - ((a + 1 : Nat) : Int) = i by omega, show m - ((b + 1 : Nat) : Int) = j by omega, if_neg h3]
theorem cs_n : cs n f m g n j = 0 := by
  unfold cs
  rw [show (n - n).toNat = 0 by omega, cE]
theorem cs_m : cs n f m g i m = 0 := by
  unfold cs
  rw [show (m - m).toNat = 0 by omega]
  cases e : (n - i).toNat with
  | zero => rw [cE]
  | succ a => rw [cE]
theorem cs_s (h1 : i < n) (h2 : j < m) (h3 : f i = g j) : cs n f m g i j = cs n f m g (i + 1) (j + 1) + 1 := by
  unfold cs
  obtain ⟨a, ha⟩ : ∃ a, (n - i).toNat = a + 1 := ⟨(n - i).toNat - 1, by omega⟩
  obtain ⟨b, hb⟩ : ∃ b, (m - j).toNat = b + 1 := ⟨(m - j).toNat - 1, by omega⟩
  rw [ha, hb, show (n - (i + 1)).toNat = a by omega, show (m - (j + 1)).toNat = b by omega, cE, show n - ((a + 1 : Nat) : Int) = i by omega, show m - ((b + 1 : Nat) : Int) = j by omega, if_pos h3]
theorem cs_d (h1 : i < n) (h2 : j < m) (h3 : ¬ f i = g j) : cs n f m g i j = max (cs n f m g (i + 1) j) (cs n f m g i (j + 1)) := by
  unfold cs
  obtain ⟨a, ha⟩ : ∃ a, (n - i).toNat = a + 1 := ⟨(n - i).toNat - 1, by omega⟩
  obtain ⟨b, hb⟩ : ∃ b, (m - j).toNat = b + 1 := ⟨(m - j).toNat - 1, by omega⟩
  rw [ha, hb, show (n - (i + 1)).toNat = a by omega, show (m - (j + 1)).toNat = b by omega, cE, show n - ((a + 1 : Nat) : Int) = i by omega, show m - ((b + 1 : Nat) : Int) = j by omega, if_neg h3]
theorem ds_rF : ∀ (k : Nat) (i j : Int), (n - i) + (m - j) ≤ k → i ≤ n → j ≤ m → 0 ≤ ds n f m g i j ∧ ds n f m g i j ≤ max (n - i) (m - j) := by
  intro k
  induction k with
  | zero =>
    intro i j h h1 h2
    have e : i = n := by omega
    subst e
    rw [ds_n h2]; omega
  | succ k ih =>
    intro i j h h1 h2
    by_cases c1 : i = n
    · subst c1; rw [ds_n h2]; omega
    · by_cases c2 : j = m
      · subst c2; rw [ds_m h1]; omega
      · have a1 := ih (i + 1) (j + 1) (by omega) (by omega) (by omega)
        by_cases c3 : f i = g j
        · rw [ds_s (by omega) (by omega) c3]; omega
        · have a2 := ih (i + 1) j (by omega) (by omega) (by omega)
          have a3 := ih i (j + 1) (by omega) (by omega) (by omega)
          rw [ds_d (by omega) (by omega) c3]; omega
theorem ds_r (h1 : i ≤ n) (h2 : j ≤ m) : 0 ≤ ds n f m g i j ∧ ds n f m g i j ≤ max (n - i) (m - j) := ds_rF ((n - i) + (m - j)).toNat i j (by omega) h1 h2
/-- in which way a walk goes on -/
noncomputable def way (n : Int) (f : Int → Int) (m : Int) (g : Int → Int) (i j : Int) : Int := if i = n then 0 else if j = m then 1 else if ds n f m g (i + 1) (j + 1) = ds n f m g i j - 1 then 2 else if ds n f m g (i + 1) j = ds n f m g i j - 1 then 1 else 0
theorem way_ok (h1 : i ≤ n) (h2 : j ≤ m) (h3 : i < n ∨ j < m) (h4 : ¬ (i < n ∧ j < m ∧ f i = g j)) : (way n f m g i j = 0 ∧ j < m ∧ ds n f m g i (j + 1) = ds n f m g i j - 1) ∨ (way n f m g i j = 1 ∧ i < n ∧ ds n f m g (i + 1) j = ds n f m g i j - 1) ∨ (way n f m g i j = 2 ∧ i < n ∧ j < m ∧ ds n f m g (i + 1) (j + 1) = ds n f m g i j - 1) := by
  unfold way
  by_cases c1 : i = n
  · subst c1
    rw [if_pos rfl]
    refine Or.inl ⟨rfl, by omega, ?_⟩
    rw [ds_n (by omega), ds_n (by omega)]; omega
  · rw [if_neg c1]
    by_cases c2 : j = m
    · subst c2
      rw [if_pos rfl]
      refine Or.inr (Or.inl ⟨rfl, by omega, ?_⟩)
      rw [ds_m (by omega), ds_m (by omega)]; omega
    · rw [if_neg c2]
      have c3 : ¬ f i = g j := fun q => h4 ⟨by omega, by omega, q⟩
      have d := ds_d (f := f) (g := g) (show i < n by omega) (show j < m by omega) c3
      by_cases c4 : ds n f m g (i + 1) (j + 1) = ds n f m g i j - 1
      · rw [if_pos c4]; exact Or.inr (Or.inr ⟨rfl, by omega, by omega, c4⟩)
      · rw [if_neg c4]
        by_cases c5 : ds n f m g (i + 1) j = ds n f m g i j - 1
        · rw [if_pos c5]; exact Or.inr (Or.inl ⟨rfl, by omega, c5⟩)
        · rw [if_neg c5]; exact Or.inl ⟨rfl, by omega, by omega⟩
/-- the changes of a walk from i, j on -/
noncomputable def wkF (n : Int) (f : Int → Int) (m : Int) (g : Int → Int) : Nat → Int → Int → List TR
  | 0, _, _ => []
  | k + 1, i, j => if i < n ∨ j < m then (if i < n ∧ j < m ∧ f i = g j then wkF n f m g k (i + 1) (j + 1) else (way n f m g i j, i, if way n f m g i j = 1 then -1 else g j) :: wkF n f m g k (if way n f m g i j = 0 then i else i + 1) (if way n f m g i j = 1 then j else j + 1)) else []
/-- a walk has come to i, j, and told l of all L -/
def Wk (n : Int) (f : Int → Int) (m : Int) (g : Int → Int) (L l : List TR) (i j : Int) : Prop := (0 ≤ i ∧ i ≤ n ∧ 0 ≤ j ∧ j ≤ m) ∧ (l.length : Int) + ds n f m g i j = ds n f m g 0 0 ∧ ∃ k : Nat, (n - i) + (m - j) ≤ k ∧ l ++ wkF n f m g k i j = L
theorem Wk.init (h1 : 0 ≤ n) (h2 : 0 ≤ m) : Wk n f m g (wkF n f m g (n + m).toNat 0 0) [] 0 0 := ⟨⟨by omega, h1, by omega, h2⟩, by show ((0 : Nat) : Int) + _ = _; omega, (n + m).toNat, by omega, rfl⟩
theorem Wk.fuel {L l : List TR} (h : Wk n f m g L l i j) (h1 : i < n ∨ j < m) : ∃ k : Nat, (n - i) + (m - j) ≤ (k : Int) + 1 ∧ l ++ wkF n f m g (k + 1) i j = L := by
  obtain ⟨b, -, k, k1, k2⟩ := h
  obtain ⟨q, rfl⟩ : ∃ q, k = q + 1 := ⟨k - 1, by omega⟩
  exact ⟨q, by omega, k2⟩
theorem Wk.same {L l : List TR} (h : Wk n f m g L l i j) (h1 : i < n) (h2 : j < m) (h3 : f i = g j) : Wk n f m g L l (i + 1) (j + 1) := by
  obtain ⟨k, k1, k2⟩ := h.fuel (Or.inl h1)
  obtain ⟨b, e, -⟩ := h
  rw [ds_s h1 h2 h3] at e
  refine ⟨by omega, e, k, by omega, ?_⟩
  rw [wkF, if_pos (Or.inl h1), if_pos ⟨h1, h2, h3⟩] at k2
  exact k2
theorem Wk.len {L l : List TR} (h : Wk n f m g L l i j) (h1 : i < n ∨ j < m) (h2 : ¬ (i < n ∧ j < m ∧ f i = g j)) (hn : n ≤ 240) (hm : m ≤ 240) (h0 : 0 ≤ n) (h0' : 0 ≤ m) : (l.length : Int) < 240 := by
  obtain ⟨b, e, -⟩ := h
  have r := @ds_r n m 0 0 f g h0 h0'
  have w := way_ok b.2.1 b.2.2.2 h1 h2
  have r1 := @ds_r n m i j f g (by omega) (by omega)
  have : 1 ≤ ds n f m g i j := by
    rcases w with w | w | w
    · have := (@ds_r n m i (j + 1) f g (by omega) (by omega)).1; omega
    · have := (@ds_r n m (i + 1) j f g (by omega) (by omega)).1; omega
    · have := (@ds_r n m (i + 1) (j + 1) f g (by omega) (by omega)).1; omega
  omega
theorem Wk.step {L l : List TR} (h : Wk n f m g L l i j) (h1 : i < n ∨ j < m) (h2 : ¬ (i < n ∧ j < m ∧ f i = g j)) : (way n f m g i j = 0 ∧ j < m ∧ Wk n f m g L (l ++ [(0, i, g j)]) i (j + 1)) ∨ (way n f m g i j = 1 ∧ i < n ∧ Wk n f m g L (l ++ [(1, i, -1)]) (i + 1) j) ∨ (way n f m g i j = 2 ∧ i < n ∧ j < m ∧ Wk n f m g L (l ++ [(2, i, g j)]) (i + 1) (j + 1)) := by
  obtain ⟨k, k1, k2⟩ := h.fuel h1
  obtain ⟨b, e, -⟩ := h
  rw [wkF, if_pos h1, if_neg h2] at k2
  rcases way_ok b.2.1 b.2.2.2 h1 h2 with w | w | w
  · rw [w.1, if_neg (by decide), if_pos rfl, if_neg (by decide)] at k2
    refine Or.inl ⟨w.1, w.2.1, by omega, ?_, k, by omega, ?_⟩
    · rw [List.length_append]; show ((_ + 1 : Nat) : Int) + _ = _; omega
    · rw [List.append_assoc]; exact k2
  · rw [w.1, if_pos rfl, if_neg (by decide), if_pos rfl] at k2
    refine Or.inr (Or.inl ⟨w.1, w.2.1, by omega, ?_, k, by omega, ?_⟩)
    · rw [List.length_append]; show ((_ + 1 : Nat) : Int) + _ = _; omega
    · rw [List.append_assoc]; exact k2
  · rw [w.1, if_neg (by decide), if_neg (by decide), if_neg (by decide)] at k2
    refine Or.inr (Or.inr ⟨w.1, w.2.1, w.2.2.1, by omega, ?_, k, by omega, ?_⟩)
    · rw [List.length_append]; show ((_ + 1 : Nat) : Int) + _ = _; omega
    · rw [List.append_assoc]; exact k2
theorem Wk.stop {L l : List TR} (h : Wk n f m g L l i j) (h1 : ¬ (i < n ∨ j < m)) : l = L ∧ (l.length : Int) = ds n f m g 0 0 := by
  obtain ⟨b, e, k, k1, k2⟩ := h
  have ei : i = n := by omega
  have ej : j = m := by omega
  subst ei ej
  rw [ds_n (Int.le_refl _)] at e
  refine ⟨?_, by omega⟩
  cases k with
  | zero => rw [wkF, List.append_nil] at k2; exact k2
  | succ k => rw [wkF, if_neg h1, List.append_nil] at k2; exact k2
/-! what both have in a row -/
theorem cs_rF : ∀ (k : Nat) (i j : Int), (n - i) + (m - j) ≤ k → i ≤ n → j ≤ m → 0 ≤ cs n f m g i j ∧ cs n f m g i j ≤ n - i := by
  intro k
  induction k with
  | zero =>
    intro i j h h1 h2
    have e : i = n := by omega
    subst e
    rw [cs_n]; omega
  | succ k ih =>
    intro i j h h1 h2
    by_cases c1 : i = n
    · subst c1; rw [cs_n]; omega
    · by_cases c2 : j = m
      · subst c2; rw [cs_m]; omega
      · have a1 := ih (i + 1) (j + 1) (by omega) (by omega) (by omega)
        by_cases c3 : f i = g j
        · rw [cs_s (by omega) (by omega) c3]; omega
        · have a2 := ih (i + 1) j (by omega) (by omega) (by omega)
          have a3 := ih i (j + 1) (by omega) (by omega) (by omega)
          rw [cs_d (by omega) (by omega) c3]; omega
theorem cs_r (h1 : i ≤ n) (h2 : j ≤ m) : 0 ≤ cs n f m g i j ∧ cs n f m g i j ≤ n - i := cs_rF ((n - i) + (m - j)).toNat i j (by omega) h1 h2
/-- one place more takes or gives at most one -/
theorem cs_mF : ∀ (k : Nat) (i j : Int), (n - i) + (m - j) ≤ k → i ≤ n → j ≤ m → (i < n → cs n f m g (i + 1) j ≤ cs n f m g i j ∧ cs n f m g i j ≤ cs n f m g (i + 1) j + 1) ∧ (j < m → cs n f m g i (j + 1) ≤ cs n f m g i j ∧ cs n f m g i j ≤ cs n f m g i (j + 1) + 1) := by
  intro k
  induction k with
  | zero =>
    intro i j h h1 h2
    exact ⟨fun q => by omega, fun q => by omega⟩
  | succ k ih =>
    intro i j h h1 h2
    by_cases c1 : i = n
    · subst c1
      exact ⟨fun q => by omega, fun q => by rw [cs_n, cs_n]; omega⟩
    · by_cases c2 : j = m
      · subst c2
        exact ⟨fun q => by rw [cs_m, cs_m]; omega, fun q => by omega⟩
      · have b1 := ih (i + 1) j (by omega) (by omega) (by omega)
        have b2 := ih i (j + 1) (by omega) (by omega) (by omega)
        have d1 := b1.2 (by omega)
        have d2 := b2.1 (by omega)
        by_cases c3 : f i = g j
        · rw [cs_s (by omega) (by omega) c3]
          exact ⟨fun _ => by omega, fun _ => by omega⟩
        · rw [cs_d (by omega) (by omega) c3]
          exact ⟨fun _ => by omega, fun _ => by omega⟩
theorem cs_i (h1 : i < n) (h2 : j ≤ m) : cs n f m g (i + 1) j ≤ cs n f m g i j ∧ cs n f m g i j ≤ cs n f m g (i + 1) j + 1 := (cs_mF ((n - i) + (m - j)).toNat i j (by omega) (by omega) h2).1 h1
theorem cs_j (h1 : i ≤ n) (h2 : j < m) : cs n f m g i (j + 1) ≤ cs n f m g i j ∧ cs n f m g i j ≤ cs n f m g i (j + 1) + 1 := (cs_mF ((n - i) + (m - j)).toNat i j (by omega) h1 (by omega)).2 h2
theorem cs_jj {b : Int} (h1 : i ≤ n) (h2 : j ≤ b) (h3 : b ≤ m) : cs n f m g i b ≤ cs n f m g i j := by
  obtain ⟨k, hk⟩ := Int.eq_ofNat_of_zero_le (show 0 ≤ b - j by omega)
  have e : b = j + k := by omega
  subst e
  clear hk h2
  induction k with
  | zero => rw [show j + ((0 : Nat) : Int) = j by omega]; exact Int.le_refl _
  | succ k ih =>
    have := ih (by omega)
    have := (@cs_j n m i (j + k) f g h1 (by omega)).1
    rw [show j + ((k + 1 : Nat) : Int) = j + k + 1 by omega]
    omega
/-- no fellow between: place j may be left out -/
theorem cs_skip {b : Int} (h1 : i < n) (h0 : j ≤ b) (h2 : b ≤ m) (h3 : ∀ k, j ≤ k → k < b → f i ≠ g k) : cs n f m g i j = max (cs n f m g (i + 1) j) (cs n f m g i b) := by
  obtain ⟨k, hk⟩ := Int.eq_ofNat_of_zero_le (show 0 ≤ b - j by omega)
  have key : ∀ (k : Nat) (j : Int), b - j = k → (∀ q, j ≤ q → q < b → f i ≠ g q) → cs n f m g i j = max (cs n f m g (i + 1) j) (cs n f m g i b) := by
    intro k
    induction k with
    | zero =>
      intro j e _
      have e : j = b := by omega
      subst e
      have := @cs_i n m i j f g h1 h2
      omega
    | succ k ih =>
      intro j e hq
      rw [cs_d h1 (by omega) (hq j (by omega) (by omega)), ih (j + 1) (by omega) (fun q q0 q1 => hq q (by omega) q1)]
      have := @cs_j n m (i + 1) j f g (by omega) (by omega)
      omega
  exact key k j (by omega) h3
/-- place i of the first has place b of the second for its fellow -/
def Fel (n : Int) (f : Int → Int) (m : Int) (g : Int → Int) (i j b : Int) : Prop := j ≤ b ∧ b < m ∧ f i = g b ∧ cs n f m g (i + 1) (b + 1) = cs n f m g i j - 1 ∧ ∀ k, j ≤ k → k < b → ¬ (f i = g k ∧ cs n f m g (i + 1) (k + 1) = cs n f m g i j - 1)
theorem Fel.uniq {b c : Int} (h : Fel n f m g i j b) (h' : Fel n f m g i j c) : b = c := by
  obtain ⟨a1, a2, a3, a4, a5⟩ := h
  obtain ⟨b1, b2, b3, b4, b5⟩ := h'
  rcases Int.lt_trichotomy b c with e | e | e
  · exact absurd ⟨a3, a4⟩ (b5 b a1 e)
  · exact e
  · exact absurd ⟨b3, b4⟩ (a5 c b1 e)
/-- the first like unit is the fellow, if there is one -/
theorem fel_first {b : Int} (h1 : i < n) (h0 : j ≤ b) (h2 : b < m) (h3 : ∀ k, j ≤ k → k < b → f i ≠ g k) (h4 : f i = g b) : (∃ c, Fel n f m g i j c) ↔ cs n f m g (i + 1) (b + 1) + 1 = cs n f m g i j := by
  constructor
  · rintro ⟨c, a1, a2, a3, a4, a5⟩
    have bc : b ≤ c := by
      rcases Int.lt_or_le c b with e | e
      · exact absurd a3 (h3 c a1 e)
      · exact e
    have s := cs_skip (n := n) (m := m) (f := f) (g := g) h1 h0 (by omega) h3
    rw [cs_s h1 h2 h4] at s
    have := @cs_jj n m (i + 1) (b + 1) f g (c + 1) (by omega) (by omega) (by omega)
    omega
  · intro e
    exact ⟨b, h0, h2, h4, by omega, fun k k0 k1 z => h3 k k0 k1 z.1⟩
/-- no fellow: the place is left out -/
theorem fel_none (h1 : i < n) (h0 : j ≤ m) (h : ¬ ∃ c, Fel n f m g i j c) : cs n f m g (i + 1) j = cs n f m g i j := by
  rcases Classical.em (∃ b, j ≤ b ∧ b < m ∧ f i = g b) with e | e
  · -- the first of these
    obtain ⟨b, b0, b1, b2⟩ := e
    have key : ∀ (k : Nat) (q : Int), b - q = k → j ≤ q → (∀ z, j ≤ z → z < q → f i ≠ g z) → ∃ c, j ≤ c ∧ c < m ∧ f i = g c ∧ ∀ z, j ≤ z → z < c → f i ≠ g z := by
      intro k
      induction k with
      | zero =>
        intro q e q0 hq
        have e : q = b := by omega
        subst e
        exact ⟨q, q0, b1, b2, hq⟩
      | succ k ih =>
        intro q e q0 hq
        by_cases c : f i = g q
        · exact ⟨q, q0, by omega, c, hq⟩
        · refine ih (q + 1) (by omega) (by omega) (fun z z0 z1 => ?_)
          by_cases hz : z = q
          · rw [hz]; exact c
          · exact hq z z0 (by omega)
    obtain ⟨c, c0, c1, c2, c3⟩ := key (b - j).toNat j (by omega) (Int.le_refl _) (fun z z0 z1 => by omega)
    have nf : ¬ cs n f m g (i + 1) (c + 1) + 1 = cs n f m g i j := fun z => h ((fel_first h1 c0 c1 c3 c2).mpr z)
    have s := cs_skip (n := n) (m := m) (f := f) (g := g) h1 c0 (by omega) c3
    rw [cs_s h1 c1 c2] at s
    omega
  · have s := cs_skip (n := n) (m := m) (f := f) (g := g) h1 h0 (Int.le_refl m) (fun k k0 k1 z => e ⟨k, k0, k1, z⟩)
    rw [cs_m] at s
    have := (@cs_r n m (i + 1) j f g (by omega) h0).1
    omega
/-- pairs from place i of the first on, fellows from j on -/
noncomputable def prF (n : Int) (f : Int → Int) (m : Int) (g : Int → Int) : Nat → Int → Int → List TR
  | 0, _, _ => []
  | k + 1, i, j => if i < n then pif (∃ c, Fel n f m g i j c) ((i, Classical.epsilon (Fel n f m g i j), 0) :: prF n f m g k (i + 1) (Classical.epsilon (Fel n f m g i j) + 1)) (prF n f m g k (i + 1) j) else []
def Pk (n : Int) (f : Int → Int) (m : Int) (g : Int → Int) (L l : List TR) (i j : Int) : Prop := (0 ≤ i ∧ i ≤ n ∧ 0 ≤ j ∧ j ≤ m ∧ (l.length : Int) ≤ i) ∧ ∃ k : Nat, n - i ≤ k ∧ l ++ prF n f m g k i j = L
theorem Pk.init (h1 : 0 ≤ n) (h2 : 0 ≤ m) : Pk n f m g (prF n f m g n.toNat 0 0) [] 0 0 := ⟨⟨by omega, h1, by omega, h2, by show ((0 : Nat) : Int) ≤ 0; omega⟩, n.toNat, by omega, rfl⟩
theorem Pk.fuel {L l : List TR} (h : Pk n f m g L l i j) (h1 : i < n) : ∃ k : Nat, n - i ≤ (k : Int) + 1 ∧ l ++ prF n f m g (k + 1) i j = L := by
  obtain ⟨b, k, k1, k2⟩ := h
  obtain ⟨q, rfl⟩ : ∃ q, k = q + 1 := ⟨k - 1, by omega⟩
  exact ⟨q, by omega, k2⟩
theorem Pk.yes {L l : List TR} {b : Int} (h : Pk n f m g L l i j) (h1 : i < n) (hb : Fel n f m g i j b) : Pk n f m g L (l ++ [(i, b, 0)]) (i + 1) (b + 1) := by
  obtain ⟨k, k1, k2⟩ := h.fuel h1
  obtain ⟨c, -⟩ := h
  have e : Classical.epsilon (Fel n f m g i j) = b := (Classical.epsilon_spec (p := Fel n f m g i j) ⟨b, hb⟩).uniq hb
  rw [prF, if_pos h1, pif_t ⟨b, hb⟩, e] at k2
  have := hb.1
  have := hb.2.1
  refine ⟨⟨by omega, by omega, by omega, by omega, ?_⟩, k, by omega, ?_⟩
  · rw [List.length_append]; show ((_ + 1 : Nat) : Int) ≤ _; omega
  · rw [List.append_assoc]; exact k2
theorem Pk.no {L l : List TR} (h : Pk n f m g L l i j) (h1 : i < n) (hb : ¬ ∃ c, Fel n f m g i j c) : Pk n f m g L l (i + 1) j := by
  obtain ⟨k, k1, k2⟩ := h.fuel h1
  obtain ⟨c, -⟩ := h
  rw [prF, if_pos h1, pif_f hb] at k2
  exact ⟨⟨by omega, by omega, by omega, by omega, by omega⟩, k, by omega, k2⟩
/-- where nothing is left in a row, no pair is left -/
theorem pr_zero : ∀ (k : Nat) (i : Int), i ≤ n → j ≤ m → cs n f m g i j = 0 → prF n f m g k i j = [] := by
  intro k
  induction k with
  | zero => intro i _ _ _; rfl
  | succ k ih =>
    intro i h1 h2 h3
    rw [prF]
    by_cases c : i < n
    · rw [if_pos c]
      have nf : ¬ ∃ c, Fel n f m g i j c := fun ⟨b, b0, b1, b2, b3, _⟩ => by
        have := (@cs_r n m (i + 1) (b + 1) f g (by omega) (by omega)).1
        omega
      rw [pif_f nf]
      exact ih (i + 1) (by omega) h2 (by rw [fel_none c h2 nf]; exact h3)
    · rw [if_neg c]
theorem Pk.stop {L l : List TR} (h : Pk n f m g L l i j) (h1 : cs n f m g i j = 0) : l = L := by
  obtain ⟨b, k, k1, k2⟩ := h
  rw [pr_zero k i (by omega) (by omega) h1, List.append_nil] at k2
  exact k2
end DP0
