/-! numbers: sums, counts, what two suffixes share, order of suffixes -/
noncomputable def b01 (p : Prop) : Int := @ite Int p (Classical.propDecidable p) 1 0
theorem b01_t {p : Prop} (h : p) : b01 p = 1 := by unfold b01; exact if_pos h
theorem b01_f {p : Prop} (h : ¬ p) : b01 p = 0 := by unfold b01; exact if_neg h
theorem b01_r (p : Prop) : 0 ≤ b01 p ∧ b01 p ≤ 1 := by
  rcases Classical.em p with h | h
  · rw [b01_t h]; omega
  · rw [b01_f h]; omega
theorem b01_c {p q : Prop} (h : p ↔ q) : b01 p = b01 q := by rw [propext h]
/-- the sum of g over 0 .. k-1 -/
def sm (g : Int → Int) : Nat → Int
  | 0 => 0
  | k + 1 => sm g k + g k
theorem sm_congr {g h : Int → Int} : ∀ {k : Nat}, (∀ i : Int, 0 ≤ i → i < k → g i = h i) → sm g k = sm h k
  | 0, _ => rfl
  | k + 1, e => by
    show sm g k + g k = sm h k + h k
    rw [sm_congr (k := k) (fun i h0 h1 => e i h0 (by omega)), e k (by omega) (by omega)]
/-- the sum of g over 0 .. n-1, n an Int -/
def smI (g : Int → Int) (n : Int) : Int := sm g n.toNat
theorem smI_z {g : Int → Int} {n : Int} (h : n ≤ 0) : smI g n = 0 := by
  unfold smI; rw [show n.toNat = 0 by omega]; rfl
theorem smI_s {g : Int → Int} {n : Int} (h : 0 ≤ n) : smI g (n + 1) = smI g n + g n := by
  unfold smI
  rw [show (n + 1).toNat = n.toNat + 1 by omega]
  show sm g n.toNat + g (n.toNat : Int) = _
  rw [Int.toNat_of_nonneg h]
theorem smI_c {g h : Int → Int} {n : Int} (e : ∀ i : Int, 0 ≤ i → i < n → g i = h i) : smI g n = smI h n := by
  unfold smI
  exact sm_congr fun i h0 h1 => e i h0 (by omega)
theorem sm_le {g h : Int → Int} : ∀ {k : Nat}, (∀ i : Int, 0 ≤ i → i < k → g i ≤ h i) → sm g k ≤ sm h k
  | 0, _ => Int.le_refl _
  | k + 1, e => by
    show sm g k + g k ≤ sm h k + h k
    have := sm_le (k := k) (fun i h0 h1 => e i h0 (by omega))
    have := e k (by omega) (by omega)
    omega
theorem smI_le {g h : Int → Int} {n : Int} (e : ∀ i : Int, 0 ≤ i → i < n → g i ≤ h i) : smI g n ≤ smI h n := by
  unfold smI
  exact sm_le fun i h0 h1 => e i h0 (by omega)
theorem sm_add {g h : Int → Int} : ∀ k : Nat, sm (fun i => g i + h i) k = sm g k + sm h k
  | 0 => rfl
  | k + 1 => by
    show sm (fun i => g i + h i) k + (g k + h k) = (sm g k + g k) + (sm h k + h k)
    rw [sm_add k]; omega
theorem smI_add {g h : Int → Int} (n : Int) : smI (fun i => g i + h i) n = smI g n + smI h n := sm_add _
theorem sm_const (c : Int) : ∀ k : Nat, sm (fun _ => c) k = c * k
  | 0 => by show (0 : Int) = c * 0; omega
  | k + 1 => by
    show sm (fun _ => c) k + c = c * ((k + 1 : Nat) : Int)
    rw [sm_const c k, Int.natCast_succ, Int.mul_add, Int.mul_one]
/-- how many of 0 .. n-1 have p -/
noncomputable def cntI (p : Int → Prop) (n : Int) : Int := smI (fun i => b01 (p i)) n
theorem cntI_z {p : Int → Prop} {n : Int} (h : n ≤ 0) : cntI p n = 0 := smI_z h
theorem cntI_t {p : Int → Prop} {n : Int} (h : 0 ≤ n) (hp : p n) : cntI p (n + 1) = cntI p n + 1 := by
  unfold cntI; rw [smI_s h, b01_t hp]
theorem cntI_f {p : Int → Prop} {n : Int} (h : 0 ≤ n) (hp : ¬ p n) : cntI p (n + 1) = cntI p n := by
  unfold cntI; rw [smI_s h, b01_f hp]; omega
theorem cntI_c {p q : Int → Prop} {n : Int} (e : ∀ i : Int, 0 ≤ i → i < n → (p i ↔ q i)) : cntI p n = cntI q n := smI_c fun i h0 h1 => b01_c (e i h0 h1)
theorem cntI_r {p : Int → Prop} {n : Int} (h : 0 ≤ n) : 0 ≤ cntI p n ∧ cntI p n ≤ n := by
  obtain ⟨k, rfl⟩ := Int.eq_ofNat_of_zero_le h
  induction k with
  | zero => rw [cntI_z (by omega)]; omega
  | succ k ih =>
    have := ih (by omega)
    rcases Classical.em (p k) with hp | hp
    · rw [show ((k + 1 : Nat) : Int) = k + 1 by omega, cntI_t (by omega) hp]; omega
    · rw [show ((k + 1 : Nat) : Int) = k + 1 by omega, cntI_f (by omega) hp]; omega
/-- what the suffix of f at i and the suffix of g at j share -/
noncomputable def lcpF (n : Int) (f : Int → Int) (m : Int) (g : Int → Int) : Nat → Int → Int → Int
  | 0, _, _ => 0
  | k + 1, i, j => if i < n ∧ j < m ∧ f i = g j then 1 + lcpF n f m g k (i + 1) (j + 1) else 0
noncomputable def lcp2 (n : Int) (f : Int → Int) (m : Int) (g : Int → Int) (i j : Int) : Int := lcpF n f m g (n - i).toNat i j
theorem lcp2_z {n m i j : Int} {f g : Int → Int} (h : ¬ (i < n ∧ j < m ∧ f i = g j)) : lcp2 n f m g i j = 0 := by
  unfold lcp2
  cases h2 : (n - i).toNat with
  | zero => rfl
  | succ k => exact if_neg h
theorem lcp2_s {n m i j : Int} {f g : Int → Int} (h1 : i < n) (h2 : j < m) (h3 : f i = g j) : lcp2 n f m g i j = 1 + lcp2 n f m g (i + 1) (j + 1) := by
  unfold lcp2
  rw [show (n - i).toNat = (n - (i + 1)).toNat + 1 by omega]
  exact if_pos ⟨h1, h2, h3⟩
/-- what it is, without its making -/
def isLcp (n : Int) (f : Int → Int) (m : Int) (g : Int → Int) (i j c : Int) : Prop := 0 ≤ c ∧ (c = 0 ∨ (i + c ≤ n ∧ j + c ≤ m)) ∧ (∀ k, 0 ≤ k → k < c → f (i + k) = g (j + k)) ∧ ¬ (i + c < n ∧ j + c < m ∧ f (i + c) = g (j + c))
theorem isLcp_uniq {n m i j c d : Int} {f g : Int → Int} (h : isLcp n f m g i j c) (h' : isLcp n f m g i j d) : c = d := by
  obtain ⟨a1, a2, a3, a4⟩ := h
  obtain ⟨b1, b2, b3, b4⟩ := h'
  rcases Int.lt_trichotomy c d with e | e | e
  · exact absurd ⟨by omega, by omega, b3 c a1 e⟩ a4
  · exact e
  · exact absurd ⟨by omega, by omega, a3 d b1 e⟩ b4
theorem lcp2_is {n m : Int} {f g : Int → Int} (i j : Int) : isLcp n f m g i j (lcp2 n f m g i j) := by
  have key : ∀ (k : Nat) (i j : Int), (n - i).toNat = k → isLcp n f m g i j (lcp2 n f m g i j) := by
    intro k
    induction k with
    | zero =>
      intro i j h
      rw [lcp2_z (by omega)]
      exact ⟨by omega, Or.inl rfl, fun k h1 h2 => by omega, by omega⟩
    | succ k ih =>
      intro i j h
      rcases Classical.em (i < n ∧ j < m ∧ f i = g j) with e | e
      · rw [lcp2_s e.1 e.2.1 e.2.2]
        obtain ⟨a1, a2, a3, a4⟩ := ih (i + 1) (j + 1) (by omega)
        refine ⟨by omega, Or.inr (by omega), fun k h1 h2 => ?_, ?_⟩
        · by_cases hk : k = 0
          · subst hk; rw [Int.add_zero, Int.add_zero]; exact e.2.2
          · have := a3 (k - 1) (by omega) (by omega)
            rw [show i + 1 + (k - 1) = i + k by omega, show j + 1 + (k - 1) = j + k by omega] at this
            exact this
        · rw [show i + (1 + lcp2 n f m g (i + 1) (j + 1)) = i + 1 + lcp2 n f m g (i + 1) (j + 1) by omega, show j + (1 + lcp2 n f m g (i + 1) (j + 1)) = j + 1 + lcp2 n f m g (i + 1) (j + 1) by omega]
          exact a4
      · rw [lcp2_z e]
        exact ⟨by omega, Or.inl rfl, fun k h1 h2 => by omega, by rw [Int.add_zero, Int.add_zero]; exact e⟩
  exact key _ i j rfl
theorem lcp2_eq {n m i j c : Int} {f g : Int → Int} (h : isLcp n f m g i j c) : lcp2 n f m g i j = c := isLcp_uniq (lcp2_is i j) h
theorem lcp2_r {n m i j : Int} {f g : Int → Int} (hi : i ≤ n) (hj : j ≤ m) : 0 ≤ lcp2 n f m g i j ∧ i + lcp2 n f m g i j ≤ n ∧ j + lcp2 n f m g i j ≤ m := by
  obtain ⟨a1, a2, -, -⟩ := @lcp2_is n m f g i j
  omega
theorem lcp2_cf {n m i j : Int} {f g f' g' : Int → Int} (hi : 0 ≤ i) (hj : 0 ≤ j) (h1 : ∀ k, 0 ≤ k → k < n → f k = f' k) (h2 : ∀ k, 0 ≤ k → k < m → g k = g' k) : lcp2 n f m g i j = lcp2 n f' m g' i j := by
  apply lcp2_eq
  obtain ⟨a1, a2, a3, a4⟩ := @lcp2_is n m f' g' i j
  refine ⟨a1, a2, fun k k0 k1 => ?_, fun q => a4 ⟨q.1, q.2.1, ?_⟩⟩
  · rw [h1 _ (by omega) (by omega), h2 _ (by omega) (by omega)]; exact a3 k k0 k1
  · rw [← h1 _ (by omega) q.1, ← h2 _ (by omega) q.2.1]; exact q.2.2
/-- the suffix at i is less than the suffix at j -/
def sls (n : Int) (f : Int → Int) (i j : Int) : Prop := i + lcp2 n f n f i j = n ∧ j + lcp2 n f n f i j < n ∨ i + lcp2 n f n f i j < n ∧ j + lcp2 n f n f i j < n ∧ f (i + lcp2 n f n f i j) < f (j + lcp2 n f n f i j)
/-- how many suffixes are less -/
noncomputable def rk (n : Int) (f : Int → Int) (i : Int) : Int := cntI (fun j => sls n f j i) n
