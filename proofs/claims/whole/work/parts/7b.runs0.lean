/-! runs: there are not more of them than units -/
def RunAt (n : Int) (f : Int → Int) (i j p : Int) : Prop := (0 ≤ i ∧ j ≤ n ∧ 1 ≤ p ∧ 2 * p ≤ j - i) ∧ (∀ x, i ≤ x → x + p < j → f x = f (x + p)) ∧ (i = 0 ∨ f (i - 1) ≠ f (i - 1 + p)) ∧ (j = n ∨ f j ≠ f (j - p)) ∧ ∀ q, 1 ≤ q → q < p → ∃ x, i ≤ x ∧ x + q < j ∧ f x ≠ f (x + q)
def slt (s x y : Int) : Prop := (s = 1 ∧ x < y) ∨ (s = -1 ∧ y < x)
section RUNS0
variable {n : Int} {f : Int → Int}
theorem rho_lt {a b : Int} (hf : ∀ k, 0 ≤ k → k < n → 0 ≤ f k) (a0 : 0 ≤ a) (a1 : a < n) (b0 : 0 ≤ b) (b1 : b < n) (h : f a < f b) : rho n f a < rho n f b := (rho_iff hf a0 (by omega) b0 (by omega)).mpr ((sls_cons a1 b1).mpr (Or.inl h))
theorem rho_eq {a b : Int} (hf : ∀ k, 0 ≤ k → k < n → 0 ≤ f k) (a0 : 0 ≤ a) (a1 : a < n) (b0 : 0 ≤ b) (b1 : b < n) (h : f a = f b) : rho n f a < rho n f b ↔ rho n f (a + 1) < rho n f (b + 1) := by
  rw [rho_iff hf a0 (by omega) b0 (by omega), rho_iff hf (by omega) (by omega) (by omega) (by omega), sls_cons a1 b1]
  exact ⟨fun z => z.elim (fun y => by omega) (fun y => y.2), fun z => Or.inr ⟨h, z⟩⟩
theorem rho_sh {a b : Int} (hf : ∀ k, 0 ≤ k → k < n → 0 ≤ f k) (a0 : 0 ≤ a) (b0 : 0 ≤ b) : ∀ d : Nat, a + d ≤ n → b + d ≤ n → (∀ k : Int, 0 ≤ k → k < d → f (a + k) = f (b + k)) → (rho n f a < rho n f b ↔ rho n f (a + d) < rho n f (b + d)) := by
  intro d
  induction d with
  | zero =>
    intro _ _ _
    rw [show a + ((0 : Nat) : Int) = a by omega, show b + ((0 : Nat) : Int) = b by omega]
  | succ d ih =>
    intro h1 h2 h3
    rw [ih (by omega) (by omega) (fun k k0 k1 => h3 k k0 (by omega)), rho_eq hf (by omega) (by omega) (by omega) (by omega) (h3 d (by omega) (by omega)), show a + ((d + 1 : Nat) : Int) = a + d + 1 by omega, show b + ((d + 1 : Nat) : Int) = b + d + 1 by omega]
theorem rho_shI {a b d : Int} (hf : ∀ k, 0 ≤ k → k < n → 0 ≤ f k) (a0 : 0 ≤ a) (b0 : 0 ≤ b) (d0 : 0 ≤ d) (h1 : a + d ≤ n) (h2 : b + d ≤ n) (h3 : ∀ k : Int, 0 ≤ k → k < d → f (a + k) = f (b + k)) : rho n f a < rho n f b ↔ rho n f (a + d) < rho n f (b + d) := by
  obtain ⟨k, rfl⟩ := Int.eq_ofNat_of_zero_le d0
  exact rho_sh hf a0 b0 k h1 h2 h3
theorem lsh_min {F : Int → Int} {h a : Int} : ∀ m : Nat, ∃ k : Int, a ≤ k ∧ k ≤ a + m ∧ ∀ q, a ≤ q → q ≤ a + m → ¬ lsh F h q k := by
  intro m
  induction m with
  | zero => exact ⟨a, by omega, by omega, fun q q0 q1 => by
      have : q = a := by omega
      rw [this]; exact lsh_irr eqh_refl⟩
  | succ m ih =>
    obtain ⟨k, k0, k1, k2⟩ := ih
    rcases Classical.em (lsh F h (a + ((m + 1 : Nat) : Int)) k) with c | c
    · refine ⟨a + ((m + 1 : Nat) : Int), by omega, by omega, fun q q0 q1 z => ?_⟩
      by_cases e : q = a + ((m + 1 : Nat) : Int)
      · rw [e] at z; exact lsh_irr eqh_refl z
      · exact k2 q q0 (by omega) (lsh_trans z c)
    · refine ⟨k, k0, by omega, fun q q0 q1 z => ?_⟩
      by_cases e : q = a + ((m + 1 : Nat) : Int)
      · rw [e] at z; exact c z
      · exact k2 q q0 (by omega) z
/-- what is like on one stretch of p units is like on the whole run -/
theorem per_all {i j p a s : Int} (per : ∀ x, i ≤ x → x + p < j → f x = f (x + p)) (hp : 1 ≤ p) (hj : i + 2 * p ≤ j) (s0 : 0 ≤ s) (a0 : i ≤ a) (a1 : a + s ≤ i + p) (h : ∀ m, 0 ≤ m → m < p → f (a + m) = f (a + s + m)) {x : Int} (x0 : i ≤ x) (x1 : x + s < j) : f x = f (x + s) := by
  have up : ∀ (k : Nat) (x : Int), x - a ≤ k → a ≤ x → x + s < j → f x = f (x + s) := by
    intro k
    induction k with
    | zero =>
      intro x h1 h2 h3
      have := h (x - a) (by omega) (by omega)
      rw [show a + (x - a) = x by omega, show a + s + (x - a) = x + s by omega] at this
      exact this
    | succ k ih =>
      intro x h1 h2 h3
      by_cases c : x - a < p
      · have := h (x - a) (by omega) c
        rw [show a + (x - a) = x by omega, show a + s + (x - a) = x + s by omega] at this
        exact this
      · have e1 := per (x - p) (by omega) (by omega)
        have e2 := per (x + s - p) (by omega) (by omega)
        have e3 := ih (x - p) (by omega) (by omega) (by omega)
        rw [show x - p + p = x by omega] at e1
        rw [show x + s - p + p = x + s by omega] at e2
        rw [show x - p + s = x + s - p by omega] at e3
        rw [← e1, e3, e2]
  by_cases c : a ≤ x
  · exact up (x - a).toNat x (by omega) c x1
  · have e1 := per x x0 (by omega)
    have e2 := per (x + s) (by omega) (by omega)
    have e3 := up (x + p - a).toNat (x + p) (by omega) (by omega) (by omega)
    rw [e1, e3, e2, show x + p + s = x + s + p by omega]
/-- a run has a root: a place whose suffix is less than the next p - 1, and greater than the one behind these -/
theorem run_root {i j p : Int} (hf : ∀ k, 0 ≤ k → k < n → 0 ≤ f k) (h : RunAt n f i j p) : ∃ k s, (s = 1 ∨ s = -1) ∧ i < k ∧ k ≤ i + p ∧ (∀ t, 0 < t → t < p → slt s (rho n f k) (rho n f (k + t))) ∧ slt s (rho n f (k + p)) (rho n f k) := by
  obtain ⟨⟨i0, j1, p1, len⟩, per, beg, fin, least⟩ := h
  -- the order
  obtain ⟨s, hs, hA⟩ : ∃ s : Int, (s = 1 ∨ s = -1) ∧ slt s (rho n f j) (rho n f (j - p)) := by
    by_cases c : j < n ∧ f (j - p) < f j
    · exact ⟨-1, Or.inr rfl, Or.inr ⟨rfl, rho_lt hf (by omega) (by omega) (by omega) c.1 c.2⟩⟩
    · refine ⟨1, Or.inl rfl, Or.inl ⟨rfl, ?_⟩⟩
      by_cases d : j = n
      · rw [d]
        exact (rho_iff hf (by omega) (by omega) (by omega) (by omega)).mpr (sls_e.mpr (by omega))
      · have := fin.resolve_left d
        exact rho_lt hf (by omega) (by omega) (by omega) (by omega) (by omega)
  have hAx : ∀ x, i ≤ x → x ≤ j - p → slt s (rho n f (x + p)) (rho n f x) := fun x x0 x1 => by
    have e1 := rho_shI (a := x + p) (b := x) (d := j - p - x) hf (by omega) (by omega) (by omega) (by omega) (by omega) (fun k k0 k1 => by
      have := per (x + k) (by omega) (by omega)
      rw [show x + p + k = x + k + p by omega]; exact this.symm)
    have e2 := rho_shI (a := x) (b := x + p) (d := j - p - x) hf (by omega) (by omega) (by omega) (by omega) (by omega) (fun k k0 k1 => by
      have := per (x + k) (by omega) (by omega)
      rw [show x + p + k = x + k + p by omega]; exact this)
    rw [show x + p + (j - p - x) = j by omega, show x + (j - p - x) = j - p by omega] at e1 e2
    rcases hA with ⟨y, z⟩ | ⟨y, z⟩
    · exact Or.inl ⟨y, e1.mpr z⟩
    · exact Or.inr ⟨y, e2.mpr z⟩
  obtain ⟨k, k0, k1, k2⟩ := lsh_min (F := fun x => s * f x) (h := p) (a := i + 1) (p - 1).toNat
  rw [show i + 1 + ((p - 1).toNat : Int) = i + p by omega] at k1 k2
  refine ⟨k, s, hs, by omega, k1, fun t t0 t1 => ?_, hAx k (by omega) (by omega)⟩
  -- the turned place k + t
  obtain ⟨q, q0, q1, hq⟩ : ∃ q, i + 1 ≤ q ∧ q ≤ i + p ∧ (q = k + t ∨ q = k + t - p) := by
    by_cases c : k + t ≤ i + p
    · exact ⟨k + t, by omega, c, Or.inl rfl⟩
    · exact ⟨k + t - p, by omega, by omega, Or.inr rfl⟩
  obtain ⟨r, r0, r1, hr⟩ : ∃ r, i + 1 ≤ r ∧ r ≤ i + p ∧ (r = k + (p - t) ∨ r = k + (p - t) - p) := by
    by_cases c : k + (p - t) ≤ i + p
    · exact ⟨k + (p - t), by omega, c, Or.inl rfl⟩
    · exact ⟨k + (p - t) - p, by omega, by omega, Or.inr rfl⟩
  have E0 : ∀ m, 0 ≤ m → t + m < p → f (q + m) = f (k + t + m) := fun m m0 m1 => by
    rcases hq with e | e
    · rw [e]
    · have := per (q + m) (by omega) (by omega)
      rw [this, show q + m + p = k + t + m by omega]
  have E1 : ∀ m, 0 ≤ m → p - t + m < p → f (k + (p - t) + m) = f (r + m) := fun m m0 m1 => by
    rcases hr with e | e
    · rw [e]
    · have := per (r + m) (by omega) (by omega)
      rw [this, show r + m + p = k + (p - t) + m by omega]
  have E2 : ∀ m, 0 ≤ m → p - t + m < p → f (q + (p - t) + m) = f (k + m) := fun m m0 m1 => by
    rcases hq with e | e
    · have := per (k + m) (by omega) (by omega)
      rw [this, show q + (p - t) + m = k + m + p by omega]
    · rw [show q + (p - t) + m = k + m by omega]
  have cmp : ∀ a b : Int, s * f a < s * f b ↔ slt s (f a) (f b) := fun a b => by
    unfold slt
    rcases hs with rfl | rfl <;> omega
  have ceq : ∀ a b : Int, s * f a = s * f b ↔ f a = f b := fun a b => by
    rcases hs with rfl | rfl <;> omega
  rcases lsh_triI (F := fun x => s * f x) (h := p) (i := q) (j := k) (by omega) with c | c | c
  · exact absurd c (k2 q q0 q1)
  · exfalso
    have c' : ∀ m, 0 ≤ m → m < p → f (q + m) = f (k + m) := fun m m0 m1 => (ceq _ _).mp (c m m0 m1)
    rcases Int.lt_trichotomy q k with e | e | e
    · obtain ⟨x, x0, x1, x2⟩ := least (k - q) (by omega) (by omega)
      exact x2 (per_all (a := q) (s := k - q) per p1 (by omega) (by omega) (by omega) (by omega) (fun m m0 m1 => by rw [show q + (k - q) + m = k + m by omega]; exact c' m m0 m1) x0 x1)
    · omega
    · obtain ⟨x, x0, x1, x2⟩ := least (q - k) (by omega) (by omega)
      exact x2 (per_all (a := k) (s := q - k) per p1 (by omega) (by omega) (by omega) (by omega) (fun m m0 m1 => by rw [show k + (q - k) + m = q + m by omega]; exact (c' m m0 m1).symm) x0 x1)
  · obtain ⟨u, u0, u1, u2, u3⟩ := c
    have u2 : ∀ m, 0 ≤ m → m < u → f (k + m) = f (q + m) := fun m m0 m1 => (ceq _ _).mp (u2 m m0 m1)
    have u3 : slt s (f (k + u)) (f (q + u)) := (cmp _ _).mp u3
    by_cases d : t + u < p
    · have e1 : ∀ m, 0 ≤ m → m < u → f (k + m) = f (k + t + m) := fun m m0 m1 => (u2 m m0 m1).trans (E0 m m0 (by omega))
      have e2 := rho_shI (a := k) (b := k + t) (d := u) hf (by omega) (by omega) u0 (by omega) (by omega) e1
      have e3 := rho_shI (a := k + t) (b := k) (d := u) hf (by omega) (by omega) u0 (by omega) (by omega) (fun m m0 m1 => (e1 m m0 m1).symm)
      rw [E0 u u0 d] at u3
      rcases u3 with ⟨y, z⟩ | ⟨y, z⟩
      · exact Or.inl ⟨y, e2.mpr (rho_lt hf (by omega) (by omega) (by omega) (by omega) z)⟩
      · exact Or.inr ⟨y, e3.mpr (rho_lt hf (by omega) (by omega) (by omega) (by omega) z)⟩
    · exfalso
      refine k2 r r0 r1 ⟨u - (p - t), by omega, by omega, fun m m0 m1 => (ceq _ _).mpr ?_, (cmp _ _).mpr ?_⟩
      · have a1 := u2 (p - t + m) (by omega) (by omega)
        have a2 := E1 m m0 (by omega)
        have a3 := E2 m m0 (by omega)
        rw [show k + (p - t + m) = k + (p - t) + m by omega, show q + (p - t + m) = q + (p - t) + m by omega] at a1
        rw [← a2, a1, a3]
      · have a2 := E1 (u - (p - t)) (by omega) (by omega)
        have a3 := E2 (u - (p - t)) (by omega) (by omega)
        rw [show k + (p - t) + (u - (p - t)) = k + u by omega] at a2
        rw [show q + (p - t) + (u - (p - t)) = q + u by omega] at a3
        rw [← a2, ← a3]; exact u3
/-- k is the root of the run at i with p -/
def isRt (n : Int) (f : Int → Int) (i p k : Int) : Prop := ∃ s, (s = 1 ∨ s = -1) ∧ i < k ∧ k ≤ i + p ∧ (∀ t, 0 < t → t < p → slt s (rho n f k) (rho n f (k + t))) ∧ slt s (rho n f (k + p)) (rho n f k)
theorem rt_one {i j p i' j' p' k : Int} (hf : ∀ k, 0 ≤ k → k < n → 0 ≤ f k) (h : RunAt n f i j p) (h' : RunAt n f i' j' p') (r : isRt n f i p k) (r' : isRt n f i' p' k) (hp : p = 1) (hp' : 2 ≤ p') : False := by
  obtain ⟨⟨i0, j1, p1, len⟩, per, -, -, -⟩ := h
  obtain ⟨⟨i0', j1', p1', len'⟩, per', -, -, -⟩ := h'
  obtain ⟨s, hs, a1, a2, -, -⟩ := r
  obtain ⟨s', hs', b1, b2, b3, b4⟩ := r'
  have e1 := per (k - 1) (by omega) (by omega)
  have e2 := per' (k - 1) (by omega) (by omega)
  rw [hp, show k - 1 + 1 = k by omega] at e1
  have e3 : f k = f (k + (p' - 1)) := by rw [← e1, e2, show k - 1 + p' = k + (p' - 1) by omega]
  have x1 := b3 1 (by omega) (by omega)
  have x2 := b3 (p' - 1) (by omega) (by omega)
  have y1 := rho_eq (a := k) (b := k + (p' - 1)) hf (by omega) (by omega) (by omega) (by omega) e3
  have y2 := rho_eq (a := k + (p' - 1)) (b := k) hf (by omega) (by omega) (by omega) (by omega) e3.symm
  rw [show k + (p' - 1) + 1 = k + p' by omega] at y1 y2
  unfold slt at x1 x2 b4
  rcases hs' with rfl | rfl
  · have z2 : rho n f k < rho n f (k + (p' - 1)) := by omega
    have := y1.mp z2
    omega
  · have z2 : rho n f (k + (p' - 1)) < rho n f k := by omega
    have := y2.mp z2
    omega
theorem rt_inj {i j p i' j' p' k : Int} (hf : ∀ k, 0 ≤ k → k < n → 0 ≤ f k) (h : RunAt n f i j p) (h' : RunAt n f i' j' p') (r : isRt n f i p k) (r' : isRt n f i' p' k) : i = i' ∧ p = p' := by
  have hp : p = p' := by
    by_cases c1 : p = 1
    · by_cases c2 : p' = 1
      · omega
      · exact (rt_one hf h h' r r' c1 (by have := h'.1; omega)).elim
    · by_cases c2 : p' = 1
      · exact (rt_one hf h' h r' r c2 (by have := h.1; omega)).elim
      · obtain ⟨s, hs, a1, a2, a3, a4⟩ := r
        obtain ⟨s', hs', b1, b2, b3, b4⟩ := r'
        have g1 := h.1
        have g2 := h'.1
        have x1 := a3 1 (by omega) (by omega)
        have x2 := b3 1 (by omega) (by omega)
        have ss : s = s' := by
          unfold slt at x1 x2
          omega
        subst ss
        rcases Int.lt_trichotomy p p' with c | c | c
        · have := b3 p (by omega) c
          unfold slt at this a4
          omega
        · exact c
        · have := a3 p' (by omega) c
          unfold slt at this b4
          omega
  subst hp
  refine ⟨?_, rfl⟩
  obtain ⟨⟨i0, j1, p1, len⟩, per, beg, -, -⟩ := h
  obtain ⟨⟨i0', j1', p1', len'⟩, per', beg', -, -⟩ := h'
  obtain ⟨s, hs, a1, a2, -, -⟩ := r
  obtain ⟨s', hs', b1, b2, -, -⟩ := r'
  rcases Int.lt_trichotomy i i' with c | c | c
  · exact absurd (per (i' - 1) (by omega) (by omega)) (beg'.resolve_left (by omega))
  · exact c
  · exact absurd (per' (i - 1) (by omega) (by omega)) (beg.resolve_left (by omega))
end RUNS0
/-! lists whose rows have different keys -/
theorem nd_len {n : Int} (hn : 0 ≤ n) {κ : TR → Int} : ∀ l : List TR, l.Pairwise (fun a b => κ a ≠ κ b) → (∀ a ∈ l, 0 ≤ κ a ∧ κ a < n) → cntI (fun k => ∃ a ∈ l, κ a = k) n = (l.length : Int)
  | [], _, _ => by
    have z : cntI (fun k => ∃ a ∈ ([] : List TR), κ a = k) n ≤ 0 := (cntI_none hn).mpr fun k _ _ ⟨a, ha, _⟩ => by cases ha
    have := (cntI_r (p := fun k => ∃ a ∈ ([] : List TR), κ a = k) hn).1
    show _ = ((0 : Nat) : Int)
    omega
  | a :: l, hp, hb => by
    have ih := nd_len hn l (List.pairwise_cons.mp hp).2 (fun b h => hb b (List.mem_cons_of_mem _ h))
    have ha := hb a List.mem_cons_self
    have e : cntI (fun k => ∃ b ∈ a :: l, κ b = k) n = cntI (fun k => k = κ a ∨ ∃ b ∈ l, κ b = k) n := cntI_c fun k _ _ => by
      constructor
      · rintro ⟨b, hb, e⟩
        rcases List.mem_cons.mp hb with rfl | h
        · exact Or.inl e.symm
        · exact Or.inr ⟨b, h, e⟩
      · rintro (e | ⟨b, hb, e⟩)
        · exact ⟨a, List.mem_cons_self, e.symm⟩
        · exact ⟨b, List.mem_cons_of_mem _ hb, e⟩
    rw [e, cntI_split (p := fun k => k = κ a) (q := fun k => ∃ b ∈ l, κ b = k) n (fun k ⟨e1, b, hb, e2⟩ => (List.pairwise_cons.mp hp).1 b hb (by omega)), cnt_is ha.1 ha.2, ih]
    show _ = ((l.length + 1 : Nat) : Int)
    omega
theorem nd_le {n : Int} (hn : 0 ≤ n) {κ : TR → Int} {l : List TR} (h1 : l.Pairwise (fun a b => κ a ≠ κ b)) (h2 : ∀ a ∈ l, 0 ≤ κ a ∧ κ a < n) : (l.length : Int) ≤ n := by
  rw [← nd_len hn l h1 h2]
  exact (cntI_r hn).2
