/-! counting, permutations, orders by the first h signs -/
theorem cntI_s {p : Int → Prop} {n : Int} (h : 0 ≤ n) : cntI p (n + 1) = cntI p n + b01 (p n) := smI_s h
theorem cntI_imp {p q : Int → Prop} {n : Int} (h : ∀ i, 0 ≤ i → i < n → p i → q i) : cntI p n ≤ cntI q n := by
  unfold cntI
  refine smI_le fun i i0 i1 => ?_
  rcases Classical.em (p i) with z | z
  · rw [b01_t z, b01_t (h i i0 i1 z)]; omega
  · rw [b01_f z]; exact (b01_r _).1
theorem cntI_split {p q : Int → Prop} (n : Int) (h : ∀ i, ¬ (p i ∧ q i)) : cntI (fun i => p i ∨ q i) n = cntI p n + cntI q n := by
  unfold cntI
  rw [← smI_add]
  refine smI_c fun i _ _ => ?_
  rcases Classical.em (p i) with z | z
  · rw [b01_t (Or.inl z), b01_t z, b01_f (fun y => h i ⟨z, y⟩)]; omega
  · rcases Classical.em (q i) with y | y
    · rw [b01_t (Or.inr y), b01_f z, b01_t y]; omega
    · rw [b01_f (fun w => w.elim z y), b01_f z, b01_f y]; omega
theorem cntI_lt1 {g : Int → Int} {b n : Int} : cntI (fun q => g q < b + 1) n = cntI (fun q => g q < b) n + cntI (fun q => g q = b) n := by
  rw [← cntI_split n (fun i z => by omega)]
  exact cntI_c fun i _ _ => by omega
theorem cntI_step {p : Int → Prop} {r n : Int} (h0 : 0 ≤ r) (h1 : r < n) (hp : p r) : cntI p r + 1 ≤ cntI p n := by
  rw [← cntI_t h0 hp]; exact cntI_mono (by omega) (by omega)
theorem cnt_hit {p : Int → Prop} : ∀ (n : Nat) (m : Int), 0 ≤ m → m < cntI p n → ∃ r : Int, 0 ≤ r ∧ r < n ∧ p r ∧ cntI p r = m
  | 0, m, h0, h1 => by rw [cntI_z (by omega)] at h1; omega
  | n + 1, m, h0, h1 => by
    rcases Classical.em (p n) with z | z
    · rw [show ((n + 1 : Nat) : Int) = (n : Int) + 1 by omega, cntI_t (by omega) z] at h1
      by_cases hm : m = cntI p n
      · exact ⟨n, by omega, by omega, z, hm.symm⟩
      · obtain ⟨r, r0, r1, r2, r3⟩ := cnt_hit (p := p) n m h0 (by omega)
        exact ⟨r, r0, by omega, r2, r3⟩
    · rw [show ((n + 1 : Nat) : Int) = (n : Int) + 1 by omega, cntI_f (by omega) z] at h1
      obtain ⟨r, r0, r1, r2, r3⟩ := cnt_hit n m h0 h1
      exact ⟨r, r0, by omega, r2, r3⟩
theorem pig : ∀ (n : Nat) (p : Int → Int), (∀ r : Int, 0 ≤ r → r < n → 0 ≤ p r ∧ p r < n) → (∀ q r : Int, 0 ≤ q → q < n → 0 ≤ r → r < n → p q = p r → q = r) → ∀ y : Int, 0 ≤ y → y < n → ∃ r : Int, 0 ≤ r ∧ r < n ∧ p r = y
  | 0, _, _, _, y, h0, h1 => by omega
  | n + 1, p, hr, hi, y, h0, h1 => by
    have e : ((n + 1 : Nat) : Int) = (n : Int) + 1 := by omega
    rw [e] at hr hi h1
    obtain ⟨z, hz⟩ : ∃ z, z = p n := ⟨_, rfl⟩
    have zr := hr n (by omega) (by omega)
    rw [← hz] at zr
    have ih := pig n (fun r => if p r = n then z else p r) (fun r r0 r1 => by
      have a := hr r r0 (by omega)
      show 0 ≤ (if p r = n then z else p r) ∧ (if p r = n then z else p r) < n
      by_cases c : p r = n
      · rw [if_pos c]
        have : z ≠ n := fun d => by have := hi r n r0 (by omega) (by omega) (by omega) (by omega); omega
        omega
      · rw [if_neg c]; omega) (fun q r q0 q1 r0 r1 h => by
      have h : (if p q = n then z else p q) = (if p r = n then z else p r) := h
      by_cases c : p q = n
      · by_cases d : p r = n
        · exact hi q r q0 (by omega) r0 (by omega) (by omega)
        · rw [if_pos c, if_neg d] at h
          have := hi r n r0 (by omega) (by omega) (by omega) (by omega)
          omega
      · by_cases d : p r = n
        · rw [if_neg c, if_pos d] at h
          have := hi q n q0 (by omega) (by omega) (by omega) (by omega)
          omega
        · rw [if_neg c, if_neg d] at h
          exact hi q r q0 (by omega) r0 (by omega) h)
    by_cases hy : y = z
    · exact ⟨n, by omega, by omega, by omega⟩
    · by_cases hy2 : y < n
      · obtain ⟨r, r0, r1, r2⟩ := ih y h0 hy2
        have r2 : (if p r = n then z else p r) = y := r2
        by_cases c : p r = n
        · rw [if_pos c] at r2; omega
        · rw [if_neg c] at r2; exact ⟨r, r0, by omega, r2⟩
      · obtain ⟨r, r0, r1, r2⟩ := ih z zr.1 (by omega)
        have r2 : (if p r = n then z else p r) = z := r2
        by_cases c : p r = n
        · exact ⟨r, r0, by omega, by omega⟩
        · rw [if_neg c] at r2
          have := hi r n r0 (by omega) (by omega) (by omega) (by omega)
          omega
/-- a permutation of the places below n -/
def Prm (n : Int) (p : Int → Int) : Prop := (∀ r, 0 ≤ r → r < n → 0 ≤ p r ∧ p r < n) ∧ (∀ q r, 0 ≤ q → q < n → 0 ≤ r → r < n → p q = p r → q = r) ∧ ∀ y, 0 ≤ y → y < n → ∃ r, 0 ≤ r ∧ r < n ∧ p r = y
theorem Prm_of {n : Int} {p : Int → Int} (h0 : 0 ≤ n) (h1 : ∀ r, 0 ≤ r → r < n → 0 ≤ p r ∧ p r < n) (h2 : ∀ q r, 0 ≤ q → q < n → 0 ≤ r → r < n → p q = p r → q = r) : Prm n p := ⟨h1, h2, by
  have e : (n.toNat : Int) = n := by omega
  have a := pig n.toNat p (by rw [e]; exact h1) (by rw [e]; exact h2)
  rw [e] at a
  exact a⟩
theorem Prm_cnt {n : Int} {p : Int → Int} (h : Prm n p) : ∀ m : Nat, (m : Int) ≤ n → cntI (fun q => p q < m) n = m
  | 0, hm => by
    have a : cntI (fun q => p q < (0 : Nat)) n = cntI (fun _ => False) n := cntI_c fun i i0 i1 => ⟨fun z => by have := (h.1 i i0 i1).1; omega, fun z => z.elim⟩
    rw [a]
    have b : ∀ k : Nat, cntI (fun _ => False) (k : Int) = 0 := fun k => by
      induction k with
      | zero => exact cntI_z (by omega)
      | succ k ih => rw [show ((k + 1 : Nat) : Int) = (k : Int) + 1 by omega, cntI_f (by omega) (fun z => z)]; exact ih
    have c := b n.toNat
    rw [show (n.toNat : Int) = n by omega] at c
    rw [c]; rfl
  | m + 1, hm => by
    have a := Prm_cnt h m (by omega)
    have b := @cntI_lt1 p m n
    rw [show ((m + 1 : Nat) : Int) = (m : Int) + 1 by omega, b, a]
    obtain ⟨r, r0, r1, r2⟩ := h.2.2 m (by omega) (by omega)
    have c : cntI (fun q => p q = m) n = cntI (fun q => q = r) n := cntI_c fun i i0 i1 => ⟨fun z => h.2.1 i r i0 i1 r0 r1 (by omega), fun z => by rw [z]; exact r2⟩
    have d : ∀ k : Nat, cntI (fun q => q = r) (k : Int) = if r < k then 1 else 0 := fun k => by
      induction k with
      | zero => rw [if_neg (by omega)]; exact cntI_z (by omega)
      | succ k ih =>
        rw [show ((k + 1 : Nat) : Int) = (k : Int) + 1 by omega]
        by_cases z : (k : Int) = r
        · rw [cntI_t (p := fun q => q = r) (by omega) z, ih, if_neg (by omega), if_pos (by omega)]; omega
        · rw [cntI_f (p := fun q => q = r) (by omega) z, ih]
          by_cases y : r < (k : Int)
          · rw [if_pos y, if_pos (by omega)]
          · rw [if_neg y, if_neg (by omega)]
    have e := d n.toNat
    rw [show (n.toNat : Int) = n by omega, if_pos r1] at e
    rw [c, e]
theorem Prm_cntI {n m : Int} {p : Int → Int} (h : Prm n p) (h0 : 0 ≤ m) (h1 : m ≤ n) : cntI (fun q => p q < m) n = m := by
  have a := Prm_cnt h m.toNat (by omega)
  rw [show (m.toNat : Int) = m by omega] at a
  exact a
/-- where the one that stands at r goes, by its key -/
noncomputable def psn (n : Int) (g : Int → Int) (r : Int) : Int := cntI (fun q => g q < g r) n + cntI (fun q => g q = g r) r
theorem psn_r {n r : Int} {g : Int → Int} (h0 : 0 ≤ r) (h1 : r < n) : 0 ≤ psn n g r ∧ psn n g r < n := by
  have a := @cntI_r (fun q => g q < g r) n (by omega)
  have b := @cntI_r (fun q => g q = g r) r (by omega)
  have c := @cntI_step (fun q => g q = g r) r n h0 h1 rfl
  have d := @cntI_lt1 g (g r) n
  have e := @cntI_r (fun q => g q < g r + 1) n (by omega)
  unfold psn
  omega
theorem psn_lt {n q r : Int} {g : Int → Int} (q0 : 0 ≤ q) (q1 : q < n) (r0 : 0 ≤ r) (r1 : r < n) (h : g q < g r ∨ (g q = g r ∧ q < r)) : psn n g q < psn n g r := by
  unfold psn
  rcases h with h | h
  · have c := @cntI_step (fun x => g x = g q) q n q0 q1 rfl
    have d := @cntI_lt1 g (g q) n
    have e := @cntI_imp (fun x => g x < g q + 1) (fun x => g x < g r) n (fun i _ _ z => by omega)
    have b := (@cntI_r (fun x => g x = g r) r (by omega)).1
    omega
  · have c := @cntI_step (fun x => g x = g q) q r q0 h.2 rfl
    rw [← h.1]
    omega
theorem psn_inj {n q r : Int} {g : Int → Int} (q0 : 0 ≤ q) (q1 : q < n) (r0 : 0 ≤ r) (r1 : r < n) (h : psn n g q = psn n g r) : q = r := by
  rcases Int.lt_trichotomy (g q) (g r) with c | c | c
  · have := psn_lt q0 q1 r0 r1 (Or.inl c); omega
  · rcases Int.lt_trichotomy q r with d | d | d
    · have := psn_lt q0 q1 r0 r1 (Or.inr ⟨c, d⟩); omega
    · exact d
    · have := psn_lt r0 r1 q0 q1 (Or.inr ⟨c.symm, d⟩); omega
  · have := psn_lt r0 r1 q0 q1 (Or.inl c); omega
theorem psn_prm {n : Int} {g : Int → Int} (h : 0 ≤ n) : Prm n (psn n g) := Prm_of h (fun r r0 r1 => psn_r r0 r1) (fun q r q0 q1 r0 r1 e => psn_inj q0 q1 r0 r1 e)
/-- what is put by keys is a permutation again, and in order -/
theorem put_prm {n : Int} {sp od g : Int → Int} (h : 0 ≤ n) (hs : Prm n sp) (ho : ∀ r, 0 ≤ r → r < n → od (psn n g r) = sp r) : Prm n od := by
  have pp := @psn_prm n g h
  refine ⟨fun y y0 y1 => ?_, fun y z y0 y1 z0 z1 e => ?_, fun x x0 x1 => ?_⟩
  · obtain ⟨r, r0, r1, rfl⟩ := pp.2.2 y y0 y1
    rw [ho r r0 r1]; exact hs.1 r r0 r1
  · obtain ⟨r, r0, r1, rfl⟩ := pp.2.2 y y0 y1
    obtain ⟨q, q0, q1, rfl⟩ := pp.2.2 z z0 z1
    rw [ho r r0 r1, ho q q0 q1] at e
    rw [hs.2.1 r q r0 r1 q0 q1 e]
  · obtain ⟨r, r0, r1, e⟩ := hs.2.2 x x0 x1
    have := pp.1 r r0 r1
    exact ⟨_, this.1, this.2, by rw [ho r r0 r1]; exact e⟩
theorem put_ord {n : Int} {sp od g : Int → Int} (h : 0 ≤ n) (ho : ∀ r, 0 ≤ r → r < n → od (psn n g r) = sp r) {y z : Int} (y0 : 0 ≤ y) (yz : y < z) (z1 : z < n) : ∃ r q, 0 ≤ r ∧ r < n ∧ 0 ≤ q ∧ q < n ∧ od y = sp r ∧ od z = sp q ∧ (g r < g q ∨ (g r = g q ∧ r < q)) := by
  have pp := @psn_prm n g h
  obtain ⟨r, r0, r1, rfl⟩ := pp.2.2 y y0 (by omega)
  obtain ⟨q, q0, q1, rfl⟩ := pp.2.2 z (by omega) z1
  refine ⟨r, q, r0, r1, q0, q1, ho r r0 r1, ho q q0 q1, ?_⟩
  rcases Int.lt_trichotomy (g r) (g q) with c | c | c
  · exact Or.inl c
  · rcases Int.lt_trichotomy r q with d | d | d
    · exact Or.inr ⟨c, d⟩
    · rw [d] at yz; omega
    · have := psn_lt q0 q1 r0 r1 (Or.inr ⟨c.symm, d⟩); omega
  · have := psn_lt q0 q1 r0 r1 (Or.inl c); omega
def eqh (F : Int → Int) (h i j : Int) : Prop := ∀ k, 0 ≤ k → k < h → F (i + k) = F (j + k)
def lsh (F : Int → Int) (h i j : Int) : Prop := ∃ k, 0 ≤ k ∧ k < h ∧ (∀ m, 0 ≤ m → m < k → F (i + m) = F (j + m)) ∧ F (i + k) < F (j + k)
theorem eqh_refl {F : Int → Int} {h i : Int} : eqh F h i i := fun _ _ _ => rfl
theorem eqh_symm {F : Int → Int} {h i j : Int} (e : eqh F h i j) : eqh F h j i := fun k k0 k1 => (e k k0 k1).symm
theorem eqh_trans {F : Int → Int} {h i j l : Int} (e : eqh F h i j) (e' : eqh F h j l) : eqh F h i l := fun k k0 k1 => (e k k0 k1).trans (e' k k0 k1)
theorem lsh_irr {F : Int → Int} {h i j : Int} (e : eqh F h i j) : ¬ lsh F h i j := fun ⟨k, k0, k1, _, k3⟩ => by have := e k k0 k1; omega
theorem lsh_el {F : Int → Int} {h i j l : Int} (e : eqh F h i j) (e' : lsh F h j l) : lsh F h i l := by
  obtain ⟨k, k0, k1, k2, k3⟩ := e'
  exact ⟨k, k0, k1, fun m m0 m1 => (e m m0 (by omega)).trans (k2 m m0 m1), by rw [e k k0 k1]; exact k3⟩
theorem lsh_le {F : Int → Int} {h i j l : Int} (e : lsh F h i j) (e' : eqh F h j l) : lsh F h i l := by
  obtain ⟨k, k0, k1, k2, k3⟩ := e
  exact ⟨k, k0, k1, fun m m0 m1 => (k2 m m0 m1).trans (e' m m0 (by omega)), by rw [← e' k k0 k1]; exact k3⟩
theorem lsh_trans {F : Int → Int} {h i j l : Int} (e : lsh F h i j) (e' : lsh F h j l) : lsh F h i l := by
  obtain ⟨k, k0, k1, k2, k3⟩ := e
  obtain ⟨p, p0, p1, p2, p3⟩ := e'
  rcases Int.lt_trichotomy k p with c | c | c
  · exact ⟨k, k0, k1, fun m m0 m1 => (k2 m m0 m1).trans (p2 m m0 (by omega)), by rw [← p2 k k0 c]; exact k3⟩
  · subst c
    exact ⟨k, k0, k1, fun m m0 m1 => (k2 m m0 m1).trans (p2 m m0 m1), by omega⟩
  · exact ⟨p, p0, p1, fun m m0 m1 => (k2 m m0 (by omega)).trans (p2 m m0 m1), by rw [k2 p p0 c]; exact p3⟩
theorem lsh_asym {F : Int → Int} {h i j : Int} (e : lsh F h i j) : ¬ lsh F h j i := fun e' => lsh_irr eqh_refl (lsh_trans e e')
theorem lsh_tri {F : Int → Int} {i j : Int} : ∀ h : Nat, lsh F h i j ∨ eqh F h i j ∨ lsh F h j i
  | 0 => Or.inr (Or.inl fun k k0 k1 => by omega)
  | h + 1 => by
    rcases lsh_tri (F := F) (i := i) (j := j) h with ⟨k, k0, k1, k2, k3⟩ | e | ⟨k, k0, k1, k2, k3⟩
    · exact Or.inl ⟨k, k0, by omega, k2, k3⟩
    · rcases Int.lt_trichotomy (F (i + h)) (F (j + h)) with c | c | c
      · exact Or.inl ⟨h, by omega, by omega, fun m m0 m1 => e m m0 m1, c⟩
      · refine Or.inr (Or.inl fun k k0 k1 => ?_)
        by_cases z : k = h
        · rw [z]; exact c
        · exact e k k0 (by omega)
      · exact Or.inr (Or.inr ⟨h, by omega, by omega, fun m m0 m1 => (e m m0 m1).symm, c⟩)
    · exact Or.inr (Or.inr ⟨k, k0, by omega, k2, k3⟩)
theorem lsh_triI {F : Int → Int} {h i j : Int} (h0 : 0 ≤ h) : lsh F h i j ∨ eqh F h i j ∨ lsh F h j i := by
  have a := @lsh_tri F i j h.toNat
  rw [show (h.toNat : Int) = h by omega] at a
  exact a
theorem eqh_2 {F : Int → Int} {h i j : Int} (h0 : 0 ≤ h) : eqh F (h * 2) i j ↔ eqh F h i j ∧ eqh F h (i + h) (j + h) := by
  constructor
  · intro e
    refine ⟨fun k k0 k1 => e k k0 (by omega), fun k k0 k1 => ?_⟩
    have := e (h + k) (by omega) (by omega)
    rw [← Int.add_assoc, ← Int.add_assoc] at this
    exact this
  · rintro ⟨e, e'⟩ k k0 k1
    by_cases c : k < h
    · exact e k k0 c
    · have := e' (k - h) (by omega) (by omega)
      rw [show i + h + (k - h) = i + k by omega, show j + h + (k - h) = j + k by omega] at this
      exact this
theorem lsh_2 {F : Int → Int} {h i j : Int} (h0 : 0 ≤ h) (e : lsh F (h * 2) i j) : lsh F h i j ∨ (eqh F h i j ∧ lsh F h (i + h) (j + h)) := by
  obtain ⟨k, k0, k1, k2, k3⟩ := e
  by_cases c : k < h
  · exact Or.inl ⟨k, k0, c, k2, k3⟩
  · refine Or.inr ⟨fun m m0 m1 => k2 m m0 (by omega), k - h, by omega, by omega, fun m m0 m1 => ?_, ?_⟩
    · have := k2 (h + m) (by omega) (by omega)
      rw [← Int.add_assoc, ← Int.add_assoc] at this
      exact this
    · rw [show i + h + (k - h) = i + k by omega, show j + h + (k - h) = j + k by omega]; exact k3
/-- in order by the first h signs -/
def Srt (F : Int → Int) (h n : Int) (od : Int → Int) : Prop := ∀ r q, 0 ≤ r → r < q → q < n → ¬ lsh F h (od q) (od r)
/-- how often the first h signs change in the order -/
noncomputable def chg (F : Int → Int) (h : Int) (od : Int → Int) (r : Int) : Int := cntI (fun q => 1 ≤ q ∧ ¬ eqh F h (od q) (od (q - 1))) r
theorem chg_b {F : Int → Int} {h r : Int} {od : Int → Int} (r0 : 0 ≤ r) : ∀ d : Nat, chg F h od (r + 1) = chg F h od (r + d + 1) → eqh F h (od r) (od (r + d))
  | 0, _ => by rw [show r + ((0 : Nat) : Int) = r by omega]; exact eqh_refl
  | d + 1, e => by
    have m := @cntI_mono (fun q => 1 ≤ q ∧ ¬ eqh F h (od q) (od (q - 1))) (r + 1) (r + d + 1) (by omega) (by omega)
    have hh : 0 ≤ r + (d : Int) + 1 := by omega
    unfold chg at e
    rw [show r + ((d + 1 : Nat) : Int) + 1 = r + d + 1 + 1 by omega, cntI_s hh] at e
    have b := b01_r (1 ≤ r + (d : Int) + 1 ∧ ¬ eqh F h (od (r + d + 1)) (od (r + d + 1 - 1)))
    have i := chg_b (F := F) (h := h) (od := od) r0 d (by unfold chg; omega)
    have z : eqh F h (od (r + d + 1)) (od (r + d + 1 - 1)) := by
      rcases Classical.em (eqh F h (od (r + d + 1)) (od (r + d + 1 - 1))) with c | c
      · exact c
      · rw [b01_t ⟨by omega, c⟩] at e; omega
    rw [show r + (d : Int) + 1 - 1 = r + d by omega] at z
    rw [show r + ((d + 1 : Nat) : Int) = r + d + 1 by omega]
    exact eqh_trans i (eqh_symm z)
theorem chg_c {F : Int → Int} {h n r : Int} {od : Int → Int} (h0 : 0 ≤ h) (hs : Srt F h n od) (r0 : 0 ≤ r) : ∀ d : Nat, r + d < n → eqh F h (od r) (od (r + d)) → chg F h od (r + 1) = chg F h od (r + d + 1)
  | 0, _, _ => by rw [show r + ((0 : Nat) : Int) = r by omega]
  | d + 1, hd, e => by
    rw [show r + ((d + 1 : Nat) : Int) = r + d + 1 by omega] at e hd ⊢
    have m1 : eqh F h (od r) (od (r + d)) := by
      by_cases d0 : d = 0
      · rw [d0, show r + ((0 : Nat) : Int) = r by omega]; exact eqh_refl
      · rcases @lsh_triI F h (od r) (od (r + d)) h0 with c | c | c
        · exact absurd (lsh_el (eqh_symm e) c) (hs (r + d) (r + d + 1) (by omega) (by omega) hd)
        · exact c
        · exact absurd c (hs r (r + d) r0 (by omega) (by omega))
    rw [chg_c h0 hs r0 d (by omega) m1]
    unfold chg
    rw [cntI_f (n := r + d + 1) (by omega)]
    rw [show r + (d : Int) + 1 - 1 = r + d by omega]
    exact fun z => z.2 (eqh_trans (eqh_symm e) m1)
theorem rank_ok {F : Int → Int} {h n : Int} {od R : Int → Int} (h0 : 0 ≤ h) (hp : Prm n od) (hs : Srt F h n od) (hR : ∀ r, 0 ≤ r → r < n → R (od r) = chg F h od (r + 1)) {i j : Int} (i0 : 0 ≤ i) (i1 : i < n) (j0 : 0 ≤ j) (j1 : j < n) : (lsh F h i j → R i < R j) ∧ (eqh F h i j → R i = R j) := by
  obtain ⟨r, r0, r1, rfl⟩ := hp.2.2 i i0 i1
  obtain ⟨q, q0, q1, rfl⟩ := hp.2.2 j j0 j1
  have key : ∀ r q, 0 ≤ r → r ≤ q → q < n → (eqh F h (od r) (od q) → R (od r) = R (od q)) ∧ R (od r) ≤ R (od q) ∧ (R (od r) = R (od q) → eqh F h (od r) (od q)) := fun r q r0 rq q1 => by
    rw [hR r r0 (by omega), hR q (by omega) q1]
    obtain ⟨d, hd⟩ : ∃ d : Nat, q = r + d := ⟨(q - r).toNat, by omega⟩
    subst hd
    exact ⟨fun e => chg_c h0 hs r0 d q1 e, cntI_mono (by omega) (by omega), fun e => chg_b r0 d e⟩
  constructor
  · intro l
    rcases Int.lt_or_le r q with c | c
    · obtain ⟨-, b, d⟩ := key r q r0 (by omega) q1
      have : R (od r) ≠ R (od q) := fun e => lsh_irr (d e) l
      omega
    · rcases Int.lt_or_le q r with c' | c'
      · exact absurd l (hs q r q0 c' r1)
      · rw [show r = q by omega] at l
        exact absurd l (lsh_irr eqh_refl)
  · intro e
    rcases Int.le_total r q with c | c
    · exact (key r q r0 c q1).1 e
    · exact ((key q r q0 c r1).1 (eqh_symm e)).symm
theorem chg_le {F : Int → Int} {h : Int} {od : Int → Int} : ∀ r : Nat, 0 ≤ chg F h od (r + 1) ∧ chg F h od (r + 1) ≤ r
  | 0 => by
    unfold chg
    rw [show ((0 : Nat) : Int) + 1 = 0 + 1 by omega, cntI_f (n := 0) (by omega) (by omega), cntI_z (by omega)]
    omega
  | r + 1 => by
    have a := chg_le (F := F) (h := h) (od := od) r
    unfold chg at a ⊢
    have hh : 0 ≤ (r : Int) + 1 := by omega
    rw [show ((r + 1 : Nat) : Int) + 1 = (r : Int) + 1 + 1 by omega, cntI_s hh]
    have b := b01_r (1 ≤ (r : Int) + 1 ∧ ¬ eqh F h (od ((r : Int) + 1)) (od ((r : Int) + 1 - 1)))
    omega
theorem chg_top {F : Int → Int} {h r : Int} {od : Int → Int} (r0 : 0 ≤ r) : ∀ d : Nat, chg F h od (r + 1 + d) ≤ chg F h od (r + 1) + d
  | 0 => by rw [show r + 1 + ((0 : Nat) : Int) = r + 1 by omega]; omega
  | d + 1 => by
    have a := chg_top (F := F) (h := h) (od := od) r0 d
    unfold chg at a ⊢
    have hh : 0 ≤ r + 1 + (d : Int) := by omega
    rw [show r + 1 + ((d + 1 : Nat) : Int) = r + 1 + d + 1 by omega, cntI_s hh]
    have b := b01_r (1 ≤ r + 1 + (d : Int) ∧ ¬ eqh F h (od (r + 1 + d)) (od (r + 1 + d - 1)))
    omega
theorem chg_all {F : Int → Int} {h n r : Int} {od : Int → Int} (hk : chg F h od n + 1 = n) (r0 : 0 ≤ r) (r1 : r < n) : chg F h od (r + 1) = r := by
  have a := (@chg_le F h od r.toNat).2
  have b := @chg_top F h r od r0 (n - r - 1).toNat
  rw [show (r.toNat : Int) = r by omega] at a
  rw [show r + 1 + ((n - r - 1).toNat : Int) = n by omega] at b
  omega
theorem chg_dist {F : Int → Int} {h n : Int} {od : Int → Int} (hd : ∀ q, 1 ≤ q → q < n → ¬ eqh F h (od q) (od (q - 1))) : ∀ r : Nat, (r : Int) < n → chg F h od (r + 1) = r
  | 0, _ => by have := @chg_le F h od 0; omega
  | r + 1, hr => by
    have a := chg_dist hd r (by omega)
    unfold chg at a ⊢
    rw [show ((r + 1 : Nat) : Int) + 1 = (r : Int) + 1 + 1 by omega, cntI_t (by omega) ⟨by omega, hd _ (by omega) (by omega)⟩, a]
    omega
/-- signs, and nothing behind them -/
noncomputable def pd (n : Int) (f : Int → Int) (i : Int) : Int := if 0 ≤ i ∧ i < n then f i + 1 else 0
theorem pd_in {n i : Int} {f : Int → Int} (h0 : 0 ≤ i) (h1 : i < n) : pd n f i = f i + 1 := if_pos ⟨h0, h1⟩
theorem pd_out {n i : Int} {f : Int → Int} (h : n ≤ i) : pd n f i = 0 := if_neg (by omega)
theorem pd_ne {n h i j : Int} {f : Int → Int} (hf : ∀ k, 0 ≤ k → k < n → 0 ≤ f k) (hn : n ≤ h) (i0 : 0 ≤ i) (i1 : i < j) (j1 : j < n) : ¬ eqh (pd n f) h i j := fun e => by
  have a := e (n - j) (by omega) (by omega)
  rw [pd_out (show n ≤ j + (n - j) by omega), pd_in (by omega) (by omega)] at a
  have := hf (i + (n - j)) (by omega) (by omega)
  omega
theorem lsh_lcp {n h i j : Int} {f : Int → Int} (hf : ∀ k, 0 ≤ k → k < n → 0 ≤ f k) (i0 : 0 ≤ i) (j0 : 0 ≤ j) (l : lsh (pd n f) h i j) (i1 : i < n) : sls n f i j := by
  obtain ⟨k, k0, k1, k2, k3⟩ := l
  have jk : j + k < n := by
    rcases Int.lt_or_le (j + k) n with c | c
    · exact c
    · rw [pd_out c] at k3
      unfold pd at k3
      by_cases z : 0 ≤ i + k ∧ i + k < n
      · rw [if_pos z] at k3; have := hf _ z.1 z.2; omega
      · rw [if_neg z] at k3; omega
  have im : ∀ m, 0 ≤ m → m < k → i + m < n ∧ f (i + m) = f (j + m) := fun m m0 m1 => by
    have a := k2 m m0 m1
    rw [pd_in (show 0 ≤ j + m by omega) (by omega)] at a
    have b := hf (j + m) (by omega) (by omega)
    rcases Int.lt_or_le (i + m) n with c | c
    · rw [pd_in (by omega) c] at a; exact ⟨c, by omega⟩
    · rw [pd_out c] at a; omega
  rw [pd_in (show 0 ≤ j + k by omega) jk] at k3
  have ik : i + k ≤ n := by
    by_cases z : k = 0
    · omega
    · have := (im (k - 1) (by omega) (by omega)).1; omega
  have e : lcp2 n f n f i j = k := lcp2_eq ⟨k0, Or.inr ⟨ik, by omega⟩, fun m m0 m1 => (im m m0 m1).2, fun z => by rw [pd_in (by omega) z.1] at k3; omega⟩
  unfold sls
  rw [e]
  by_cases z : i + k = n
  · exact Or.inl ⟨z, jk⟩
  · rw [pd_in (by omega) (by omega)] at k3
    exact Or.inr ⟨by omega, jk, by omega⟩
theorem lcp_sym {n i j : Int} {f : Int → Int} : lcp2 n f n f i j = lcp2 n f n f j i := by
  apply lcp2_eq
  obtain ⟨a1, a2, a3, a4⟩ := @lcp2_is n n f f j i
  exact ⟨a1, a2.imp id (fun z => ⟨z.2, z.1⟩), fun k k0 k1 => (a3 k k0 k1).symm, fun z => a4 ⟨z.2.1, z.1, z.2.2.symm⟩⟩
theorem sls_asym {n i j : Int} {f : Int → Int} (h : sls n f i j) : ¬ sls n f j i := by
  unfold sls at h ⊢
  rw [@lcp_sym n j i f]
  omega
theorem sls_lsh {n i j : Int} {f : Int → Int} (hf : ∀ k, 0 ≤ k → k < n → 0 ≤ f k) (i0 : 0 ≤ i) (i1 : i < n) (j0 : 0 ≤ j) (j1 : j < n) : sls n f i j ↔ lsh (pd n f) n i j := by
  constructor
  · intro s
    rcases @lsh_triI (pd n f) n i j (by omega) with c | c | c
    · exact c
    · rcases Int.lt_trichotomy i j with d | d | d
      · exact absurd c (pd_ne hf (by omega) i0 d j1)
      · subst d; exact absurd s (sls_asym s)
      · exact absurd (eqh_symm c) (pd_ne hf (by omega) j0 d i1)
    · exact absurd (lsh_lcp hf j0 i0 c j1) (sls_asym s)
  · exact fun l => lsh_lcp hf i0 j0 l i1
theorem sls_tot {n i j : Int} {f : Int → Int} (hf : ∀ k, 0 ≤ k → k < n → 0 ≤ f k) (i0 : 0 ≤ i) (i1 : i < n) (j0 : 0 ≤ j) (j1 : j < n) (h : i ≠ j) : sls n f i j ∨ sls n f j i := by
  rw [sls_lsh hf i0 i1 j0 j1, sls_lsh hf j0 j1 i0 i1]
  rcases @lsh_triI (pd n f) n i j (by omega) with c | c | c
  · exact Or.inl c
  · rcases Int.lt_trichotomy i j with d | d | d
    · exact absurd c (pd_ne hf (by omega) i0 d j1)
    · exact absurd d h
    · exact absurd (eqh_symm c) (pd_ne hf (by omega) j0 d i1)
  · exact Or.inr c
theorem sls_tr {n i j l : Int} {f : Int → Int} (hf : ∀ k, 0 ≤ k → k < n → 0 ≤ f k) (i0 : 0 ≤ i) (i1 : i < n) (j0 : 0 ≤ j) (j1 : j < n) (l0 : 0 ≤ l) (l1 : l < n) (h : sls n f i j) (h' : sls n f j l) : sls n f i l := by
  rw [sls_lsh hf i0 i1 j0 j1] at h
  rw [sls_lsh hf j0 j1 l0 l1] at h'
  rw [sls_lsh hf i0 i1 l0 l1]
  exact lsh_trans h h'
theorem rk_lt {n i j : Int} {f : Int → Int} (hf : ∀ k, 0 ≤ k → k < n → 0 ≤ f k) (i0 : 0 ≤ i) (i1 : i < n) (j0 : 0 ≤ j) (j1 : j < n) (h : sls n f i j) : rk n f i < rk n f j := by
  have ni : ∀ x, ¬ sls n f x x := fun x z => sls_asym z z
  have a : cntI (fun q => sls n f q i ∨ q = i) n = cntI (fun q => sls n f q i) n + cntI (fun q => q = i) n := cntI_split n (fun q z => by have := z.2; subst this; exact ni _ z.1)
  have b := @cntI_imp (fun q => sls n f q i ∨ q = i) (fun q => sls n f q j) n (fun q q0 q1 z => by
    rcases z with z | z
    · exact sls_tr hf q0 q1 i0 i1 j0 j1 z h
    · rw [z]; exact h)
  have c := @cntI_step (fun q => q = i) i n i0 i1 rfl
  have d := (@cntI_r (fun q => q = i) i i0).1
  unfold rk
  omega
theorem rk_iff {n i j : Int} {f : Int → Int} (hf : ∀ k, 0 ≤ k → k < n → 0 ≤ f k) (i0 : 0 ≤ i) (i1 : i < n) (j0 : 0 ≤ j) (j1 : j < n) : rk n f i < rk n f j ↔ sls n f i j := by
  constructor
  · intro h
    by_cases e : i = j
    · rw [e] at h; omega
    · rcases sls_tot hf i0 i1 j0 j1 e with c | c
      · exact c
      · have := rk_lt hf j0 j1 i0 i1 c; omega
  · exact rk_lt hf i0 i1 j0 j1
theorem rk_r {n i : Int} {f : Int → Int} (i0 : 0 ≤ i) (i1 : i < n) : 0 ≤ rk n f i ∧ rk n f i < n := by
  have a := (@cntI_r (fun q => sls n f q i) n (by omega)).1
  have b : cntI (fun q => sls n f q i ∨ q = i) n = cntI (fun q => sls n f q i) n + cntI (fun q => q = i) n := cntI_split n (fun q z => by have := z.2; subst this; exact sls_asym z.1 z.1)
  have c := @cntI_step (fun q => q = i) i n i0 i1 rfl
  have d := (@cntI_r (fun q => q = i) i i0).1
  have e := (@cntI_r (fun q => sls n f q i ∨ q = i) n (by omega)).2
  unfold rk
  omega
theorem rk_inj {n i j : Int} {f : Int → Int} (hf : ∀ k, 0 ≤ k → k < n → 0 ≤ f k) (i0 : 0 ≤ i) (i1 : i < n) (j0 : 0 ≤ j) (j1 : j < n) (h : rk n f i = rk n f j) : i = j := by
  rcases Classical.em (i = j) with c | c
  · exact c
  · rcases sls_tot hf i0 i1 j0 j1 c with d | d
    · have := rk_lt hf i0 i1 j0 j1 d; omega
    · have := rk_lt hf j0 j1 i0 i1 d; omega
theorem rk_prm {n : Int} {f : Int → Int} (hn : 0 ≤ n) (hf : ∀ k, 0 ≤ k → k < n → 0 ≤ f k) : Prm n (rk n f) := Prm_of hn (fun _ r0 r1 => rk_r r0 r1) (fun _ _ q0 q1 r0 r1 e => rk_inj hf q0 q1 r0 r1 e)
/-- ranks that follow the order are the ranks -/
theorem rk_eq {n : Int} {f R : Int → Int} (hp : Prm n R) (h : ∀ i j, 0 ≤ i → i < n → 0 ≤ j → j < n → (R i < R j ↔ sls n f i j)) {i : Int} (i0 : 0 ≤ i) (i1 : i < n) : rk n f i = R i := by
  have a := hp.1 i i0 i1
  have b := @Prm_cntI n (R i) R hp a.1 (by omega)
  unfold rk
  rw [← b]
  exact cntI_c fun j j0 j1 => (h j i j0 j1 i0 i1).symm
/-- between two in the order -/
theorem lcp_btw {n a p b : Int} {f : Int → Int} (a0 : 0 ≤ a) (a1 : a < n) (p0 : 0 ≤ p) (p1 : p < n) (b0 : 0 ≤ b) (b1 : b < n) (h1 : sls n f a p) (h2 : sls n f p b) : lcp2 n f n f a b ≤ lcp2 n f n f p b := by
  rcases Int.lt_or_le (lcp2 n f n f p b) (lcp2 n f n f a b) with c | c
  · exfalso
    obtain ⟨x1, x2, x3, x4⟩ := @lcp2_is n n f f a b
    obtain ⟨y1, y2, y3, y4⟩ := @lcp2_is n n f f p b
    obtain ⟨d, hd⟩ : ∃ d, d = lcp2 n f n f p b := ⟨_, rfl⟩
    rw [← hd] at c y1 y2 y3 y4
    have ad := x3 d y1 c
    have e : lcp2 n f n f a p = d := lcp2_eq ⟨y1, Or.inr ⟨by omega, by omega⟩, fun k k0 k1 => (x3 k k0 (by omega)).trans (y3 k k0 k1).symm, fun z => y4 ⟨z.2.1, by omega, by rw [← ad]; exact z.2.2.symm⟩⟩
    unfold sls at h1 h2
    rw [← hd] at h2
    rw [e] at h1
    omega
  · exact c
theorem sls_next {n i j : Int} {f : Int → Int} (h : sls n f i j) (hc : 1 ≤ lcp2 n f n f i j) (i1 : i + 1 < n) (j1 : j + 1 < n) : sls n f (i + 1) (j + 1) ∧ lcp2 n f n f (i + 1) (j + 1) = lcp2 n f n f i j - 1 := by
  obtain ⟨x1, x2, x3, x4⟩ := @lcp2_is n n f f i j
  have e := x3 0 (by omega) (by omega)
  rw [show i + 0 = i by omega, show j + 0 = j by omega] at e
  have s := @lcp2_s n n i j f f (by omega) (by omega) e
  refine ⟨?_, by omega⟩
  unfold sls at h ⊢
  rw [s] at h
  rw [show i + 1 + lcp2 n f n f (i + 1) (j + 1) = i + (1 + lcp2 n f n f (i + 1) (j + 1)) by omega, show j + 1 + lcp2 n f n f (i + 1) (j + 1) = j + (1 + lcp2 n f n f (i + 1) (j + 1)) by omega]
  exact h
/-- what is shared with the one ahead loses at most one sign from a place to the next -/
theorem kasai {n i j p : Int} {f : Int → Int} (hf : ∀ k, 0 ≤ k → k < n → 0 ≤ f k) (i0 : 0 ≤ i) (i1 : i + 1 < n) (j0 : 0 ≤ j) (j1 : j < n) (p0 : 0 ≤ p) (p1 : p < n) (hj : rk n f j + 1 = rk n f i) (hp : rk n f p + 1 = rk n f (i + 1)) : lcp2 n f n f j i - 1 ≤ lcp2 n f n f p (i + 1) := by
  rcases Int.lt_or_le (lcp2 n f n f j i) 2 with c | c
  · have := (@lcp2_r n n p (i + 1) f f (by omega) (by omega)).1; omega
  · have r := @lcp2_r n n j i f f (by omega) (by omega)
    have s := (rk_iff hf j0 j1 i0 (by omega)).mp (by omega)
    obtain ⟨s1, s2⟩ := sls_next s (by omega) (by omega) i1
    have k := (rk_iff hf (by omega) (by omega) (by omega) i1).mpr s1
    by_cases z : rk n f (j + 1) = rk n f p
    · have := rk_inj hf (by omega) (by omega) p0 p1 z
      subst this
      omega
    · have a := (rk_iff hf (i := j + 1) (j := p) (by omega) (by omega) p0 p1).mp (by omega)
      have b := (rk_iff hf (i := p) (j := i + 1) p0 p1 (by omega) i1).mp (by omega)
      have := lcp_btw (by omega) (by omega) p0 p1 (by omega) i1 a b
      omega
