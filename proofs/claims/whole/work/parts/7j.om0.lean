/-! what is in many texts: places, words, the least of the longest -/
theorem lsh_w {F : Int → Int} {h s i j : Int} (h0 : 0 ≤ h) (h1 : h ≤ s) (h2 : s ≤ 2 * h) (e : lsh F s i j) : lsh F h i j ∨ (eqh F h i j ∧ lsh F h (i + (s - h)) (j + (s - h))) := by
  obtain ⟨d, d0, d1, d2, d3⟩ := e
  by_cases c : d < h
  · exact Or.inl ⟨d, d0, c, d2, d3⟩
  · refine Or.inr ⟨fun k k0 k1 => d2 k k0 (by omega), d - (s - h), by omega, by omega, fun k k0 k1 => ?_, ?_⟩
    · have := d2 (k + (s - h)) (by omega) (by omega)
      rw [show i + (k + (s - h)) = i + (s - h) + k by omega, show j + (k + (s - h)) = j + (s - h) + k by omega] at this
      exact this
    · rw [show i + (s - h) + (d - (s - h)) = i + d by omega, show j + (s - h) + (d - (s - h)) = j + d by omega]; exact d3
theorem eqh_w {F : Int → Int} {h s i j : Int} (h0 : 0 ≤ h) (h1 : h ≤ s) (h2 : s ≤ 2 * h) : eqh F s i j ↔ eqh F h i j ∧ eqh F h (i + (s - h)) (j + (s - h)) := by
  constructor
  · intro e
    refine ⟨fun k k0 k1 => e k k0 (by omega), fun k k0 k1 => ?_⟩
    have := e (k + (s - h)) (by omega) (by omega)
    rw [show i + (k + (s - h)) = i + (s - h) + k by omega, show j + (k + (s - h)) = j + (s - h) + k by omega] at this
    exact this
  · rintro ⟨e1, e2⟩ k k0 k1
    by_cases c : k < h
    · exact e1 k k0 c
    · have := e2 (k - (s - h)) (by omega) (by omega)
      rw [show i + (s - h) + (k - (s - h)) = i + k by omega, show j + (s - h) + (k - (s - h)) = j + k by omega] at this
      exact this
/-- places of all texts: text, how many units are left, unit -/
def Pls (n : Int) (tx lf U : Int → Int) : Prop := (0 ≤ n ∧ n ≤ 9600) ∧ (∀ p, 0 ≤ p → p < n → (1 ≤ lf p ∧ lf p ≤ 240 ∧ p + lf p ≤ n) ∧ (0 ≤ tx p ∧ tx p < 40) ∧ 0 ≤ U p ∧ U p ≤ 65535) ∧ (∀ p d, 0 ≤ p → p < n → 0 ≤ d → d < lf p → lf (p + d) = lf p - d ∧ tx (p + d) = tx p) ∧ ∀ p q, 0 ≤ p → p ≤ q → q < n → tx p ≤ tx q
def vld (n : Int) (lf : Int → Int) (s p : Int) : Prop := 0 ≤ p ∧ p < n ∧ s ≤ lf p
/-- in how many texts the s units at p are -/
noncomputable def cT (n : Int) (tx lf U : Int → Int) (s p : Int) : Int := cntI (fun t => ∃ q, vld n lf s q ∧ tx q = t ∧ eqh U s p q) 40
/-- the first place of the least text of s units that is in many -/
def GP (n : Int) (tx lf U : Int → Int) (s many p : Int) : Prop := vld n lf s p ∧ many ≤ cT n tx lf U s p ∧ ∀ q, vld n lf s q → many ≤ cT n tx lf U s q → lsh U s p q ∨ (eqh U s p q ∧ p ≤ q)
section OM0
variable {n : Int} {tx lf U : Int → Int}
theorem GP.uniq {s many p q : Int} (h : GP n tx lf U s many p) (h' : GP n tx lf U s many q) : p = q := by
  rcases h.2.2 q h'.1 h'.2.1 with a | a
  · rcases h'.2.2 p h.1 h.2.1 with b | b
    · exact absurd b (lsh_asym a)
    · exact absurd a (lsh_irr (eqh_symm b.1))
  · rcases h'.2.2 p h.1 h.2.1 with b | b
    · exact absurd b (lsh_irr (eqh_symm a.1))
    · have := a.2; have := b.2; omega
theorem cT_c {s p q : Int} (h : eqh U s p q) : cT n tx lf U s p = cT n tx lf U s q := cntI_c fun t _ _ => ⟨fun ⟨r, r0, r1, r2⟩ => ⟨r, r0, r1, eqh_trans (eqh_symm h) r2⟩, fun ⟨r, r0, r1, r2⟩ => ⟨r, r0, r1, eqh_trans h r2⟩⟩
/-- all places with s units, by their texts of s units, then by place -/
def Sq (n : Int) (lf U : Int → Int) (s k : Int) (sq : Int → Int) : Prop := (0 ≤ k ∧ k ≤ n) ∧ (∀ a, 0 ≤ a → a < k → vld n lf s (sq a)) ∧ (∀ p, vld n lf s p → ∃ a, 0 ≤ a ∧ a < k ∧ sq a = p) ∧ ∀ a b, 0 ≤ a → a < b → b < k → lsh U s (sq a) (sq b) ∨ (eqh U s (sq a) (sq b) ∧ sq a < sq b)
theorem Sq.mid {s k a b c : Int} {sq : Int → Int} (S : Sq n lf U s k sq) (a0 : 0 ≤ a) (ab : a ≤ b) (bc : b ≤ c) (ck : c < k) (h : eqh U s (sq a) (sq c)) : eqh U s (sq a) (sq b) := by
  by_cases e : a = b
  · rw [e]; exact eqh_refl
  · rcases S.2.2.2 a b a0 (by omega) (by omega) with z | z
    · exfalso
      by_cases e2 : b = c
      · rw [e2] at z; exact lsh_irr h z
      · rcases S.2.2.2 b c (by omega) (by omega) ck with y | y
        · exact lsh_irr h (lsh_trans z y)
        · exact lsh_irr h (lsh_le z y.1)
    · exact z.1
/-- texts among the places sq a .. sq (b - 1) -/
noncomputable def tcnt (tx sq : Int → Int) (a b : Int) : Int := cntI (fun t => ∃ j, a ≤ j ∧ j < b ∧ tx (sq j) = t) 40
theorem tcnt_r {sq : Int → Int} {a b : Int} : 0 ≤ tcnt tx sq a b ∧ tcnt tx sq a b ≤ 40 := cntI_r (by decide)
theorem tcnt_z {sq : Int → Int} {a : Int} : tcnt tx sq a a = 0 := by
  have z : tcnt tx sq a a ≤ 0 := (cntI_none (by decide)).mpr fun t _ _ ⟨j, j0, j1, _⟩ => by omega
  have := (@tcnt_r tx sq a a).1
  omega
theorem tcnt_new {sq : Int → Int} {a b : Int} (ab : a ≤ b) (t0 : 0 ≤ tx (sq b) ∧ tx (sq b) < 40) (h : ∀ j, a ≤ j → j < b → tx (sq j) ≠ tx (sq b)) : tcnt tx sq a (b + 1) = tcnt tx sq a b + 1 := by
  have e : tcnt tx sq a (b + 1) = cntI (fun t => (∃ j, a ≤ j ∧ j < b ∧ tx (sq j) = t) ∨ t = tx (sq b)) 40 := cntI_c fun t _ _ => by
    constructor
    · rintro ⟨j, j0, j1, j2⟩
      by_cases c : j = b
      · right; rw [← j2, c]
      · exact Or.inl ⟨j, j0, by omega, j2⟩
    · rintro (⟨j, j0, j1, j2⟩ | z)
      · exact ⟨j, j0, by omega, j2⟩
      · exact ⟨b, ab, by omega, z.symm⟩
  rw [e, cntI_split (p := fun t => ∃ j, a ≤ j ∧ j < b ∧ tx (sq j) = t) (q := fun t => t = tx (sq b)) 40 (fun t ⟨⟨j, j0, j1, j2⟩, z⟩ => h j j0 j1 (by rw [j2, z])), cnt_is t0.1 t0.2]
  rfl
theorem tcnt_old {sq : Int → Int} {a b : Int} (h : ∃ j, a ≤ j ∧ j < b ∧ tx (sq j) = tx (sq b)) : tcnt tx sq a (b + 1) = tcnt tx sq a b := cntI_c fun t _ _ => by
  constructor
  · rintro ⟨j, j0, j1, j2⟩
    by_cases c : j = b
    · obtain ⟨x, x0, x1, x2⟩ := h
      exact ⟨x, x0, x1, by rw [x2, ← j2, c]⟩
    · exact ⟨j, j0, by omega, j2⟩
  · rintro ⟨j, j0, j1, j2⟩
    exact ⟨j, j0, by omega, j2⟩
theorem tcnt_le {s k a b : Int} {sq : Int → Int} (S : Sq n lf U s k sq) (a0 : 0 ≤ a) (bk : b ≤ k) (cls : ∀ j, a ≤ j → j < b → eqh U s (sq a) (sq j)) : tcnt tx sq a b ≤ cT n tx lf U s (sq a) := cntI_imp fun t _ _ ⟨j, j0, j1, j2⟩ => ⟨sq j, S.2.1 j (by omega) (by omega), j2, cls j j0 j1⟩
/-- where a stretch of like texts has its end, all its texts are counted -/
theorem tcnt_all {s k a b : Int} {sq : Int → Int} (S : Sq n lf U s k sq) (a0 : 0 ≤ a) (ab : a < b) (bk : b ≤ k) (cls : ∀ j, a ≤ j → j < b → eqh U s (sq a) (sq j)) (beg : a = 0 ∨ ¬ eqh U s (sq (a - 1)) (sq a)) (fin : b = k ∨ ¬ eqh U s (sq (b - 1)) (sq b)) : cT n tx lf U s (sq a) = tcnt tx sq a b := by
  have le := tcnt_le (tx := tx) S a0 bk cls
  have ge : cT n tx lf U s (sq a) ≤ tcnt tx sq a b := cntI_imp fun t _ _ ⟨q, q0, q1, q2⟩ => by
    obtain ⟨j, j0, j1, j2⟩ := S.2.2.1 q q0
    subst j2
    refine ⟨j, ?_, ?_, q1⟩
    · rcases Int.lt_or_le j a with z | z
      · exfalso
        rcases beg with y | y
        · omega
        · apply y
          have m := S.mid j0 (show j ≤ a - 1 by omega) (show a - 1 ≤ a by omega) (by omega) (eqh_symm q2)
          exact eqh_trans (eqh_symm m) (eqh_symm q2)
      · exact z
    · rcases Int.lt_or_le j b with z | z
      · exact z
      · exfalso
        rcases fin with y | y
        · omega
        · apply y
          have m := S.mid a0 (show a ≤ b by omega) z j1 q2
          exact eqh_trans (eqh_symm (cls (b - 1) (by omega) (by omega))) m
  omega
end OM0
/-- halving -/
noncomputable def bsF (P : Int → Prop) : Nat → Int → Int → Int
  | 0, lo, _ => lo
  | k + 1, lo, hi => cif (hi ≤ lo) lo (cif (P ((lo + hi + 1) / 2)) (bsF P k ((lo + hi + 1) / 2) hi) (bsF P k lo ((lo + hi + 1) / 2 - 1)))
