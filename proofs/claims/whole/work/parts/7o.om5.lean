/-! what is in many texts: the joined texts -/
/-- signs of the joined texts, and whose they are -/
def JF (T : ATx) (F own : Int → Int) : Prop := ∀ t, 0 ≤ t → t < T.1 → F (jst T t + T.2.1 t) = t ∧ own (jst T t + T.2.1 t) = t ∧ ∀ i, 0 ≤ i → i < T.2.1 t → F (jst T t + i) = T.2.2 t i + 40 ∧ own (jst T t + i) = t
noncomputable def jpl (T : ATx) (p : Int) : Int := p + txT T p
section OM5
variable {T : ATx} {F own : Int → Int}
theorem jst_s {t : Int} (h : 0 ≤ t) : jst T (t + 1) = jst T t + (T.2.1 t + 1) := smI_s h
theorem jst_z : jst T 0 = 0 := smI_z (by omega)
theorem jst_nat : ∀ k : Nat, jst T k = bsT T k + k := by
  intro k
  induction k with
  | zero =>
    have : bsT T ((0 : Nat) : Int) = 0 := smI_z (by omega)
    have : jst T ((0 : Nat) : Int) = 0 := smI_z (by omega)
    omega
  | succ k ih =>
    rw [show ((k + 1 : Nat) : Int) = (k : Int) + 1 by omega, jst_s (by omega), bsT_s (by omega)]
    omega
theorem jst_b {t : Int} (h : 0 ≤ t) : jst T t = bsT T t + t := by
  have := @jst_nat T t.toNat
  rw [show (t.toNat : Int) = t by omega] at this
  exact this
theorem jst_r (A : AT T) : 0 ≤ jst T T.1 ∧ jst T T.1 ≤ 9640 := by
  have := bsT_r A A.1 (Int.le_refl _)
  have := A.1
  have := A.2.1
  rw [jst_b A.1]
  omega
theorem jst_mono (A : AT T) {a b : Int} (h0 : 0 ≤ a) (h1 : a ≤ b) (h2 : b ≤ T.1) : jst T a ≤ jst T b := by
  have := bsT_mono A h0 h1 h2
  rw [jst_b h0, jst_b (by omega)]
  omega
theorem jin_n (A : AT T) {x : Int} (x0 : 0 ≤ x) : ∀ m : Nat, (m : Int) ≤ T.1 → x < jst T m → ∃ t i : Int, 0 ≤ t ∧ t < (m : Int) ∧ 0 ≤ i ∧ i ≤ T.2.1 t ∧ x = jst T t + i := by
  intro m
  induction m with
  | zero =>
    intro _ h
    have : jst T ((0 : Nat) : Int) = 0 := smI_z (by omega)
    omega
  | succ m ih =>
    intro h1 h2
    by_cases c : x < jst T m
    · obtain ⟨t, i, a, b, d⟩ := ih (by omega) c
      exact ⟨t, i, a, by omega, d⟩
    · rw [show ((m + 1 : Nat) : Int) = (m : Int) + 1 by omega, jst_s (by omega)] at h2
      exact ⟨m, x - jst T m, by omega, by omega, by omega, by omega, by omega⟩
theorem jtin (A : AT T) {x : Int} (x0 : 0 ≤ x) (x1 : x < jst T T.1) : ∃ t i, 0 ≤ t ∧ t < T.1 ∧ 0 ≤ i ∧ i ≤ T.2.1 t ∧ x = jst T t + i := by
  have a0 := A.1
  obtain ⟨t, i, h1, h2, h3⟩ := jin_n A x0 T.1.toNat (by omega) (by rw [show (T.1.toNat : Int) = T.1 by omega]; exact x1)
  exact ⟨t, i, h1, by omega, h3⟩
theorem jF_r (A : AT T) (J : JF T F own) {x : Int} (x0 : 0 ≤ x) (x1 : x < jst T T.1) : (0 ≤ F x ∧ F x < 131072) ∧ 0 ≤ own x ∧ own x < T.1 := by
  obtain ⟨t, i, t0, t1, i0, i1, rfl⟩ := jtin A x0 x1
  have a2 := A.2.1
  by_cases c : i = T.2.1 t
  · rw [c, (J t t0 t1).1, (J t t0 t1).2.1]; omega
  · have := (J t t0 t1).2.2 i i0 (by omega)
    have u := (A.2.2 t t0 t1).2.2 i i0 (by omega)
    omega
/-- a place of a text in the joined texts -/
theorem jpl_at (A : AT T) {t i : Int} (t0 : 0 ≤ t) (t1 : t < T.1) (i0 : 0 ≤ i) (i1 : i < T.2.1 t) : jpl T (bsT T t + i) = jst T t + i := by
  unfold jpl
  rw [loc_at A t0 t1 i0 i1, jst_b t0]; omega
theorem jpl_v (A : AT T) (J : JF T F own) {s p : Int} (v : vld (bsT T T.1) (lfT T) s p) (s1 : 1 ≤ s) : (0 ≤ jpl T p ∧ jpl T p + s ≤ jst T T.1 ∧ own (jpl T p) = txT T p) ∧ ∀ k, 0 ≤ k → k < s → F (jpl T p + k) = unT T (p + k) + 40 := by
  obtain ⟨t, i, h1, h2, h3, h4, h5, h6, h7, h8⟩ := loc_ex A v.1 v.2.1
  have v3 := v.2.2
  rw [h7] at v3
  have e := jpl_at A h1 h2 h3 h4
  rw [← h5] at e
  have m := jst_mono A (show 0 ≤ t + 1 by omega) (show t + 1 ≤ T.1 by omega) (Int.le_refl _)
  rw [jst_s h1] at m
  have m0 := jst_mono A (Int.le_refl 0) h1 (by omega)
  rw [jst_z] at m0
  rw [e, h6]
  refine ⟨⟨by omega, by omega, ((J t h1 h2).2.2 i h3 h4).2⟩, fun k k0 k1 => ?_⟩
  have g := loc_at A h1 h2 (show 0 ≤ i + k by omega) (show i + k < T.2.1 t by omega)
  have f := ((J t h1 h2).2.2 (i + k) (by omega) (by omega)).1
  rw [show jst T t + (i + k) = jst T t + i + k by omega] at f
  rw [f]
  unfold unT
  rw [h5, show bsT T t + i + k = bsT T t + (i + k) by omega, g, show bsT T t + (i + k) - bsT T t = i + k by omega]
theorem jpl_le (A : AT T) {p q : Int} (p0 : 0 ≤ p) (p1 : p < bsT T T.1) (q0 : 0 ≤ q) (q1 : q < bsT T T.1) (h : jpl T p ≤ jpl T q) : p ≤ q := by
  have L := pls_T A
  unfold jpl at h
  rcases Int.lt_or_le q p with c | c
  · have := L.2.2.2 q p q0 (by omega) p1
    omega
  · exact c
theorem jpl_e (A : AT T) (J : JF T F own) {s p q : Int} (s1 : 1 ≤ s) (vp : vld (bsT T T.1) (lfT T) s p) (vq : vld (bsT T T.1) (lfT T) s q) : eqh F s (jpl T p) (jpl T q) ↔ eqh (unT T) s p q := by
  have a := (jpl_v A J vp s1).2
  have b := (jpl_v A J vq s1).2
  constructor
  · intro h k k0 k1
    have := h k k0 k1
    rw [a k k0 k1, b k k0 k1] at this
    omega
  · intro h k k0 k1
    rw [a k k0 k1, b k k0 k1, h k k0 k1]
theorem jpl_l (A : AT T) (J : JF T F own) {s p q : Int} (s1 : 1 ≤ s) (vp : vld (bsT T T.1) (lfT T) s p) (vq : vld (bsT T T.1) (lfT T) s q) (h : lsh F s (jpl T p) (jpl T q)) : lsh (unT T) s p q := by
  have a := (jpl_v A J vp s1).2
  have b := (jpl_v A J vq s1).2
  obtain ⟨d, d0, d1, d2, d3⟩ := h
  refine ⟨d, d0, d1, fun m m0 m1 => ?_, ?_⟩
  · have := d2 m m0 m1
    rw [a m m0 (by omega), b m m0 (by omega)] at this
    omega
  · rw [a d d0 d1, b d d0 d1] at d3
    omega
/-- a place whose s signs are in its text is that of a unit -/
theorem jpl_of (A : AT T) {s t i : Int} (s1 : 1 ≤ s) (t0 : 0 ≤ t) (t1 : t < T.1) (i0 : 0 ≤ i) (i1 : i + s ≤ T.2.1 t) : ∃ p, vld (bsT T T.1) (lfT T) s p ∧ jpl T p = jst T t + i ∧ txT T p = t := by
  have g := loc_at A t0 t1 i0 (show i < T.2.1 t by omega)
  have m := bsT_mono A (show 0 ≤ t + 1 by omega) (show t + 1 ≤ T.1 by omega) (Int.le_refl _)
  rw [bsT_s t0] at m
  have m0 := bsT_r A t0 (by omega)
  refine ⟨bsT T t + i, ⟨by omega, by omega, ?_⟩, jpl_at A t0 t1 i0 (by omega), g⟩
  unfold lfT
  rw [g]; omega
/-- what s signs are at two places has no end of a text in it -/
theorem jtwo (A : AT T) (J : JF T F own) {s x y : Int} (s1 : 1 ≤ s) (x0 : 0 ≤ x) (x1 : x + s ≤ jst T T.1) (y0 : 0 ≤ y) (y1 : y + s ≤ jst T T.1) (xy : x ≠ y) (h : eqh F s x y) : ∃ p, vld (bsT T T.1) (lfT T) s p ∧ jpl T p = x := by
  obtain ⟨t, i, t0, t1, i0, i1, e⟩ := jtin A x0 (by omega)
  by_cases c : i + s ≤ T.2.1 t
  · obtain ⟨p, a, b, _⟩ := jpl_of A s1 t0 t1 i0 c
    exact ⟨p, a, by rw [b, e]⟩
  · exfalso
    have q := h (T.2.1 t - i) (by omega) (by omega)
    rw [show x + (T.2.1 t - i) = jst T t + T.2.1 t by omega, (J t t0 t1).1] at q
    obtain ⟨t', i', t0', t1', i0', i1', e'⟩ := jtin A (show 0 ≤ y + (T.2.1 t - i) by omega) (by omega)
    have a2 := A.2.1
    by_cases c' : i' = T.2.1 t'
    · rw [e', c', (J t' t0' t1').1] at q
      subst q
      omega
    · have := ((J t' t0' t1').2.2 i' i0' (by omega)).1
      have u := (A.2.2 t' t0' t1').2.2 i' i0' (by omega)
      rw [e'] at q
      omega
end OM5
