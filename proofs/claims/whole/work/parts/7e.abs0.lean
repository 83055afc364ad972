/-! texts that are not there: of the units of a text, the least of the shortest -/
/-- the units of w, N of them, are units of the text; it stands in the text; it is less -/
def Ov (n : Int) (f : Int → Int) (w : Int → Int) (N : Int) : Prop := ∀ d, 0 ≤ d → d < N → ∃ x, 0 ≤ x ∧ x < n ∧ f x = w d
def Oc (n : Int) (f : Int → Int) (w : Int → Int) (N : Int) : Prop := ∃ x, 0 ≤ x ∧ x + N ≤ n ∧ ∀ d, 0 ≤ d → d < N → f (x + d) = w d
def Lx (w v : Int → Int) (N : Int) : Prop := ∃ d, 0 ≤ d ∧ d < N ∧ (∀ c, 0 ≤ c → c < d → w c = v c) ∧ w d < v d
/-- all texts of N units are there -/
def Oall (n : Int) (f : Int → Int) (N : Int) : Prop := ∀ w, Ov n f w N → Oc n f w N
/-- w is the least of N units that is not there -/
def Lst (n : Int) (f : Int → Int) (N : Int) (w : Int → Int) : Prop := Ov n f w N ∧ ¬ Oc n f w N ∧ ∀ v, Ov n f v N → Lx v w N → Oc n f v N
def AB (n : Int) (f : Int → Int) (N : Int) (w : Int → Int) : Prop := 1 ≤ N ∧ Lst n f N w ∧ ∀ m, 1 ≤ m → m < N → Oall n f m
section ABS0
variable {n : Int} {f : Int → Int}
theorem first_diff {w v : Int → Int} : ∀ N : Nat, (∃ d : Int, 0 ≤ d ∧ d < N ∧ w d ≠ v d) → ∃ d : Int, 0 ≤ d ∧ d < N ∧ w d ≠ v d ∧ ∀ c, 0 ≤ c → c < d → w c = v c
  | 0, ⟨d, h0, h1, _⟩ => by omega
  | N + 1, ⟨d, h0, h1, h2⟩ => by
    rcases Classical.em (∃ d : Int, 0 ≤ d ∧ d < N ∧ w d ≠ v d) with c | c
    · obtain ⟨e, e0, e1, e2, e3⟩ := first_diff N c
      exact ⟨e, e0, by omega, e2, e3⟩
    · refine ⟨d, h0, h1, h2, fun x x0 x1 => ?_⟩
      exact Classical.not_not.mp (fun z => c ⟨x, x0, by omega, z⟩)
theorem Lx_tri {w v : Int → Int} {N : Int} : Lx w v N ∨ Lx v w N ∨ ∀ d, 0 ≤ d → d < N → w d = v d := by
  rcases Classical.em (∃ d : Int, 0 ≤ d ∧ d < N ∧ w d ≠ v d) with c | c
  · obtain ⟨d, d0, d1, d2⟩ := c
    obtain ⟨e, e0, e1, e2, e3⟩ := first_diff (w := w) (v := v) N.toNat ⟨d, d0, by omega, d2⟩
    rcases Int.lt_trichotomy (w e) (v e) with z | z | z
    · exact Or.inl ⟨e, e0, by omega, e3, z⟩
    · exact absurd z e2
    · exact Or.inr (Or.inl ⟨e, e0, by omega, fun c c0 c1 => (e3 c c0 c1).symm, z⟩)
  · exact Or.inr (Or.inr fun d d0 d1 => Classical.not_not.mp (fun z => c ⟨d, d0, d1, z⟩))
theorem Lx_irr {w v : Int → Int} {N : Int} (h : Lx w v N) (e : ∀ d, 0 ≤ d → d < N → w d = v d) : False := by
  obtain ⟨d, d0, d1, _, d3⟩ := h
  have := e d d0 d1
  omega
theorem Lx_tr {w v u : Int → Int} {N : Int} (h : Lx w v N) (h' : Lx v u N) : Lx w u N := by
  obtain ⟨d, d0, d1, d2, d3⟩ := h
  obtain ⟨e, e0, e1, e2, e3⟩ := h'
  rcases Int.lt_trichotomy d e with c | c | c
  · exact ⟨d, d0, d1, fun x x0 x1 => (d2 x x0 x1).trans (e2 x x0 (by omega)), by rw [← e2 d d0 c]; exact d3⟩
  · subst c
    exact ⟨d, d0, d1, fun x x0 x1 => (d2 x x0 x1).trans (e2 x x0 x1), by omega⟩
  · exact ⟨e, e0, e1, fun x x0 x1 => (d2 x x0 (by omega)).trans (e2 x x0 x1), by rw [d2 e e0 c]; exact e3⟩
theorem Oc_c {w v : Int → Int} {N : Int} (e : ∀ d, 0 ≤ d → d < N → w d = v d) (h : Oc n f w N) : Oc n f v N := by
  obtain ⟨x, x0, x1, x2⟩ := h
  exact ⟨x, x0, x1, fun d d0 d1 => (x2 d d0 d1).trans (e d d0 d1)⟩
theorem AB_uniq {N N' : Int} {w w' : Int → Int} (h : AB n f N w) (h' : AB n f N' w') : N = N' ∧ ∀ d, 0 ≤ d → d < N → w d = w' d := by
  obtain ⟨a1, ⟨a2, a3, a4⟩, a5⟩ := h
  obtain ⟨b1, ⟨b2, b3, b4⟩, b5⟩ := h'
  have e : N = N' := by
    rcases Int.lt_trichotomy N N' with c | c | c
    · exact absurd (b5 N a1 c w a2) a3
    · exact c
    · exact absurd (a5 N' b1 c w' b2) b3
  subst e
  refine ⟨rfl, ?_⟩
  rcases @Lx_tri w w' N with c | c | c
  · exact absurd (b4 w a2 c) a3
  · exact absurd (a4 w' b2 c) b3
  · exact c
/-- the units of the first m places, in order, k of them -/
def LT (m : Int) (f : Int → Int) (k : Int) (g : Int → Int) : Prop := (0 ≤ k ∧ k ≤ m) ∧ (∀ a b, 0 ≤ a → a < b → b < k → g a < g b) ∧ (∀ a, 0 ≤ a → a < k → ∃ x, 0 ≤ x ∧ x < m ∧ f x = g a) ∧ ∀ x, 0 ≤ x → x < m → ∃ a, 0 ≤ a ∧ a < k ∧ g a = f x
theorem LT.skip {m k p : Int} {g : Int → Int} (h : LT m f k g) (p0 : 0 ≤ p) (p1 : p < k) (e : g p = f m) : LT (m + 1) f k g := by
  obtain ⟨h1, h2, h3, h4⟩ := h
  refine ⟨by omega, h2, fun a a0 a1 => ?_, fun x x0 x1 => ?_⟩
  · obtain ⟨x, x0, x1, x2⟩ := h3 a a0 a1
    exact ⟨x, x0, by omega, x2⟩
  · by_cases c : x = m
    · exact ⟨p, p0, p1, by rw [c]; exact e⟩
    · exact h4 x x0 (by omega)
theorem LT.put {m k p : Int} {g g' : Int → Int} (h : LT m f k g) (m0 : 0 ≤ m) (p0 : 0 ≤ p) (p1 : p ≤ k) (lo : ∀ a, 0 ≤ a → a < p → g a < f m) (hi : p < k → f m < g p) (g1 : ∀ a, 0 ≤ a → a < p → g' a = g a) (g2 : g' p = f m) (g3 : ∀ a, p < a → a ≤ k → g' a = g (a - 1)) : LT (m + 1) f (k + 1) g' := by
  obtain ⟨h1, h2, h3, h4⟩ := h
  have hi' : ∀ a, p ≤ a → a < k → f m < g a := fun a a0 a1 => by
    by_cases c : a = p
    · rw [c]; exact hi (by omega)
    · have := h2 p a p0 (by omega) a1
      have := hi (by omega)
      omega
  refine ⟨by omega, fun a b a0 ab b1 => ?_, fun a a0 a1 => ?_, fun x x0 x1 => ?_⟩
  · rcases Int.lt_trichotomy a p with c | c | c
    · rw [g1 a a0 c]
      rcases Int.lt_trichotomy b p with d | d | d
      · rw [g1 b (by omega) d]; exact h2 a b a0 ab (by omega)
      · rw [d, g2]; exact lo a a0 c
      · rw [g3 b d (by omega)]
        have := lo a a0 c
        have := hi' (b - 1) (by omega) (by omega)
        omega
    · rw [c, g2, g3 b (by omega) (by omega)]
      exact hi' (b - 1) (by omega) (by omega)
    · rw [g3 a c (by omega), g3 b (by omega) (by omega)]
      exact h2 (a - 1) (b - 1) (by omega) (by omega) (by omega)
  · rcases Int.lt_trichotomy a p with c | c | c
    · obtain ⟨x, x0, x1, x2⟩ := h3 a a0 (by omega)
      exact ⟨x, x0, by omega, by rw [g1 a a0 c]; exact x2⟩
    · exact ⟨m, m0, by omega, by rw [c, g2]⟩
    · obtain ⟨x, x0, x1, x2⟩ := h3 (a - 1) (by omega) (by omega)
      exact ⟨x, x0, by omega, by rw [g3 a c (by omega)]; exact x2⟩
  · by_cases c : x = m
    · exact ⟨p, p0, by omega, by rw [g2, c]⟩
    · obtain ⟨a, a0, a1, a2⟩ := h4 x x0 (by omega)
      by_cases d : a < p
      · exact ⟨a, a0, by omega, by rw [g1 a a0 d]; exact a2⟩
      · refine ⟨a + 1, by omega, by omega, ?_⟩
        rw [g3 (a + 1) (by omega) (by omega), show a + 1 - 1 = a by omega]; exact a2
theorem LT.inj {m k a b : Int} {g : Int → Int} (h : LT m f k g) (a0 : 0 ≤ a) (a1 : a < k) (b0 : 0 ≤ b) (b1 : b < k) : (g a < g b ↔ a < b) ∧ (g a = g b → a = b) := by
  have h2 := h.2.1
  rcases Int.lt_trichotomy a b with c | c | c
  · have := h2 a b a0 c b1
    exact ⟨⟨fun _ => c, fun _ => this⟩, fun e => by omega⟩
  · subst c
    exact ⟨⟨fun z => by omega, fun z => by omega⟩, fun _ => rfl⟩
  · have := h2 b a b0 c a1
    exact ⟨⟨fun z => by omega, fun z => by omega⟩, fun e => by omega⟩
/-- the next choice: what is less than it, is less than or like the last -/
theorem next_less {k N d : Int} {g c c' v : Int → Int} (L : LT n f k g) (hv : Ov n f v N) (hc : ∀ e, 0 ≤ e → e < N → 0 ≤ c e ∧ c e < k) (d0 : 0 ≤ d) (d1 : d < N) (lo : ∀ e, 0 ≤ e → e < d → c' e = c e) (at_ : c' d = c d + 1) (top : c d + 1 < k) (z : ∀ e, d < e → e < N → c' e = 0) (mx : ∀ e, d < e → e < N → k ≤ c e + 1) (h : Lx v (fun x => g (c' x)) N) : Lx v (fun x => g (c x)) N ∨ ∀ e, 0 ≤ e → e < N → v e = g (c e) := by
  obtain ⟨e, e0, e1, e2, e3⟩ := h
  -- v's own choices
  have ch : ∀ x, 0 ≤ x → x < N → ∃ a, 0 ≤ a ∧ a < k ∧ g a = v x := fun x x0 x1 => by
    obtain ⟨y, y0, y1, y2⟩ := hv x x0 x1
    obtain ⟨a, a0, a1, a2⟩ := L.2.2.2 y y0 y1
    exact ⟨a, a0, a1, by rw [a2, y2]⟩
  have e3 : v e < g (c' e) := e3
  have e2 : ∀ x, 0 ≤ x → x < e → v x = g (c' x) := e2
  obtain ⟨a, a0, a1, a2⟩ := ch e e0 e1
  rcases Int.lt_trichotomy e d with q | q | q
  · refine Or.inl ⟨e, e0, e1, fun x x0 x1 => ?_, ?_⟩
    · rw [e2 x x0 x1, lo x x0 (by omega)]
    · show v e < g (c e)
      rw [← lo e e0 q]; exact e3
  · subst q
    rw [at_] at e3
    have ce := hc e e0 e1
    have la : a < c e + 1 := ((L.inj a0 a1 (show 0 ≤ c e + 1 by omega) top).1).mp (by rw [a2]; exact e3)
    by_cases q : a < c e
    · refine Or.inl ⟨e, e0, e1, fun x x0 x1 => by rw [e2 x x0 x1, lo x x0 x1], ?_⟩
      show v e < g (c e)
      rw [← a2]
      exact ((L.inj a0 a1 ce.1 ce.2).1).mpr q
    · have ea : a = c e := by omega
      rcases @Lx_tri v (fun x => g (c x)) N with t | t | t
      · exact Or.inl t
      · exfalso
        obtain ⟨y, y0, y1, y2, y3⟩ := t
        have y3 : g (c y) < v y := y3
        obtain ⟨b, b0, b1, b2⟩ := ch y y0 y1
        have cy := hc y y0 y1
        rw [← b2] at y3
        have := ((L.inj cy.1 cy.2 b0 b1).1).mp y3
        rcases Int.lt_trichotomy y e with r | r | r
        · have x1 := e2 y y0 r
          rw [lo y y0 r, ← b2] at x1
          have := (L.inj b0 b1 cy.1 cy.2).2 x1
          omega
        · subst r
          rw [← a2] at b2
          have := (L.inj b0 b1 a0 a1).2 b2
          omega
        · have := mx y r y1
          omega
      · exact Or.inr t
  · rw [z e q e1] at e3
    have := ((L.inj a0 a1 (Int.le_refl 0) (by omega)).1).mp (by rw [a2]; exact e3)
    omega
/-- of the last choice all are less or like -/
theorem last_less {k N : Int} {g c v : Int → Int} (L : LT n f k g) (hv : Ov n f v N) (hc : ∀ e, 0 ≤ e → e < N → 0 ≤ c e ∧ c e < k) (mx : ∀ e, 0 ≤ e → e < N → k ≤ c e + 1) : Lx v (fun x => g (c x)) N ∨ ∀ e, 0 ≤ e → e < N → v e = g (c e) := by
  rcases @Lx_tri v (fun x => g (c x)) N with t | t | t
  · exact Or.inl t
  · exfalso
    obtain ⟨y, y0, y1, y2, y3⟩ := t
    have y3 : g (c y) < v y := y3
    obtain ⟨x, x0, x1, x2⟩ := hv y y0 y1
    obtain ⟨b, b0, b1, b2⟩ := L.2.2.2 x x0 x1
    rw [← x2, ← b2] at y3
    have cy := hc y y0 y1
    have := ((L.inj cy.1 cy.2 b0 b1).1).mp y3
    have := mx y y0 y1
    omega
  · exact Or.inr t
/-- of the first choice none is less -/
theorem first_less {k N : Int} {g c v : Int → Int} (L : LT n f k g) (hv : Ov n f v N) (hk : 1 ≤ k) (z : ∀ e, 0 ≤ e → e < N → c e = 0) : ¬ Lx v (fun x => g (c x)) N := fun ⟨e, e0, e1, e2, e3⟩ => by
  have e3 : v e < g (c e) := e3
  obtain ⟨x, x0, x1, x2⟩ := hv e e0 e1
  obtain ⟨a, a0, a1, a2⟩ := L.2.2.2 x x0 x1
  rw [z e e0 e1, ← x2, ← a2] at e3
  have := ((L.inj a0 a1 (Int.le_refl 0) (by omega)).1).mp e3
  omega
/-- how many places begin with less -/
noncomputable def cls (n : Int) (f : Int → Int) (w : Int → Int) (N : Int) : Int := cntI (fun x => Lx (fun d => f (x + d)) w N) (n - N + 1)
theorem cls_step {w v : Int → Int} {N : Int} (h : Lx w v N) (ho : Oc n f w N) : cls n f w N + 1 ≤ cls n f v N := by
  obtain ⟨x, x0, x1, x2⟩ := ho
  unfold cls
  have nx : ¬ Lx (fun d => f (x + d)) w N := fun z => Lx_irr z x2
  have sp : cntI (fun y => Lx (fun d => f (y + d)) w N ∨ y = x) (n - N + 1) = cntI (fun y => Lx (fun d => f (y + d)) w N) (n - N + 1) + cntI (fun y => y = x) (n - N + 1) := cntI_split _ (fun y ⟨y1, y2⟩ => by rw [y2] at y1; exact nx y1)
  rw [cnt_is x0 (by omega)] at sp
  rw [← sp]
  refine cntI_imp fun y y0 y1 hy => ?_
  rcases hy with z | z
  · exact Lx_tr z h
  · rw [z]
    obtain ⟨d, d0, d1, d2, d3⟩ := h
    exact ⟨d, d0, d1, fun c c0 c1 => by rw [← d2 c c0 c1]; exact x2 c c0 (by omega), by show f (x + d) < v d; rw [x2 d d0 d1]; exact d3⟩
theorem cls_r {w : Int → Int} {N : Int} : 0 ≤ cls n f w N ∧ cls n f w N ≤ max (n - N + 1) 0 := by
  unfold cls
  by_cases c : 0 ≤ n - N + 1
  · have := cntI_r (p := fun x => Lx (fun d => f (x + d)) w N) c
    omega
  · rw [cntI_z (by omega)]; omega
end ABS0
