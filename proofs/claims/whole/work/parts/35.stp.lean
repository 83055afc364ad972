/-! the law's loop, out of a step for each call; I: what holds between two calls, N: how long scripts are -/
/-- a call on both sides: the same answer, and what holds between calls holds again -/
def JSt (I : Int → Int → Int → JM → Prop) (N : Int) (G : JG) (X : Int) (y y' : Nat) (as : List JV) : Prop := ∀ (n a b : Int) (M : JM), I n a b M → 0 ≤ n → n + 6 ≤ N → ∀ Q : Int → JM → Prop, (∀ r M1, M1 0 (X + 218) 0 = 22 → (∀ Q2 : Int → JM → Prop, (∀ M2, I (n + 6) a b M2 → Q2 r M2) → Runs G y' 0 0 ((1, X + 218) :: as) M1 Q2) → Q r M1) → Runs G y 0 0 ((1, X) :: as) M Q
def potc (a b : Int) : Nat := (if a = 0 then 12 else 0) + (if b = 0 then 3 else 0)
def pots (a b : Int) : Nat := (if a = 0 then 70000 else 0) + (if b = 0 then 60000 else 0)
/-- a call that may make a large object -/
def JStA (I : Int → Int → Int → JM → Prop) (N : Int) (G : JG) (X : Int) (y y' : Nat) (as : List JV) : Prop := ∀ (n a b : Int) (M : JM), I n a b M → 0 ≤ n → n + 6 ≤ N → ∃ (c s : Nat) (a' b' : Int), c + potc a' b' ≤ potc a b ∧ s + pots a' b' ≤ pots a b ∧ ∀ Q : Int → JM → Prop, (∀ r M1, M1 0 (X + 218) 0 = 22 → (∀ Q2 : Int → JM → Prop, (∀ M2, I (n + 6) a' b' M2 → Q2 r M2) → Runs G y' 0 0 ((1, X + 218) :: as) M1 Q2) → Q r M1) → Runs G y c s ((1, X) :: as) M Q
theorem jends_i {c s mc ms : Nat} {P : Prop} (h1 : c ≤ mc) (h2 : s ≤ ms) (h : P) : jends c s mc ms P := by
  unfold jends
  split
  · exact h
  · exact ⟨h1, h2, h⟩
def LI (I : Int → Int → Int → JM → Prop) (G : JG) (X : Int) (mc ms c s : Nat) (v0 v1 v2 v3 : Int) (M : JM) : Prop := v0 = (G.2.2.2.2.1 : Int) ∧ v1 = X ∧ v2 = X + 218 ∧ (0 ≤ v3 ∧ v3 ≤ (G.2.2.2.2.2.1 : Int)) ∧ ∃ a b, I v3 a b M ∧ c + potc a b ≤ mc ∧ s + pots a b ≤ ms
