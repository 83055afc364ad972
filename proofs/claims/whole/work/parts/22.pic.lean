/-! pictures of what is made: cells, one behind the other, from the address X on -/
abbrev PC : Type := Int × Int × List (Nat × Int) × List (Nat × Int) × List (Int × Int)
def plk (l : List (Nat × Int)) (k : Nat) : Option Int := match l with
  | [] => none
  | q :: l => if q.1 = k then some q.2 else plk l k
def plj (l : List (Int × Int)) (k : Int) : Option Int := match l with
  | [] => none
  | q :: l => if q.1 = k then some q.2 else plj l k
def pfld (X : Int) (c : PC) (k : Nat) : Int := match plk c.2.2.1 k with
  | some o => X + o
  | none => (plk c.2.2.2.1 k).getD 0
def pelm (X : Int) (c : PC) (j : Int) : Int := match plj c.2.2.2.2 j with
  | some o => X + o
  | none => 0
def CellAt (M : JM) (a X : Int) (c : PC) : Prop := M 0 a 0 = c.1 ∧ M 1 a 0 = c.2.1 ∧ (∀ k, 100 ≤ k → M k a 0 = pfld X c k) ∧ (∀ j, M 2 a j = 0) ∧ ∀ j, M 3 a j = pelm X c j
def Has (M M0 : JM) (X : Int) (l : List PC) : Prop := M 4 0 0 = X + l.length ∧ 0 < X ∧ (∀ (i : Nat) (c : PC), l[i]? = some c → CellAt M (X + i) X c) ∧ ∀ k a j, a < X → k ≠ 4 → M k a j = M0 k a j
def pnew (t n : Int) : PC := (t, n, [], [], [])
def pref (c : PC) (f : Nat) (o : Int) : PC := (c.1, c.2.1, (f, o) :: c.2.2.1, c.2.2.2)
def pint (c : PC) (f : Nat) (v : Int) : PC := (c.1, c.2.1, c.2.2.1, (f, v) :: c.2.2.2.1, c.2.2.2.2)
def pput (c : PC) (j o : Int) : PC := (c.1, c.2.1, c.2.2.1, c.2.2.2.1, (j, o) :: c.2.2.2.2)
theorem Has.at {M M0 : JM} {X : Int} {l : List PC} (h : Has M M0 X l) {i : Nat} {c : PC} (hi : l[i]? = some c) : CellAt M (X + i) X c := h.2.2.1 i c hi
theorem Has.tag {M M0 : JM} {X : Int} {l : List PC} (h : Has M M0 X l) {i : Nat} {c : PC} (hi : l[i]? = some c) : M 0 (X + i) 0 = c.1 := (h.at hi).1
theorem Has.new {M M0 : JM} {X : Int} {l : List PC} (h : Has M M0 X l) (t n : Int) : Has (jnew M t n) M0 X (l ++ [pnew t n]) := by
  obtain ⟨h1, h2, h3, h4⟩ := h
  have old : ∀ k a j, a < X + l.length → k ≠ 4 → jnew M t n k a j = M k a j := fun k a j ha hk => jnew_old (by omega) hk
  refine ⟨by rw [jnew_nx, h1, List.length_append]; simp; omega, h2, fun i c hi => ?_, fun k a j ha hk => by rw [old k a j (by omega) hk]; exact h4 k a j ha hk⟩
  by_cases hl : i < l.length
  · rw [List.getElem?_append_left hl] at hi
    obtain ⟨g1, g2, g3, g4, g5⟩ := h3 i c hi
    exact ⟨by rw [old _ _ _ (by omega) (by omega)]; exact g1, by rw [old _ _ _ (by omega) (by omega)]; exact g2, fun k hk => by rw [old _ _ _ (by omega) (by omega)]; exact g3 k hk, fun j => by rw [old _ _ _ (by omega) (by omega)]; exact g4 j, fun j => by rw [old _ _ _ (by omega) (by omega)]; exact g5 j⟩
  · rw [List.getElem?_append_right (by omega)] at hi
    have hz : i - l.length < 1 := (List.getElem?_eq_some_iff.mp hi).1
    have hi0 : i = l.length := by omega
    subst hi0
    rw [Nat.sub_self] at hi
    cases hi
    rw [← h1]
    refine ⟨jnew_0, jnew_1, fun k hk => ?_, fun j => jnew_z (Or.inl rfl), fun j => ?_⟩
    · rw [jnew_z (Or.inr (Or.inr hk))]; rfl
    · rw [jnew_z (Or.inr (Or.inl rfl))]; rfl
theorem Has.upd {M M0 : JM} {X : Int} {l : List PC} (h : Has M M0 X l) {i k : Nat} {c c' : PC} {j v : Int} (hi : l[i]? = some c) (hk : k ≠ 4) (hc : CellAt (jset M k (X + i) j v) (X + i) X c') : Has (jset M k (X + i) j v) M0 X (l.set i c') := by
  obtain ⟨h1, h2, h3, h4⟩ := h
  have hlt := (List.getElem?_eq_some_iff.mp hi).1
  refine ⟨by rw [jset_k (by omega), h1, List.length_set], h2, fun i2 c2 hi2 => ?_, fun k a j ha hk => by rw [jset_a (by omega)]; exact h4 k a j ha hk⟩
  by_cases e : i2 = i
  · subst e
    rw [List.getElem?_set_self hlt] at hi2
    cases hi2
    exact hc
  · rw [List.getElem?_set_ne (Ne.symm e)] at hi2
    obtain ⟨g1, g2, g3, g4, g5⟩ := h3 i2 c2 hi2
    have ne : X + (i2 : Int) ≠ X + i := by omega
    exact ⟨by rw [jset_a ne]; exact g1, by rw [jset_a ne]; exact g2, fun k hk => by rw [jset_a ne]; exact g3 k hk, fun j => by rw [jset_a ne]; exact g4 j, fun j => by rw [jset_a ne]; exact g5 j⟩
theorem Has.ref {M M0 : JM} {X : Int} {l : List PC} (h : Has M M0 X l) {i : Nat} {c : PC} (hi : l[i]? = some c) (f : Nat) (hf : 100 ≤ f) (o : Int) : Has (jset M f (X + i) 0 (X + o)) M0 X (l.set i (pref c f o)) := by
  refine h.upd hi (by omega) ?_
  obtain ⟨g1, g2, g3, g4, g5⟩ := h.at hi
  refine ⟨by rw [jset_k (by omega)]; exact g1, by rw [jset_k (by omega)]; exact g2, fun k hk => ?_, fun j => by rw [jset_k (by omega)]; exact g4 j, fun j => by rw [jset_k (by omega)]; exact g5 j⟩
  by_cases e : f = k
  · subst e
    rw [jset_s]
    unfold pfld pref plk
    rw [if_pos rfl]
  · rw [jset_k (Ne.symm e), g3 k hk]
    show pfld X c k = pfld X (pref c f o) k
    unfold pfld
    rw [show plk (pref c f o).2.2.1 k = plk c.2.2.1 k from if_neg e]
    rfl
theorem Has.int {M M0 : JM} {X : Int} {l : List PC} (h : Has M M0 X l) {i : Nat} {c : PC} (hi : l[i]? = some c) (f : Nat) (hf : 100 ≤ f) (hn : plk c.2.2.1 f = none) (v : Int) : Has (jset M f (X + i) 0 v) M0 X (l.set i (pint c f v)) := by
  refine h.upd hi (by omega) ?_
  obtain ⟨g1, g2, g3, g4, g5⟩ := h.at hi
  refine ⟨by rw [jset_k (by omega)]; exact g1, by rw [jset_k (by omega)]; exact g2, fun k hk => ?_, fun j => by rw [jset_k (by omega)]; exact g4 j, fun j => by rw [jset_k (by omega)]; exact g5 j⟩
  by_cases e : f = k
  · subst e
    rw [jset_s]
    unfold pfld
    rw [show plk (pint c f v).2.2.1 f = none from hn]
    show v = (plk ((f, v) :: c.2.2.2.1) f).getD 0
    unfold plk
    rw [if_pos rfl]; rfl
  · rw [jset_k (Ne.symm e), g3 k hk]
    show pfld X c k = pfld X (pint c f v) k
    unfold pfld
    rw [show plk (pint c f v).2.2.2.1 k = plk c.2.2.2.1 k from if_neg e]
    rfl
theorem Has.put {M M0 : JM} {X : Int} {l : List PC} (h : Has M M0 X l) {i : Nat} {c : PC} (hi : l[i]? = some c) (j o : Int) : Has (jset M 3 (X + i) j (X + o)) M0 X (l.set i (pput c j o)) := by
  refine h.upd hi (by omega) ?_
  obtain ⟨g1, g2, g3, g4, g5⟩ := h.at hi
  refine ⟨by rw [jset_k (by omega)]; exact g1, by rw [jset_k (by omega)]; exact g2, fun k hk => by rw [jset_k (by omega)]; exact g3 k hk, fun j => by rw [jset_k (by omega)]; exact g4 j, fun j2 => ?_⟩
  by_cases e : j = j2
  · subst e
    rw [jset_s]
    unfold pelm pput plj
    rw [if_pos rfl]
  · rw [jset_j (Ne.symm e), g5 j2]
    show pelm X c j2 = pelm X (pput c j o) j2
    unfold pelm
    rw [show plj (pput c j o).2.2.2.2 j2 = plj c.2.2.2.2 j2 from if_neg e]
theorem jends_in {c s mc ms : Nat} {P : Prop} (h1 : c ≤ mc) (h2 : s ≤ ms) (h : P) : jends c s mc ms P := by
  unfold jends
  split
  · exact h
  · exact ⟨h1, h2, h⟩
section PICS
variable {G : JG} {Q : Int → JM → Prop} {M M0 : JM} {X : Int} {l : List PC}
/-- Text(n): one array -/
def pText (l : List PC) (o : Nat) (n : Int) : List PC := (l ++ [pnew 1 n]).set o (pref (pnew 19 0) 1000 l.length)
theorem c_initText {o : Nat} {n : Int} (h : Has M M0 X l) (ho : l[o]? = some (pnew 19 0)) (hn : 0 ≤ n ∧ n ≤ 1000) (k : ∀ M', Has M' M0 X (pText l o n) → Q 0 M') : Runs G 83 1 n.toNat [(1, X + o), (0, n)] M Q := by
  have hX := h.2.1
  have h1 := h.1
  have hlt := (List.getElem?_eq_some_iff.mp ho).1
  have hm : max n 0 = n := by omega
  refine rn_X9_init (X + o) n M (sg_X9_init_0 (X + o) n M ?_)
  rw [hm]
  have hn1 := h.new 1 n
  have ho1 : (l ++ [pnew 1 n])[o]? = some (pnew 19 0) := by rw [List.getElem?_append_left hlt]; exact ho
  refine ⟨by omega, ⟨by omega, by omega, by omega, by omega⟩, hn1.tag ho1, jends_in (by omega) (by omega) (k _ ?_)⟩
  rw [h1]
  exact hn1.ref ho1 1000 (by omega) l.length
/-- Told(w, n): one array -/
def pTold (l : List PC) (o : Nat) (w n : Int) : List PC := (l ++ [pnew 1 (w * n)]).set o (pref (pint (pint (pnew 20 0) 3001 w) 3002 n) 1100 l.length)
theorem c_initTold {o : Nat} {w n : Int} (h : Has M M0 X l) (ho : l[o]? = some (pnew 20 0)) (hw : 0 ≤ w ∧ w ≤ 3) (hn : 0 ≤ n ∧ n ≤ 10000) (k : ∀ M', Has M' M0 X (pTold l o w n) → Q 0 M') : Runs G 100 1 (w * n).toNat [(1, X + o), (0, w), (0, n)] M Q := by
  have hX := h.2.1
  have h1 := h.1
  have hlt := (List.getElem?_eq_some_iff.mp ho).1
  have hwn : 0 ≤ w * n := Int.mul_nonneg hw.1 hn.1
  have hwn2 : w * n ≤ 3 * 10000 := Int.mul_le_mul hw.2 hn.2 hn.1 (by omega)
  have hm : max (w * n) 0 = w * n := by omega
  refine rn_X10_init (X + o) w n M (sg_X10_init_0 (X + o) w n M ?_)
  rw [hm]
  have g1 := h.int ho 3001 (by omega) rfl w
  have e1 : (l.set o (pint (pnew 20 0) 3001 w))[o]? = some (pint (pnew 20 0) 3001 w) := List.getElem?_set_self hlt
  have g2 := g1.int e1 3002 (by omega) rfl n
  rw [List.set_set] at g2
  have e2 : (l.set o (pint (pint (pnew 20 0) 3001 w) 3002 n))[o]? = some (pint (pint (pnew 20 0) 3001 w) 3002 n) := List.getElem?_set_self hlt
  have g3 := g2.new 1 (w * n)
  have e3 : (l.set o (pint (pint (pnew 20 0) 3001 w) 3002 n) ++ [pnew 1 (w * n)])[o]? = some (pint (pint (pnew 20 0) 3001 w) 3002 n) := by rw [List.getElem?_append_left (by rw [List.length_set]; exact hlt)]; exact e2
  refine ⟨by omega, h.tag ho, h.tag ho, by unfold jR; omega, ⟨by omega, by omega, by omega, by omega⟩, g3.tag e3, jends_in (by omega) (by omega) (k _ ?_)⟩
  have g4 := g3.ref e3 1100 (by omega) l.length
  rw [h1]
  have e4 : (l.set o (pint (pint (pnew 20 0) 3001 w) 3002 n) ++ [pnew 1 (w * n)]).set o (pref (pint (pint (pnew 20 0) 3001 w) 3002 n) 1100 l.length) = pTold l o w n := by
    unfold pTold
    rw [List.set_append_left _ _ (by rw [List.length_set]; exact hlt), List.set_append_left _ _ hlt, List.set_set]
  rw [← e4]
  exact g4
end PICS
