/-! constructors of the component -/
theorem pText_old {l : List PC} {o i : Nat} {n : Int} (hi : i < l.length) (hne : i ≠ o) : (pText l o n)[i]? = l[i]? := by
  unfold pText
  rw [List.getElem?_set_ne (Ne.symm hne), List.getElem?_append_left hi]
theorem pText_len (l : List PC) (o : Nat) (n : Int) : (pText l o n).length = l.length + 1 := by
  unfold pText
  rw [List.length_set, List.length_append]; rfl
theorem pTold_old {l : List PC} {o i : Nat} {w n : Int} (hi : i < l.length) (hne : i ≠ o) : (pTold l o w n)[i]? = l[i]? := by
  unfold pTold
  rw [List.getElem?_set_ne (Ne.symm hne), List.getElem?_append_left hi]
theorem pTold_len (l : List PC) (o : Nat) (w n : Int) : (pTold l o w n).length = l.length + 1 := by
  unfold pTold
  rw [List.length_set, List.length_append]; rfl
theorem pnew_last (l : List PC) (c : PC) : (l ++ [c])[l.length]? = some c := by
  rw [List.getElem?_append_right (Nat.le_refl _), Nat.sub_self]; rfl
theorem pnew_old {l : List PC} {c : PC} {i : Nat} (hi : i < l.length) : (l ++ [c])[i]? = l[i]? := List.getElem?_append_left hi
section MAKES
variable {G : JG} {Q : Int → JM → Prop} {M M0 : JM} {X : Int} {l : List PC}
/-- Kept(): a Text and its array -/
def pKept (l : List PC) (o : Nat) : List PC := (pText (l ++ [pnew 19 0]) l.length 240).set o (pref (pnew 11 0) 200 l.length)
theorem c_initKept {o : Nat} (h : Has M M0 X l) (ho : l[o]? = some (pnew 11 0)) (k : ∀ M', Has M' M0 X (pKept l o) → Q 0 M') : Runs G 9 2 242 [(1, X + o)] M Q := by
  have hX := h.2.1
  have h1 := h.1
  have hlt := (List.getElem?_eq_some_iff.mp ho).1
  refine rn_X1_init (X + o) M (sg_X1_init_0 (X + o) M ⟨by omega, ⟨by omega, by omega⟩, by omega, 1, (240 : Int).toNat, by omega, by omega, ?_⟩)
  rw [h1]
  refine c_initText (h.new 19 0) (pnew_last l _) (by omega) (fun M' hM' _ => ?_)
  have e : (pText (l ++ [pnew 19 0]) l.length 240)[o]? = some (pnew 11 0) := by
    rw [pText_old (by rw [List.length_append]; omega) (by omega), pnew_old hlt]; exact ho
  exact ⟨hM'.tag e, jends_in (by omega) (by omega) (k _ (hM'.ref e 200 (by omega) l.length))⟩
theorem pKept_old {o i : Nat} (hi : i < l.length) (hne : i ≠ o) : (pKept l o)[i]? = l[i]? := by
  unfold pKept
  rw [List.getElem?_set_ne (Ne.symm hne), pText_old (by rw [List.length_append]; omega) (by omega), pnew_old hi]
theorem pKept_len (o : Nat) : (pKept l o).length = l.length + 2 := by
  unfold pKept
  rw [List.length_set, pText_len, List.length_append]; rfl
/-- Forms(): two arrays -/
def pForms (l : List PC) (o : Nat) : List PC := pfold o l (pnew 10 0) [(100, 1, 241), (101, 1, 241)]
theorem c_initForms {o : Nat} (h : Has M M0 X l) (ho : l[o]? = some (pnew 10 0)) (k : ∀ M', Has M' M0 X (pForms l o) → Q 0 M') : Runs G 0 2 482 [(1, X + o)] M Q := by
  have hX := h.2.1
  have i0 : Ini M0 X o 10 [] (pForms l o) 0 0 [(100, 1, 241), (101, 1, 241)] 0 0 (X + o) M := ⟨rfl, rfl, rfl, l, _, h, ho, rfl, fun _ h => (by cases h), rfl⟩
  obtain ⟨a1, i1⟩ := i0.arr (by decide) (by decide) (by decide)
  obtain ⟨a2, i2⟩ := i1.arr (by decide) (by decide) (by decide)
  refine rn_X0_init (X + o) M (sg_X0_init_0 (X + o) M ⟨by omega, ⟨by decide, by decide, by omega, by omega⟩, a1, ⟨by decide, by decide, by omega, by omega⟩, a2, jends_in (by omega) (by omega) ?_⟩)
  obtain ⟨-, -, -, l1, c1, g1, -, -, -, rfl⟩ := i2
  exact k _ g1
/-- Sorter(): a Told of one number in 241 rows, and an array -/
def pSorter (l : List PC) (o : Nat) : List PC := parr ((pTold (l ++ [pnew 20 0]) l.length 1 241).set o (pref (pnew 15 0) 600 l.length)) o (pref (pnew 15 0) 600 l.length) 601 1 241
theorem c_initSorter {o : Nat} (h : Has M M0 X l) (ho : l[o]? = some (pnew 15 0)) (k : ∀ M', Has M' M0 X (pSorter l o) → Q 0 M') : Runs G 35 3 486 [(1, X + o)] M Q := by
  have hX := h.2.1
  have h1 := h.1
  have hlt := (List.getElem?_eq_some_iff.mp ho).1
  refine rn_X5_init (X + o) M (sg_X5_init_0 (X + o) M ⟨by omega, ⟨by omega, by omega⟩, by omega, 1, (1 * 241 : Int).toNat, by omega, by omega, ?_⟩)
  rw [h1]
  refine c_initTold (h.new 20 0) (pnew_last l _) (by omega) (by omega) (fun M' hM' _ => ?_)
  have e : (pTold (l ++ [pnew 20 0]) l.length 1 241)[o]? = some (pnew 15 0) := by
    rw [pTold_old (by rw [List.length_append]; omega) (by omega), pnew_old hlt]; exact ho
  have hlt2 := (List.getElem?_eq_some_iff.mp e).1
  have g1 := hM'.ref e 600 (by omega) l.length
  obtain ⟨g2, g3, -⟩ := g1.arr (f := 601) (t := 1) (n := 241) (List.getElem?_set_self hlt2) (by omega)
  exact ⟨hM'.tag e, ⟨by decide, by decide, by omega, by omega⟩, g3, jends_in (by omega) (by omega) (k _ g2)⟩
/-- Squeezer(): a Told of three numbers in 240 rows, two arrays, way NONE -/
def pSqueezer (l : List PC) (o : Nat) : List PC := pfold o ((pTold (l ++ [pnew 20 0]) l.length 3 240).set o (pref (pnew 16 0) 700 l.length)) (pref (pnew 16 0) 700 l.length) [(701, 1, 241), (702, 1, 241), (2603, 0, -1)]
theorem c_initSqueezer {o : Nat} (h : Has M M0 X l) (ho : l[o]? = some (pnew 16 0)) (k : ∀ M', Has M' M0 X (pSqueezer l o) → Q 0 M') : Runs G 40 4 1206 [(1, X + o)] M Q := by
  have hX := h.2.1
  have h1 := h.1
  have hlt := (List.getElem?_eq_some_iff.mp ho).1
  refine rn_X6_init (X + o) M (sg_X6_init_0 (X + o) M ⟨by omega, ⟨by omega, by omega⟩, by omega, 1, (3 * 240 : Int).toNat, by omega, by omega, ?_⟩)
  rw [h1]
  refine c_initTold (h.new 20 0) (pnew_last l _) (by omega) (by omega) (fun M' hM' _ => ?_)
  have e : (pTold (l ++ [pnew 20 0]) l.length 3 240)[o]? = some (pnew 16 0) := by
    rw [pTold_old (by rw [List.length_append]; omega) (by omega), pnew_old hlt]; exact ho
  have hlt2 := (List.getElem?_eq_some_iff.mp e).1
  have g1 := hM'.ref e 700 (by omega) l.length
  have i0 : Ini M0 X o 16 [2603] (pSqueezer l o) 0 0 [(701, 1, 241), (702, 1, 241), (2603, 0, -1)] 0 0 (X + o) _ := ⟨rfl, rfl, rfl, _, _, g1, List.getElem?_set_self hlt2, rfl, fun f hf => (by rw [List.mem_singleton.mp hf]; rfl), rfl⟩
  obtain ⟨a1, i1⟩ := i0.arr (by decide) (by decide) (by decide)
  obtain ⟨a2, i2⟩ := i1.arr (by decide) (by decide) (by decide)
  obtain ⟨a3, i3⟩ := i2.int (by decide) (by decide)
  refine ⟨hM'.tag e, ⟨by decide, by decide, by omega, by omega⟩, a1, ⟨by decide, by decide, by omega, by omega⟩, a2, a2, jends_in (by omega) (by omega) ?_⟩
  obtain ⟨-, -, -, l1, c1, q1, -, -, -, rfl⟩ := i3
  exact k _ q1
/-- one Text more in an array of Texts -/
def pmore (n : Int) (A : Nat) (l : List PC) (t : Nat) : List PC := (pText (l ++ [pnew 19 0]) l.length n).set A (pput (l.getD A (pnew 0 0)) t l.length)
def pmany (n : Int) (A : Nat) (l : List PC) : Nat → List PC
  | 0 => l
  | t + 1 => pmore n A (pmany n A l t) t
theorem pmore_len (n : Int) (A : Nat) (l : List PC) (t : Nat) : (pmore n A l t).length = l.length + 2 := by
  unfold pmore
  rw [List.length_set, pText_len, List.length_append]; rfl
theorem pmore_old {n : Int} {A : Nat} {l : List PC} {t i : Nat} (hi : i < l.length) (hne : i ≠ A) : (pmore n A l t)[i]? = l[i]? := by
  unfold pmore
  rw [List.getElem?_set_ne (Ne.symm hne), pText_old (by rw [List.length_append]; omega) (by omega), pnew_old hi]
theorem pmore_at {n : Int} {A : Nat} {l : List PC} {t : Nat} {c : PC} (hc : l[A]? = some c) : (pmore n A l t)[A]? = some (pput c t l.length) := by
  have hlt := (List.getElem?_eq_some_iff.mp hc).1
  unfold pmore
  rw [List.getElem?_set_self (by rw [pText_len, List.length_append]; omega), List.getD_eq_getElem?_getD, hc]; rfl
theorem pmany_len (n : Int) (A : Nat) (l : List PC) : ∀ t, (pmany n A l t).length = l.length + 2 * t
  | 0 => rfl
  | t + 1 => by
    show (pmore n A (pmany n A l t) t).length = _
    rw [pmore_len, pmany_len n A l t]; omega
theorem pmany_old {n : Int} {A i : Nat} {l : List PC} (hi : i < l.length) (hne : i ≠ A) : ∀ t, (pmany n A l t)[i]? = l[i]?
  | 0 => rfl
  | t + 1 => by
    show (pmore n A (pmany n A l t) t)[i]? = _
    rw [pmore_old (by rw [pmany_len]; omega) hne, pmany_old hi hne t]
theorem pmany_at {n : Int} {A : Nat} {l : List PC} {c : PC} (hc : l[A]? = some c) : ∀ t, ∃ c', (pmany n A l t)[A]? = some c' ∧ c'.1 = c.1 ∧ c'.2.1 = c.2.1
  | 0 => ⟨c, hc, rfl, rfl⟩
  | t + 1 => by
    obtain ⟨c', h1, h2, h3⟩ := pmany_at hc t
    exact ⟨_, pmore_at h1, h2, h3⟩
theorem Has.more {n : Int} {A t : Nat} {c : PC} (h : Has M M0 X l) (hc : l[A]? = some c) {M' : JM} (h' : Has M' M0 X (pText (l ++ [pnew 19 0]) l.length n)) : Has (jset M' 3 (X + A) t (X + l.length)) M0 X (pmore n A l t) := by
  have hlt := (List.getElem?_eq_some_iff.mp hc).1
  have e : (pText (l ++ [pnew 19 0]) l.length n)[A]? = some c := by
    rw [pText_old (by rw [List.length_append]; omega) (by omega), pnew_old hlt]; exact hc
  have := h'.put e t l.length
  unfold pmore
  rw [List.getD_eq_getElem?_getD, hc]
  exact this
end MAKES
section MAKES2
variable {G : JG} {Q : Int → JM → Prop} {M M0 : JM} {X : Int} {l : List PC}
/-- Patterns(): an array of 16 Texts of 40, an array -/
def pPatterns (l : List PC) (o : Nat) : List PC := pmany 40 l.length (pfold o l (pnew 12 0) [(300, 3, 16), (301, 1, 241)]) 16
theorem pfold2 (l : List PC) (o : Nat) (c : PC) (f g : Nat) (t n u k : Int) (ht : t ≠ 0) (hu : u ≠ 0) : pfold o l c [(f, t, n), (g, u, k)] = parr (parr l o c f t n) o (pref c f l.length) g u k := by
  have e1 : pst l o c (f, t, n) = (parr l o c f t n, pref c f l.length) := if_neg ht
  show pfold o (pst l o c (f, t, n)).1 (pst l o c (f, t, n)).2 [(g, u, k)] = _
  rw [e1]
  have e2 : pst (parr l o c f t n) o (pref c f l.length) (g, u, k) = (parr (parr l o c f t n) o (pref c f l.length) g u k, pref (pref c f l.length) g (parr l o c f t n).length) := if_neg hu
  show pfold o (pst (parr l o c f t n) o (pref c f l.length) (g, u, k)).1 (pst (parr l o c f t n) o (pref c f l.length) (g, u, k)).2 [] = _
  rw [e2]; rfl
theorem parr_len (l : List PC) (o : Nat) (c : PC) (f : Nat) (t n : Int) : (parr l o c f t n).length = l.length + 1 := by
  unfold parr
  rw [List.length_set, List.length_append]; rfl
theorem parr_old {l : List PC} {o i : Nat} {c : PC} {f : Nat} {t n : Int} (hi : i < l.length) (hne : i ≠ o) : (parr l o c f t n)[i]? = l[i]? := by
  unfold parr
  rw [List.getElem?_set_ne (Ne.symm hne), pnew_old hi]
theorem parr_new {l : List PC} {o : Nat} {c : PC} {f : Nat} {t n : Int} (ho : o < l.length) : (parr l o c f t n)[l.length]? = some (pnew t n) := by
  unfold parr
  rw [List.getElem?_set_ne (by omega), pnew_last]
theorem parr_at {l : List PC} {o : Nat} {c : PC} {f : Nat} {t n : Int} (ho : o < l.length) : (parr l o c f t n)[o]? = some (pref c f l.length) := by
  unfold parr
  rw [List.getElem?_set_self (by rw [List.length_append]; omega)]
theorem c_initPatterns {o : Nat} (h : Has M M0 X l) (ho : l[o]? = some (pnew 12 0)) (k : ∀ M', Has M' M0 X (pPatterns l o) → Q 0 M') : Runs G 10 34 929 [(1, X + o)] M Q := by
  have hX := h.2.1
  have hlt := (List.getElem?_eq_some_iff.mp ho).1
  have i0 : Ini M0 X o 12 [] (pfold o l (pnew 12 0) [(300, 3, 16), (301, 1, 241)]) 0 0 [(300, 3, 16), (301, 1, 241)] 0 0 (X + o) M := ⟨rfl, rfl, rfl, l, _, h, ho, rfl, fun _ h => (by cases h), rfl⟩
  obtain ⟨a1, i1⟩ := i0.arr (by decide) (by decide) (by decide)
  obtain ⟨a2, i2⟩ := i1.arr (by decide) (by decide) (by decide)
  obtain ⟨-, -, -, l1, c1, g1, -, -, -, hl1⟩ := i2
  have hl2 : l1 = pfold o l (pnew 12 0) [(300, 3, 16), (301, 1, 241)] := hl1
  clear hl1
  rw [hl2] at g1
  have k : ∀ M', Has M' M0 X (pmany 40 l.length (pfold o l (pnew 12 0) [(300, 3, 16), (301, 1, 241)]) 16) → Q 0 M' := k
  rw [pfold2 _ _ _ _ _ _ _ _ _ (by decide) (by decide)] at g1 k
  generalize hL : parr (parr l o (pnew 12 0) 300 3 16) o (pref (pnew 12 0) 300 l.length) 301 1 241 = L at g1 k
  have hA : L[l.length]? = some (pnew 3 16) := by
    rw [← hL, parr_old (by rw [parr_len]; omega) (by omega), parr_new hlt]
  have hO : L[o]? = some (pref (pref (pnew 12 0) 300 l.length) 301 (parr l o (pnew 12 0) 300 3 16).length) := by
    rw [← hL, parr_at (by rw [parr_len]; omega)]
  have hLl : L.length = l.length + 2 := by rw [← hL, parr_len, parr_len]
  have loop : ∀ (n : Nat) (t : Nat) (M' : JM), n + t = 16 → Has M' M0 X (pmany 40 l.length L t) → J G 10 34 929 Q (2 + 2 * t) (257 + 42 * t) 24 [(0, 1, X + o), (1, 0, (t : Int))] [] M' := by
    intro n
    induction n with
    | zero =>
      intro t M' ht hM'
      obtain rfl : t = 16 := by omega
      exact sg_X2_init_24 (C24 := fun _ _ _ _ _ => False) (fun _ _ _ _ _ h => h.elim) _ _ _ _ M' ⟨fun _ => jends_in (by omega) (by omega) (k _ hM'), fun g => absurd (by omega) g⟩
    | succ n ih =>
      intro t M' ht hM'
      obtain ⟨c', e1, e2, e3⟩ := pmany_at (n := 40) hA t
      have eo := (pmany_old (n := 40) (A := l.length) (l := L) (i := o) (by omega) (by omega) t).trans hO
      have hlen := pmany_len 40 l.length L t
      have f300 : M' 300 (X + o) 0 = X + l.length := ((hM'.at eo).2.2.1 300 (by omega)).trans rfl
      refine sg_X2_init_24 (C24 := fun c s v0 v1 M1 => c = 2 + 2 * (t + 1) ∧ s = 257 + 42 * (t + 1) ∧ v0 = X + o ∧ v1 = ((t + 1 : Nat) : Int) ∧ Has M1 M0 X (pmany 40 l.length L (t + 1))) (fun c s v0 v1 M1 hp => ?_) _ _ _ _ M' ⟨fun g => absurd g (by omega), fun _ => ⟨hM'.tag eo, ⟨by omega, by omega⟩, by rw [hM'.1]; omega, 1, (40 : Int).toNat, by omega, by omega, ?_⟩⟩
      · obtain ⟨rfl, rfl, rfl, rfl, hp⟩ := hp
        exact ih (t + 1) M1 (by omega) hp
      · rw [hM'.1, f300]
        refine c_initText (hM'.new 19 0) (pnew_last _ _) (by omega) (fun M2 h2 _ => ?_)
        have hlt2 := (List.getElem?_eq_some_iff.mp e1).1
        have eA : (pText (pmany 40 l.length L t ++ [pnew 19 0]) (pmany 40 l.length L t).length 40)[l.length]? = some c' := by
          rw [pText_old (by rw [List.length_append]; omega) (by omega), pnew_old hlt2]; exact e1
        have eT : (pText (pmany 40 l.length L t ++ [pnew 19 0]) (pmany 40 l.length L t).length 40)[(pmany 40 l.length L t).length]? = some (pref (pnew 19 0) 1000 (pmany 40 l.length L t ++ [pnew 19 0]).length) := by
          unfold pText
          rw [List.getElem?_set_self (by simp only [List.length_append, List.length_cons, List.length_nil]; omega)]
        have t1 := (h2.at eA)
        have t2 := h2.tag eT
        refine ⟨⟨Or.inl ⟨t1.1.trans e2, t2⟩, by omega, by rw [t1.2.1, e3]; show (t : Int) < 16; omega⟩, by unfold jR; omega, by omega, by omega, rfl, by omega, ?_⟩
        have := hM'.more (n := 40) (t := t) e1 h2
        exact this
  refine rn_X2_init (X + o) M (sg_X2_init_0 (C24 := fun c s v0 v1 M1 => c = 2 ∧ s = 257 ∧ v0 = X + o ∧ v1 = 0 ∧ Has M1 M0 X L) (fun c s v0 v1 M1 hp => ?_) (X + o) M ⟨by omega, ⟨by decide, by decide, by omega, by omega⟩, a1, ⟨by decide, by decide, by omega, by omega⟩, a2, by omega, by omega, rfl, rfl, g1⟩)
  obtain ⟨rfl, rfl, rfl, rfl, hp⟩ := hp
  exact loop 16 0 M1 rfl hp
end MAKES2
