/-! Shelf's constructor -/
def pmoreK (B : Nat) (l : List PC) (t : Nat) : List PC := (pKept (l ++ [pnew 11 0]) l.length).set B (pput (l.getD B (pnew 0 0)) t l.length)
def pmanyK (B : Nat) (l : List PC) : Nat → List PC
  | 0 => l
  | t + 1 => pmoreK B (pmanyK B l t) t
theorem pmoreK_len (B : Nat) (l : List PC) (t : Nat) : (pmoreK B l t).length = l.length + 3 := by
  unfold pmoreK
  rw [List.length_set, pKept_len, List.length_append]; rfl
theorem pmoreK_old {B : Nat} {l : List PC} {t i : Nat} (hi : i < l.length) (hne : i ≠ B) : (pmoreK B l t)[i]? = l[i]? := by
  unfold pmoreK
  rw [List.getElem?_set_ne (Ne.symm hne), pKept_old (by rw [List.length_append]; omega) (by omega), pnew_old hi]
theorem pmoreK_at {B : Nat} {l : List PC} {t : Nat} {c : PC} (hc : l[B]? = some c) : (pmoreK B l t)[B]? = some (pput c t l.length) := by
  have hlt := (List.getElem?_eq_some_iff.mp hc).1
  unfold pmoreK
  rw [List.getElem?_set_self (by rw [pKept_len, List.length_append]; omega), List.getD_eq_getElem?_getD, hc]; rfl
theorem pmanyK_len (B : Nat) (l : List PC) : ∀ t, (pmanyK B l t).length = l.length + 3 * t
  | 0 => rfl
  | t + 1 => by
    show (pmoreK B (pmanyK B l t) t).length = _
    rw [pmoreK_len, pmanyK_len B l t]; omega
theorem pmanyK_old {B i : Nat} {l : List PC} (hi : i < l.length) (hne : i ≠ B) : ∀ t, (pmanyK B l t)[i]? = l[i]?
  | 0 => rfl
  | t + 1 => by
    show (pmoreK B (pmanyK B l t) t)[i]? = _
    rw [pmoreK_old (by rw [pmanyK_len]; omega) hne, pmanyK_old hi hne t]
theorem pmanyK_at {B : Nat} {l : List PC} {c : PC} (hc : l[B]? = some c) : ∀ t, ∃ c', (pmanyK B l t)[B]? = some c' ∧ c'.1 = c.1 ∧ c'.2.1 = c.2.1
  | 0 => ⟨c, hc, rfl, rfl⟩
  | t + 1 => by
    obtain ⟨c', h1, h2, h3⟩ := pmanyK_at hc t
    exact ⟨_, pmoreK_at h1, h2, h3⟩
theorem pText_cell {l : List PC} {o : Nat} {n : Int} (ho : o < l.length) : (pText l o n)[o]? = some (pref (pnew 19 0) 1000 l.length) := by
  unfold pText
  rw [List.getElem?_set_self (by rw [List.length_append]; omega)]
theorem pKept_cell {l : List PC} {o : Nat} (ho : o < l.length) : (pKept l o)[o]? = some (pref (pnew 11 0) 200 l.length) := by
  unfold pKept
  rw [List.getElem?_set_self (by rw [pText_len, List.length_append]; omega)]
section SHELF0
variable {G : JG} {Q : Int → JM → Prop} {M M0 : JM} {X : Int} {l : List PC}
theorem Has.moreK {B t : Nat} {c : PC} (hc : l[B]? = some c) {M' : JM} (h' : Has M' M0 X (pKept (l ++ [pnew 11 0]) l.length)) : Has (jset M' 3 (X + B) t (X + l.length)) M0 X (pmoreK B l t) := by
  have hlt := (List.getElem?_eq_some_iff.mp hc).1
  have e : (pKept (l ++ [pnew 11 0]) l.length)[B]? = some c := by
    rw [pKept_old (by rw [List.length_append]; omega) (by omega), pnew_old hlt]; exact hc
  have := h'.put e t l.length
  unfold pmoreK
  rw [List.getD_eq_getElem?_getD, hc]
  exact this
def pShelf (l : List PC) (o : Nat) : List PC := pmanyK (l.length + 1) (pmany 240 l.length (pfold o l (pnew 14 0) [(500, 3, 40), (501, 4, 20)]) 40) 20
theorem keeps_Shelf : Keeps pShelf := fun l n i h1 h2 => by
  unfold pShelf
  have e := pfold_len2 l n (pnew 14 0) 500 501 3 40 4 20 (by decide) (by decide)
  rw [pmanyK_old (by rw [pmany_len, e]; omega) (by omega), pmany_old (by rw [e]; omega) (by omega), pfold_old h1 h2]
set_option maxHeartbeats 1000000 in
theorem c_initShelf {o : Nat} (h : Has M M0 X l) (ho : l[o]? = some (pnew 14 0)) (k : ∀ M', Has M' M0 X (pShelf l o) → Q 0 M') : Runs G 26 142 14640 [(1, X + o)] M Q := by
  have hX := h.2.1
  have hlt := (List.getElem?_eq_some_iff.mp ho).1
  have i0 : Ini M0 X o 14 [] (pfold o l (pnew 14 0) [(500, 3, 40), (501, 4, 20)]) 0 0 [(500, 3, 40), (501, 4, 20)] 0 0 (X + o) M := ⟨rfl, rfl, rfl, l, _, h, ho, rfl, fun _ h => (by cases h), rfl⟩
  obtain ⟨a1, i1⟩ := i0.arr (by decide) (by decide) (by decide)
  obtain ⟨a2, i2⟩ := i1.arr (by decide) (by decide) (by decide)
  obtain ⟨-, -, -, l1, c1, g1, -, -, -, hl1⟩ := i2
  have hl2 : l1 = pfold o l (pnew 14 0) [(500, 3, 40), (501, 4, 20)] := hl1
  clear hl1
  rw [hl2] at g1
  have k : ∀ M', Has M' M0 X (pmanyK (l.length + 1) (pmany 240 l.length (pfold o l (pnew 14 0) [(500, 3, 40), (501, 4, 20)]) 40) 20) → Q 0 M' := k
  rw [pfold2 _ _ _ _ _ _ _ _ _ (by decide) (by decide)] at g1 k
  generalize hL : parr (parr l o (pnew 14 0) 500 3 40) o (pref (pnew 14 0) 500 l.length) 501 4 20 = L at g1 k
  have hA : L[l.length]? = some (pnew 3 40) := by
    rw [← hL, parr_old (by rw [parr_len]; omega) (by omega), parr_new hlt]
  have hB : L[l.length + 1]? = some (pnew 4 20) := by
    have e := parr_new (l := parr l o (pnew 14 0) 500 3 40) (o := o) (c := pref (pnew 14 0) 500 l.length) (f := 501) (t := 4) (n := 20) (by rw [parr_len]; omega)
    rw [parr_len, hL] at e; exact e
  have hO : L[o]? = some (pref (pref (pnew 14 0) 500 l.length) 501 (parr l o (pnew 14 0) 500 3 40).length) := by
    rw [← hL, parr_at (by rw [parr_len]; omega)]
  have hLl : L.length = l.length + 2 := by rw [← hL, parr_len, parr_len]
  have hPl : (parr l o (pnew 14 0) 500 3 40).length = l.length + 1 := parr_len _ _ _ _ _ _
  have len40 := pmany_len 240 l.length L 40
  have oldO := (pmany_old (n := 240) (A := l.length) (l := L) (i := o) (by omega) (by omega) 40).trans hO
  have oldB := (pmany_old (n := 240) (A := l.length) (l := L) (i := l.length + 1) (by omega) (by omega) 40).trans hB
  have loop2 : ∀ (n : Nat) (t : Nat) (M' : JM), n + t = 20 → Has M' M0 X (pmanyK (l.length + 1) (pmany 240 l.length L 40) t) → J G 26 142 14640 Q (82 + 3 * t) (9740 + 245 * t) 54 [(0, 1, X + o), (1, 0, (t : Int))] [] M' := by
    intro n
    induction n with
    | zero =>
      intro t M' ht hM'
      obtain rfl : t = 20 := by omega
      exact sg_X4_init_54 (C54 := fun _ _ _ _ _ => False) (fun _ _ _ _ _ h => h.elim) _ _ _ _ M' ⟨fun _ => jends_in (by omega) (by omega) (k _ hM'), fun g => absurd (by omega) g⟩
    | succ n ih =>
      intro t M' ht hM'
      obtain ⟨c', e1, e2, e3⟩ := pmanyK_at oldB t
      have eo := (pmanyK_old (B := l.length + 1) (l := pmany 240 l.length L 40) (i := o) (by omega) (by omega) t).trans oldO
      have hlen := pmanyK_len (l.length + 1) (pmany 240 l.length L 40) t
      have f501 : M' 501 (X + o) 0 = X + (l.length + 1 : Nat) := ((hM'.at eo).2.2.1 501 (by omega)).trans (by
        show X + ((parr l o (pnew 14 0) 500 3 40).length : Int) = _
        rw [hPl])
      refine sg_X4_init_54 (C54 := fun c s v0 v1 M1 => c = 82 + 3 * (t + 1) ∧ s = 9740 + 245 * (t + 1) ∧ v0 = X + o ∧ v1 = ((t + 1 : Nat) : Int) ∧ Has M1 M0 X (pmanyK (l.length + 1) (pmany 240 l.length L 40) (t + 1))) (fun c s v0 v1 M1 hp => ?_) _ _ _ _ M' ⟨fun g => absurd g (by omega), fun _ => ⟨hM'.tag eo, ⟨by omega, by omega⟩, by rw [hM'.1]; omega, 2, 242, by omega, by omega, ?_⟩⟩
      · obtain ⟨rfl, rfl, rfl, rfl, hp⟩ := hp
        exact ih (t + 1) M1 (by omega) hp
      · rw [hM'.1, f501]
        refine c_initKept (hM'.new 11 0) (pnew_last _ _) (fun M2 h2 _ => ?_)
        have hlt2 := (List.getElem?_eq_some_iff.mp e1).1
        have eA := psub_cell keeps_Kept (t := 11) (f := 200) e1
        have eT := pKept_cell (l := pmanyK (l.length + 1) (pmany 240 l.length L 40) t ++ [pnew 11 0]) (o := (pmanyK (l.length + 1) (pmany 240 l.length L 40) t).length) (by rw [List.length_append]; simp)
        have t1 := h2.at eA
        have t2 := h2.tag eT
        refine ⟨⟨Or.inr ⟨t1.1.trans e2, t2⟩, by omega, by rw [t1.2.1, e3]; show (t : Int) < 20; omega⟩, by unfold jR; omega, by omega, by omega, rfl, by omega, ?_⟩
        exact Has.moreK (t := t) e1 h2
  have loop : ∀ (n : Nat) (t : Nat) (M' : JM), n + t = 40 → Has M' M0 X (pmany 240 l.length L t) → J G 26 142 14640 Q (2 + 2 * t) (60 + 242 * t) 24 [(0, 1, X + o), (1, 0, (t : Int))] [] M' := by
    intro n
    induction n with
    | zero =>
      intro t M' ht hM'
      obtain rfl : t = 40 := by omega
      exact sg_X4_init_24 (C24 := fun _ _ _ _ _ => False) (C54 := fun c s v0 v1 M1 => c = 82 ∧ s = 9740 ∧ v0 = X + o ∧ v1 = 0 ∧ Has M1 M0 X (pmany 240 l.length L 40)) (fun _ _ _ _ _ h => h.elim) (fun c s v0 v1 M1 hp => by obtain ⟨rfl, rfl, rfl, rfl, hp⟩ := hp; exact loop2 20 0 M1 rfl hp) _ _ _ _ M' ⟨fun _ => ⟨by omega, by omega, rfl, rfl, hM'⟩, fun g => absurd (by omega) g⟩
    | succ n ih =>
      intro t M' ht hM'
      obtain ⟨c', e1, e2, e3⟩ := pmany_at (n := 240) hA t
      have eo := (pmany_old (n := 240) (A := l.length) (l := L) (i := o) (by omega) (by omega) t).trans hO
      have hlen := pmany_len 240 l.length L t
      have f500 : M' 500 (X + o) 0 = X + l.length := ((hM'.at eo).2.2.1 500 (by omega)).trans rfl
      refine sg_X4_init_24 (C24 := fun c s v0 v1 M1 => c = 2 + 2 * (t + 1) ∧ s = 60 + 242 * (t + 1) ∧ v0 = X + o ∧ v1 = ((t + 1 : Nat) : Int) ∧ Has M1 M0 X (pmany 240 l.length L (t + 1))) (C54 := fun _ _ _ _ _ => False) (fun c s v0 v1 M1 hp => ?_) (fun _ _ _ _ _ h => h.elim) _ _ _ _ M' ⟨fun g => absurd g (by omega), fun _ => ⟨hM'.tag eo, ⟨by omega, by omega⟩, by rw [hM'.1]; omega, 1, (240 : Int).toNat, by omega, by omega, ?_⟩⟩
      · obtain ⟨rfl, rfl, rfl, rfl, hp⟩ := hp
        exact ih (t + 1) M1 (by omega) hp
      · rw [hM'.1, f500]
        refine c_initText (hM'.new 19 0) (pnew_last _ _) (by omega) (fun M2 h2 _ => ?_)
        have hlt2 := (List.getElem?_eq_some_iff.mp e1).1
        have eA := psub_cell (keeps_Text 240) (t := 19) (f := 200) e1
        have eT := pText_cell (l := pmany 240 l.length L t ++ [pnew 19 0]) (o := (pmany 240 l.length L t).length) (n := 240) (by rw [List.length_append]; simp)
        have t1 := h2.at eA
        have t2 := h2.tag eT
        refine ⟨⟨Or.inl ⟨t1.1.trans e2, t2⟩, by omega, by rw [t1.2.1, e3]; show (t : Int) < 40; omega⟩, by unfold jR; omega, by omega, by omega, rfl, by omega, ?_⟩
        exact hM'.more (n := 240) (t := t) e1 h2
  refine rn_X4_init (X + o) M (sg_X4_init_0 (C24 := fun c s v0 v1 M1 => c = 2 ∧ s = 60 ∧ v0 = X + o ∧ v1 = 0 ∧ Has M1 M0 X L) (fun c s v0 v1 M1 hp => ?_) (X + o) M ⟨by omega, ⟨by decide, by decide, by omega, by omega⟩, a1, ⟨by decide, by decide, by omega, by omega⟩, a2, by omega, by omega, rfl, rfl, g1⟩)
  obtain ⟨rfl, rfl, rfl, rfl, hp⟩ := hp
  exact loop 40 0 M1 rfl hp
end SHELF0
