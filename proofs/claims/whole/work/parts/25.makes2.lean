/-! constructors of the component: Shelf, Search, and the object itself -/
theorem pst_old {l : List PC} {o i : Nat} {c : PC} {q : Nat × Int × Int} (hi : i < l.length) (hne : i ≠ o) : (pst l o c q).1[i]? = l[i]? ∧ l.length ≤ (pst l o c q).1.length := by
  unfold pst
  split
  · exact ⟨List.getElem?_set_ne (Ne.symm hne), by simp⟩
  · exact ⟨parr_old hi hne, by simp [parr_len]⟩
theorem pfold_old : ∀ {R : List (Nat × Int × Int)} {l : List PC} {o i : Nat} {c : PC}, i < l.length → i ≠ o → (pfold o l c R)[i]? = l[i]?
  | [], _, _, _, _, _, _ => rfl
  | q :: R, l, o, i, c, hi, hne => by
    obtain ⟨h1, h2⟩ := pst_old (c := c) (q := q) hi hne
    show (pfold o (pst l o c q).1 (pst l o c q).2 R)[i]? = _
    rw [pfold_old (R := R) (by omega) hne, h1]
def pcell (l : List PC) (o : Nat) : PC := l.getD o (pnew 0 0)
theorem pcell_of {l : List PC} {o : Nat} {c : PC} (h : l[o]? = some c) : pcell l o = c := by
  unfold pcell
  rw [List.getD_eq_getElem?_getD, h]; rfl
/-- a new object of number t at the end, its constructor's picture p, and its place in field f of the object at o -/
def psub (p : List PC → Nat → List PC) (t : Int) (l : List PC) (o f : Nat) : List PC := (p (l ++ [pnew t 0]) l.length).set o (pref (pcell l o) f l.length)
def Keeps (p : List PC → Nat → List PC) : Prop := ∀ (l : List PC) (n i : Nat), i < l.length → i ≠ n → (p l n)[i]? = l[i]?
theorem psub_cell {p : List PC → Nat → List PC} (hp : Keeps p) {t : Int} {l : List PC} {o f : Nat} {c : PC} (ho : l[o]? = some c) : (p (l ++ [pnew t 0]) l.length)[o]? = some c := by
  have hlt := (List.getElem?_eq_some_iff.mp ho).1
  rw [hp _ _ _ (by rw [List.length_append]; omega) (by omega), pnew_old hlt]; exact ho
theorem psub_at {p : List PC → Nat → List PC} (hp : Keeps p) {t : Int} {l : List PC} {o f : Nat} {c : PC} (ho : l[o]? = some c) : (psub p t l o f)[o]? = some (pref c f l.length) := by
  have h := psub_cell hp (t := t) (f := f) ho
  unfold psub
  rw [List.getElem?_set_self (List.getElem?_eq_some_iff.mp h).1, pcell_of ho]
theorem psub_has {p : List PC → Nat → List PC} (hp : Keeps p) {M M0 : JM} {X : Int} {t : Int} {l : List PC} {o f : Nat} {c : PC} (hf : 100 ≤ f) (ho : l[o]? = some c) (h : Has M M0 X (p (l ++ [pnew t 0]) l.length)) : M 0 (X + o) 0 = c.1 ∧ Has (jset M f (X + o) 0 (X + l.length)) M0 X (psub p t l o f) := by
  have e := psub_cell hp (t := t) (f := f) ho
  refine ⟨h.tag e, ?_⟩
  unfold psub
  rw [pcell_of ho]
  exact h.ref e f hf l.length
theorem psub_old {p : List PC → Nat → List PC} (hp : Keeps p) {t : Int} {l : List PC} {o f i : Nat} (hi : i < l.length) (hne : i ≠ o) : (psub p t l o f)[i]? = l[i]? := by
  unfold psub
  rw [List.getElem?_set_ne (Ne.symm hne), hp _ _ _ (by rw [List.length_append]; omega) (by omega), pnew_old hi]
theorem keeps_Text (n : Int) : Keeps (fun l o => pText l o n) := fun _ _ _ h1 h2 => pText_old h1 h2
theorem keeps_Told (w n : Int) : Keeps (fun l o => pTold l o w n) := fun _ _ _ h1 h2 => pTold_old h1 h2
theorem keeps_Kept : Keeps pKept := fun _ _ _ h1 h2 => pKept_old h1 h2
theorem keeps_Forms : Keeps pForms := fun _ _ _ h1 h2 => pfold_old h1 h2
theorem keeps_Suffixes (n : Int) : Keeps (fun l o => pSuffixes l o n) := fun _ _ _ h1 h2 => pfold_old h1 h2
theorem keeps_Sorter : Keeps pSorter := fun l n i h1 h2 => by
  unfold pSorter
  rw [parr_old (by rw [List.length_set, pTold_len, List.length_append]; omega) h2, List.getElem?_set_ne (Ne.symm h2), pTold_old (by rw [List.length_append]; omega) (by omega), pnew_old h1]
theorem keeps_Squeezer : Keeps pSqueezer := fun l n i h1 h2 => by
  unfold pSqueezer
  rw [pfold_old (by rw [List.length_set, pTold_len, List.length_append]; omega) h2, List.getElem?_set_ne (Ne.symm h2), pTold_old (by rw [List.length_append]; omega) (by omega), pnew_old h1]
theorem pfold_len2 (l : List PC) (o : Nat) (c : PC) (f g : Nat) (t n u k : Int) (ht : t ≠ 0) (hu : u ≠ 0) : (pfold o l c [(f, t, n), (g, u, k)]).length = l.length + 2 := by
  rw [pfold2 _ _ _ _ _ _ _ _ _ ht hu, parr_len, parr_len]
theorem keeps_Patterns : Keeps pPatterns := fun l n i h1 h2 => by
  unfold pPatterns
  rw [pmany_old (by rw [pfold_len2 _ _ _ _ _ _ _ _ _ (by decide) (by decide)]; omega) (by omega), pfold_old h1 h2]
section MAKES3
variable {G : JG} {Q : Int → JM → Prop} {M M0 : JM} {X : Int} {l : List PC}
/-- Search(): three arrays and a Text -/
def pSearch (l : List PC) (o : Nat) : List PC := psub (fun l o => pText l o 240) 19 (pfold o l (pnew 13 0) [(400, 1, 241), (401, 1, 240), (402, 1, 240)]) o 403
theorem pfold_grows : ∀ (R : List (Nat × Int × Int)) (l : List PC) (o : Nat) (c : PC), l.length ≤ (pfold o l c R).length
  | [], _, _, _ => Nat.le_refl _
  | q :: R, l, o, c => by
    show l.length ≤ (pfold o (pst l o c q).1 (pst l o c q).2 R).length
    have h1 := pfold_grows R (pst l o c q).1 o (pst l o c q).2
    have h2 : l.length ≤ (pst l o c q).1.length := by
      unfold pst
      split
      · simp
      · simp [parr_len]
    omega
theorem keeps_Search : Keeps pSearch := fun l n i h1 h2 => by
  unfold pSearch
  have := pfold_grows [(400, 1, 241), (401, 1, 240), (402, 1, 240)] l n (pnew 13 0)
  rw [psub_old (keeps_Text 240) (by omega) h2, pfold_old h1 h2]
theorem c_initSearch {o : Nat} (h : Has M M0 X l) (ho : l[o]? = some (pnew 13 0)) (k : ∀ M', Has M' M0 X (pSearch l o) → Q 0 M') : Runs G 16 5 963 [(1, X + o)] M Q := by
  have hX := h.2.1
  have h45 : ∀ c s M', (c = 5 ∧ s = 963 ∧ Has M' M0 X (pSearch l o)) → J G 16 5 963 Q c s 45 [] [] M' := fun c s M' hp => by
    obtain ⟨rfl, rfl, hp⟩ := hp
    exact sg_X3_init_45 _ _ _ (jends_in (Nat.le_refl _) (Nat.le_refl _) (k _ hp))
  have h31 : ∀ c s v0 M', Ini M0 X o 13 [] (pfold o l (pnew 13 0) [(400, 1, 241), (401, 1, 240), (402, 1, 240)]) 3 721 [] c s v0 M' → J G 16 5 963 Q c s 31 [(0, 1, v0)] [] M' := fun c s v0 M' hp => by
    obtain ⟨rfl, rfl, rfl, l1, c1, g1, g2, g3, -, g4⟩ := hp
    have g4 : l1 = _ := g4
    have hl : M' 4 0 0 = X + l1.length := g1.1
    refine sg_X3_init_31 (C45 := fun c s M' => c = 5 ∧ s = 963 ∧ Has M' M0 X (pSearch l o)) h45 _ _ _ M' ⟨⟨by omega, by omega⟩, by omega, 1, (240 : Int).toNat, by omega, by omega, ?_⟩
    rw [hl]
    refine c_initText (g1.new 19 0) (pnew_last l1 _) (by omega) (fun M2 h2 _ => ?_)
    obtain ⟨e1, e2⟩ := psub_has (keeps_Text 240) (t := 19) (f := 403) (by omega) g2 h2
    refine ⟨e1.trans g3, by omega, by omega, ?_⟩
    unfold pSearch
    rw [← g4]
    exact e2
  have h22 : ∀ c s v0 M', Ini M0 X o 13 [] (pfold o l (pnew 13 0) [(400, 1, 241), (401, 1, 240), (402, 1, 240)]) 2 481 [(402, 1, 240)] c s v0 M' → J G 16 5 963 Q c s 22 [(0, 1, v0)] [] M' := fun c s v0 M' hp => by
    obtain ⟨g1, g2⟩ := hp.arr (by decide) (by decide) (by decide)
    obtain ⟨e0, rfl, rfl, -⟩ := hp
    exact sg_X3_init_22 (C31 := fun c s v0 M' => Ini M0 X o 13 [] (pfold o l (pnew 13 0) [(400, 1, 241), (401, 1, 240), (402, 1, 240)]) 3 721 [] c s v0 M') h31 _ _ v0 M' ⟨⟨by decide, by decide, by omega, by omega⟩, g1, g2⟩
  have h13 : ∀ c s v0 M', Ini M0 X o 13 [] (pfold o l (pnew 13 0) [(400, 1, 241), (401, 1, 240), (402, 1, 240)]) 1 241 [(401, 1, 240), (402, 1, 240)] c s v0 M' → J G 16 5 963 Q c s 13 [(0, 1, v0)] [] M' := fun c s v0 M' hp => by
    obtain ⟨g1, g2⟩ := hp.arr (by decide) (by decide) (by decide)
    obtain ⟨e0, rfl, rfl, -⟩ := hp
    exact sg_X3_init_13 (C22 := fun c s v0 M' => Ini M0 X o 13 [] (pfold o l (pnew 13 0) [(400, 1, 241), (401, 1, 240), (402, 1, 240)]) 2 481 [(402, 1, 240)] c s v0 M') h22 _ _ v0 M' ⟨⟨by decide, by decide, by omega, by omega⟩, g1, g2⟩
  have h4 : ∀ c s v0 M', Ini M0 X o 13 [] (pfold o l (pnew 13 0) [(400, 1, 241), (401, 1, 240), (402, 1, 240)]) 0 0 [(400, 1, 241), (401, 1, 240), (402, 1, 240)] c s v0 M' → J G 16 5 963 Q c s 4 [(0, 1, v0)] [] M' := fun c s v0 M' hp => by
    obtain ⟨g1, g2⟩ := hp.arr (by decide) (by decide) (by decide)
    obtain ⟨e0, rfl, rfl, -⟩ := hp
    exact sg_X3_init_4 (C13 := fun c s v0 M' => Ini M0 X o 13 [] (pfold o l (pnew 13 0) [(400, 1, 241), (401, 1, 240), (402, 1, 240)]) 1 241 [(401, 1, 240), (402, 1, 240)] c s v0 M') h13 _ _ v0 M' ⟨⟨by decide, by decide, by omega, by omega⟩, g1, g2⟩
  exact rn_X3_init (X + o) M (sg_X3_init_0 (C4 := fun c s v0 M' => Ini M0 X o 13 [] (pfold o l (pnew 13 0) [(400, 1, 241), (401, 1, 240), (402, 1, 240)]) 0 0 [(400, 1, 241), (401, 1, 240), (402, 1, 240)] c s v0 M') h4 (X + o) M ⟨by omega, rfl, rfl, rfl, l, _, h, ho, rfl, fun _ h => (by cases h), rfl⟩)
end MAKES3
