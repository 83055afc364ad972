/-! the constructor of UnitAtlas (by wip/whole/gen8.py) -/
def pchain (o : Nat) : List PC → List ((List PC → Nat → List PC) × Int × Nat) → List PC
  | l, [] => l
  | l, q :: R => pchain o (psub q.1 q.2.1 l o q.2.2) R
def Sub (M0 : JM) (X : Int) (o : Nat) (F : List PC) (i S : Nat) (R : List ((List PC → Nat → List PC) × Int × Nat)) (c s : Nat) (v0 : Int) (M : JM) : Prop := v0 = X + o ∧ c = i ∧ s = S ∧ ∃ (l : List PC) (c' : PC), Has M M0 X l ∧ l[o]? = some c' ∧ c'.1 = 21 ∧ pchain o l R = F
theorem Sub.next {M0 : JM} {X : Int} {o : Nat} {F : List PC} {i S : Nat} {p : List PC → Nat → List PC} {t : Int} {f : Nat} {R : List ((List PC → Nat → List PC) × Int × Nat)} {l1 : List PC} {c1 : PC} {M' : JM} {c s : Nat} (hc : c = i) (hs : s = S) (hp : Keeps p) (e2 : Has M' M0 X (psub p t l1 o f)) (g2 : l1[o]? = some c1) (g3 : c1.1 = 21) (g4 : pchain o l1 ((p, t, f) :: R) = F) : Sub M0 X o F i S R c s (X + o) M' := ⟨rfl, hc, hs, _, _, e2, psub_at hp g2, g3, g4⟩
def pAtlas (l : List PC) (o : Nat) : List PC := pchain o l [(pShelf, 14, 1200), ((fun l o => pSuffixes l o 240), 18, 1201), (pSearch, 13, 1202), (pForms, 10, 1203), (pPatterns, 12, 1204), (pSqueezer, 16, 1205), (pSorter, 15, 1206), ((fun l o => pTold l o 2 3840), 20, 1207), ((fun l o => pTold l o 1 240), 20, 1208), ((fun l o => pTold l o 3 240), 20, 1209), ((fun l o => pTold l o 3 240), 20, 1210), ((fun l o => pTold l o 2 240), 20, 1211)]
section ATLAS0
variable {G : JG} {Q : Int → JM → Prop} {M M0 : JM} {X : Int} {l : List PC}
set_option maxRecDepth 20000 in
set_option maxHeartbeats 4000000 in
theorem c_initAtlas {o : Nat} (h : Has M M0 X l) (ho : l[o]? = some (pnew 21 0)) (k : ∀ M', Has M' M0 X (pAtlas l o) → Q 0 M') : Runs G 107 217 30678 [(1, X + o)] M Q := by
  have hX := h.2.1
  have h159 : ∀ c s M', (Sub M0 X o (pAtlas l o) 217 30678 []) c s (X + o) M' → J G 107 217 30678 Q c s 159 [] [] M' := fun c s M' hp => by
    obtain ⟨-, rfl, rfl, l1, c1, g1, -, -, g4⟩ := hp
    have g4 : l1 = _ := g4
    rw [g4] at g1
    exact sg_X11_init_159 _ _ _ (jends_in (Nat.le_refl _) (Nat.le_refl _) (k _ g1))
  have h144 : ∀ c s v0 M', (Sub M0 X o (pAtlas l o) 215 30194 [((fun l o => pTold l o 2 240), 20, 1211)]) c s v0 M' → J G 107 217 30678 Q c s 144 [(0, 1, v0)] [] M' := fun c s v0 M' hp => by
    obtain ⟨rfl, rfl, rfl, l1, c1, g1, g2, g3, g4⟩ := hp
    have hl : M' 4 0 0 = X + l1.length := g1.1
    refine sg_X11_init_144 (C159 := fun c s M' => (Sub M0 X o (pAtlas l o) 217 30678 []) c s (X + o) M') h159 _ _ _ M' ⟨⟨by decide, by decide⟩, by omega, 1, 480, by decide, by decide, ?_⟩
    rw [hl]
    refine c_initTold (w := 2) (n := 240) (g1.new 20 0) (pnew_last _ _) (by omega) (by omega) (fun M2 h2 _ => ?_)
    obtain ⟨e1, e2⟩ := psub_has (keeps_Told 2 240) (t := 20) (f := 1211) (by omega) g2 h2
    exact ⟨e1.trans g3, Sub.next (by decide) (by decide) (keeps_Told 2 240) e2 g2 g3 g4⟩
  have h129 : ∀ c s v0 M', (Sub M0 X o (pAtlas l o) 213 29470 [((fun l o => pTold l o 3 240), 20, 1210), ((fun l o => pTold l o 2 240), 20, 1211)]) c s v0 M' → J G 107 217 30678 Q c s 129 [(0, 1, v0)] [] M' := fun c s v0 M' hp => by
    obtain ⟨rfl, rfl, rfl, l1, c1, g1, g2, g3, g4⟩ := hp
    have hl : M' 4 0 0 = X + l1.length := g1.1
    refine sg_X11_init_129 (C144 := fun c s v0 M' => (Sub M0 X o (pAtlas l o) 215 30194 [((fun l o => pTold l o 2 240), 20, 1211)]) c s v0 M') h144 _ _ _ M' ⟨⟨by decide, by decide⟩, by omega, 1, 720, by decide, by decide, ?_⟩
    rw [hl]
    refine c_initTold (w := 3) (n := 240) (g1.new 20 0) (pnew_last _ _) (by omega) (by omega) (fun M2 h2 _ => ?_)
    obtain ⟨e1, e2⟩ := psub_has (keeps_Told 3 240) (t := 20) (f := 1210) (by omega) g2 h2
    exact ⟨e1.trans g3, Sub.next (by decide) (by decide) (keeps_Told 3 240) e2 g2 g3 g4⟩
  have h114 : ∀ c s v0 M', (Sub M0 X o (pAtlas l o) 211 28746 [((fun l o => pTold l o 3 240), 20, 1209), ((fun l o => pTold l o 3 240), 20, 1210), ((fun l o => pTold l o 2 240), 20, 1211)]) c s v0 M' → J G 107 217 30678 Q c s 114 [(0, 1, v0)] [] M' := fun c s v0 M' hp => by
    obtain ⟨rfl, rfl, rfl, l1, c1, g1, g2, g3, g4⟩ := hp
    have hl : M' 4 0 0 = X + l1.length := g1.1
    refine sg_X11_init_114 (C129 := fun c s v0 M' => (Sub M0 X o (pAtlas l o) 213 29470 [((fun l o => pTold l o 3 240), 20, 1210), ((fun l o => pTold l o 2 240), 20, 1211)]) c s v0 M') h129 _ _ _ M' ⟨⟨by decide, by decide⟩, by omega, 1, 720, by decide, by decide, ?_⟩
    rw [hl]
    refine c_initTold (w := 3) (n := 240) (g1.new 20 0) (pnew_last _ _) (by omega) (by omega) (fun M2 h2 _ => ?_)
    obtain ⟨e1, e2⟩ := psub_has (keeps_Told 3 240) (t := 20) (f := 1209) (by omega) g2 h2
    exact ⟨e1.trans g3, Sub.next (by decide) (by decide) (keeps_Told 3 240) e2 g2 g3 g4⟩
  have h99 : ∀ c s v0 M', (Sub M0 X o (pAtlas l o) 209 28502 [((fun l o => pTold l o 1 240), 20, 1208), ((fun l o => pTold l o 3 240), 20, 1209), ((fun l o => pTold l o 3 240), 20, 1210), ((fun l o => pTold l o 2 240), 20, 1211)]) c s v0 M' → J G 107 217 30678 Q c s 99 [(0, 1, v0)] [] M' := fun c s v0 M' hp => by
    obtain ⟨rfl, rfl, rfl, l1, c1, g1, g2, g3, g4⟩ := hp
    have hl : M' 4 0 0 = X + l1.length := g1.1
    refine sg_X11_init_99 (C114 := fun c s v0 M' => (Sub M0 X o (pAtlas l o) 211 28746 [((fun l o => pTold l o 3 240), 20, 1209), ((fun l o => pTold l o 3 240), 20, 1210), ((fun l o => pTold l o 2 240), 20, 1211)]) c s v0 M') h114 _ _ _ M' ⟨⟨by decide, by decide⟩, by omega, 1, 240, by decide, by decide, ?_⟩
    rw [hl]
    refine c_initTold (w := 1) (n := 240) (g1.new 20 0) (pnew_last _ _) (by omega) (by omega) (fun M2 h2 _ => ?_)
    obtain ⟨e1, e2⟩ := psub_has (keeps_Told 1 240) (t := 20) (f := 1208) (by omega) g2 h2
    exact ⟨e1.trans g3, Sub.next (by decide) (by decide) (keeps_Told 1 240) e2 g2 g3 g4⟩
  have h84 : ∀ c s v0 M', (Sub M0 X o (pAtlas l o) 207 20818 [((fun l o => pTold l o 2 3840), 20, 1207), ((fun l o => pTold l o 1 240), 20, 1208), ((fun l o => pTold l o 3 240), 20, 1209), ((fun l o => pTold l o 3 240), 20, 1210), ((fun l o => pTold l o 2 240), 20, 1211)]) c s v0 M' → J G 107 217 30678 Q c s 84 [(0, 1, v0)] [] M' := fun c s v0 M' hp => by
    obtain ⟨rfl, rfl, rfl, l1, c1, g1, g2, g3, g4⟩ := hp
    have hl : M' 4 0 0 = X + l1.length := g1.1
    refine sg_X11_init_84 (C99 := fun c s v0 M' => (Sub M0 X o (pAtlas l o) 209 28502 [((fun l o => pTold l o 1 240), 20, 1208), ((fun l o => pTold l o 3 240), 20, 1209), ((fun l o => pTold l o 3 240), 20, 1210), ((fun l o => pTold l o 2 240), 20, 1211)]) c s v0 M') h99 _ _ _ M' ⟨⟨by decide, by decide⟩, by omega, 1, 7680, by decide, by decide, ?_⟩
    rw [hl]
    refine c_initTold (w := 2) (n := 3840) (g1.new 20 0) (pnew_last _ _) (by omega) (by omega) (fun M2 h2 _ => ?_)
    obtain ⟨e1, e2⟩ := psub_has (keeps_Told 2 3840) (t := 20) (f := 1207) (by omega) g2 h2
    exact ⟨e1.trans g3, Sub.next (by decide) (by decide) (keeps_Told 2 3840) e2 g2 g3 g4⟩
  have h73 : ∀ c s v0 M', (Sub M0 X o (pAtlas l o) 203 20330 [(pSorter, 15, 1206), ((fun l o => pTold l o 2 3840), 20, 1207), ((fun l o => pTold l o 1 240), 20, 1208), ((fun l o => pTold l o 3 240), 20, 1209), ((fun l o => pTold l o 3 240), 20, 1210), ((fun l o => pTold l o 2 240), 20, 1211)]) c s v0 M' → J G 107 217 30678 Q c s 73 [(0, 1, v0)] [] M' := fun c s v0 M' hp => by
    obtain ⟨rfl, rfl, rfl, l1, c1, g1, g2, g3, g4⟩ := hp
    have hl : M' 4 0 0 = X + l1.length := g1.1
    refine sg_X11_init_73 (C84 := fun c s v0 M' => (Sub M0 X o (pAtlas l o) 207 20818 [((fun l o => pTold l o 2 3840), 20, 1207), ((fun l o => pTold l o 1 240), 20, 1208), ((fun l o => pTold l o 3 240), 20, 1209), ((fun l o => pTold l o 3 240), 20, 1210), ((fun l o => pTold l o 2 240), 20, 1211)]) c s v0 M') h84 _ _ _ M' ⟨⟨by decide, by decide⟩, by omega, 3, 486, by decide, by decide, ?_⟩
    rw [hl]
    refine c_initSorter (g1.new 15 0) (pnew_last _ _) (fun M2 h2 _ => ?_)
    obtain ⟨e1, e2⟩ := psub_has keeps_Sorter (t := 15) (f := 1206) (by omega) g2 h2
    exact ⟨e1.trans g3, Sub.next (by decide) (by decide) keeps_Sorter e2 g2 g3 g4⟩
  have h62 : ∀ c s v0 M', (Sub M0 X o (pAtlas l o) 198 19120 [(pSqueezer, 16, 1205), (pSorter, 15, 1206), ((fun l o => pTold l o 2 3840), 20, 1207), ((fun l o => pTold l o 1 240), 20, 1208), ((fun l o => pTold l o 3 240), 20, 1209), ((fun l o => pTold l o 3 240), 20, 1210), ((fun l o => pTold l o 2 240), 20, 1211)]) c s v0 M' → J G 107 217 30678 Q c s 62 [(0, 1, v0)] [] M' := fun c s v0 M' hp => by
    obtain ⟨rfl, rfl, rfl, l1, c1, g1, g2, g3, g4⟩ := hp
    have hl : M' 4 0 0 = X + l1.length := g1.1
    refine sg_X11_init_62 (C73 := fun c s v0 M' => (Sub M0 X o (pAtlas l o) 203 20330 [(pSorter, 15, 1206), ((fun l o => pTold l o 2 3840), 20, 1207), ((fun l o => pTold l o 1 240), 20, 1208), ((fun l o => pTold l o 3 240), 20, 1209), ((fun l o => pTold l o 3 240), 20, 1210), ((fun l o => pTold l o 2 240), 20, 1211)]) c s v0 M') h73 _ _ _ M' ⟨⟨by decide, by decide⟩, by omega, 4, 1206, by decide, by decide, ?_⟩
    rw [hl]
    refine c_initSqueezer (g1.new 16 0) (pnew_last _ _) (fun M2 h2 _ => ?_)
    obtain ⟨e1, e2⟩ := psub_has keeps_Squeezer (t := 16) (f := 1205) (by omega) g2 h2
    exact ⟨e1.trans g3, Sub.next (by decide) (by decide) keeps_Squeezer e2 g2 g3 g4⟩
  have h51 : ∀ c s v0 M', (Sub M0 X o (pAtlas l o) 163 18188 [(pPatterns, 12, 1204), (pSqueezer, 16, 1205), (pSorter, 15, 1206), ((fun l o => pTold l o 2 3840), 20, 1207), ((fun l o => pTold l o 1 240), 20, 1208), ((fun l o => pTold l o 3 240), 20, 1209), ((fun l o => pTold l o 3 240), 20, 1210), ((fun l o => pTold l o 2 240), 20, 1211)]) c s v0 M' → J G 107 217 30678 Q c s 51 [(0, 1, v0)] [] M' := fun c s v0 M' hp => by
    obtain ⟨rfl, rfl, rfl, l1, c1, g1, g2, g3, g4⟩ := hp
    have hl : M' 4 0 0 = X + l1.length := g1.1
    refine sg_X11_init_51 (C62 := fun c s v0 M' => (Sub M0 X o (pAtlas l o) 198 19120 [(pSqueezer, 16, 1205), (pSorter, 15, 1206), ((fun l o => pTold l o 2 3840), 20, 1207), ((fun l o => pTold l o 1 240), 20, 1208), ((fun l o => pTold l o 3 240), 20, 1209), ((fun l o => pTold l o 3 240), 20, 1210), ((fun l o => pTold l o 2 240), 20, 1211)]) c s v0 M') h62 _ _ _ M' ⟨⟨by decide, by decide⟩, by omega, 34, 929, by decide, by decide, ?_⟩
    rw [hl]
    refine c_initPatterns (g1.new 12 0) (pnew_last _ _) (fun M2 h2 _ => ?_)
    obtain ⟨e1, e2⟩ := psub_has keeps_Patterns (t := 12) (f := 1204) (by omega) g2 h2
    exact ⟨e1.trans g3, Sub.next (by decide) (by decide) keeps_Patterns e2 g2 g3 g4⟩
  have h40 : ∀ c s v0 M', (Sub M0 X o (pAtlas l o) 160 17704 [(pForms, 10, 1203), (pPatterns, 12, 1204), (pSqueezer, 16, 1205), (pSorter, 15, 1206), ((fun l o => pTold l o 2 3840), 20, 1207), ((fun l o => pTold l o 1 240), 20, 1208), ((fun l o => pTold l o 3 240), 20, 1209), ((fun l o => pTold l o 3 240), 20, 1210), ((fun l o => pTold l o 2 240), 20, 1211)]) c s v0 M' → J G 107 217 30678 Q c s 40 [(0, 1, v0)] [] M' := fun c s v0 M' hp => by
    obtain ⟨rfl, rfl, rfl, l1, c1, g1, g2, g3, g4⟩ := hp
    have hl : M' 4 0 0 = X + l1.length := g1.1
    refine sg_X11_init_40 (C51 := fun c s v0 M' => (Sub M0 X o (pAtlas l o) 163 18188 [(pPatterns, 12, 1204), (pSqueezer, 16, 1205), (pSorter, 15, 1206), ((fun l o => pTold l o 2 3840), 20, 1207), ((fun l o => pTold l o 1 240), 20, 1208), ((fun l o => pTold l o 3 240), 20, 1209), ((fun l o => pTold l o 3 240), 20, 1210), ((fun l o => pTold l o 2 240), 20, 1211)]) c s v0 M') h51 _ _ _ M' ⟨⟨by decide, by decide⟩, by omega, 2, 482, by decide, by decide, ?_⟩
    rw [hl]
    refine c_initForms (g1.new 10 0) (pnew_last _ _) (fun M2 h2 _ => ?_)
    obtain ⟨e1, e2⟩ := psub_has keeps_Forms (t := 10) (f := 1203) (by omega) g2 h2
    exact ⟨e1.trans g3, Sub.next (by decide) (by decide) keeps_Forms e2 g2 g3 g4⟩
  have h29 : ∀ c s v0 M', (Sub M0 X o (pAtlas l o) 154 16733 [(pSearch, 13, 1202), (pForms, 10, 1203), (pPatterns, 12, 1204), (pSqueezer, 16, 1205), (pSorter, 15, 1206), ((fun l o => pTold l o 2 3840), 20, 1207), ((fun l o => pTold l o 1 240), 20, 1208), ((fun l o => pTold l o 3 240), 20, 1209), ((fun l o => pTold l o 3 240), 20, 1210), ((fun l o => pTold l o 2 240), 20, 1211)]) c s v0 M' → J G 107 217 30678 Q c s 29 [(0, 1, v0)] [] M' := fun c s v0 M' hp => by
    obtain ⟨rfl, rfl, rfl, l1, c1, g1, g2, g3, g4⟩ := hp
    have hl : M' 4 0 0 = X + l1.length := g1.1
    refine sg_X11_init_29 (C40 := fun c s v0 M' => (Sub M0 X o (pAtlas l o) 160 17704 [(pForms, 10, 1203), (pPatterns, 12, 1204), (pSqueezer, 16, 1205), (pSorter, 15, 1206), ((fun l o => pTold l o 2 3840), 20, 1207), ((fun l o => pTold l o 1 240), 20, 1208), ((fun l o => pTold l o 3 240), 20, 1209), ((fun l o => pTold l o 3 240), 20, 1210), ((fun l o => pTold l o 2 240), 20, 1211)]) c s v0 M') h40 _ _ _ M' ⟨⟨by decide, by decide⟩, by omega, 5, 963, by decide, by decide, ?_⟩
    rw [hl]
    refine c_initSearch (g1.new 13 0) (pnew_last _ _) (fun M2 h2 _ => ?_)
    obtain ⟨e1, e2⟩ := psub_has keeps_Search (t := 13) (f := 1202) (by omega) g2 h2
    exact ⟨e1.trans g3, Sub.next (by decide) (by decide) keeps_Search e2 g2 g3 g4⟩
  have h15 : ∀ c s v0 M', (Sub M0 X o (pAtlas l o) 143 14646 [((fun l o => pSuffixes l o 240), 18, 1201), (pSearch, 13, 1202), (pForms, 10, 1203), (pPatterns, 12, 1204), (pSqueezer, 16, 1205), (pSorter, 15, 1206), ((fun l o => pTold l o 2 3840), 20, 1207), ((fun l o => pTold l o 1 240), 20, 1208), ((fun l o => pTold l o 3 240), 20, 1209), ((fun l o => pTold l o 3 240), 20, 1210), ((fun l o => pTold l o 2 240), 20, 1211)]) c s v0 M' → J G 107 217 30678 Q c s 15 [(0, 1, v0)] [] M' := fun c s v0 M' hp => by
    obtain ⟨rfl, rfl, rfl, l1, c1, g1, g2, g3, g4⟩ := hp
    have hl : M' 4 0 0 = X + l1.length := g1.1
    refine sg_X11_init_15 (C29 := fun c s v0 M' => (Sub M0 X o (pAtlas l o) 154 16733 [(pSearch, 13, 1202), (pForms, 10, 1203), (pPatterns, 12, 1204), (pSqueezer, 16, 1205), (pSorter, 15, 1206), ((fun l o => pTold l o 2 3840), 20, 1207), ((fun l o => pTold l o 1 240), 20, 1208), ((fun l o => pTold l o 3 240), 20, 1209), ((fun l o => pTold l o 3 240), 20, 1210), ((fun l o => pTold l o 2 240), 20, 1211)]) c s v0 M') h29 _ _ _ M' ⟨⟨by decide, by decide⟩, by omega, 10, 2072, by decide, by decide, ?_⟩
    rw [hl]
    refine c_initSuffixes (n := 240) (g1.new 18 0) (pnew_last _ _) (by omega) (fun M2 h2 _ => ?_)
    obtain ⟨e1, e2⟩ := psub_has (keeps_Suffixes 240) (t := 18) (f := 1201) (by omega) g2 h2
    exact ⟨e1.trans g3, Sub.next (by decide) (by decide) (keeps_Suffixes 240) e2 g2 g3 g4⟩
  have h4 : ∀ c s v0 M', (Sub M0 X o (pAtlas l o) 0 0 [(pShelf, 14, 1200), ((fun l o => pSuffixes l o 240), 18, 1201), (pSearch, 13, 1202), (pForms, 10, 1203), (pPatterns, 12, 1204), (pSqueezer, 16, 1205), (pSorter, 15, 1206), ((fun l o => pTold l o 2 3840), 20, 1207), ((fun l o => pTold l o 1 240), 20, 1208), ((fun l o => pTold l o 3 240), 20, 1209), ((fun l o => pTold l o 3 240), 20, 1210), ((fun l o => pTold l o 2 240), 20, 1211)]) c s v0 M' → J G 107 217 30678 Q c s 4 [(0, 1, v0)] [] M' := fun c s v0 M' hp => by
    obtain ⟨rfl, rfl, rfl, l1, c1, g1, g2, g3, g4⟩ := hp
    have hl : M' 4 0 0 = X + l1.length := g1.1
    refine sg_X11_init_4 (C15 := fun c s v0 M' => (Sub M0 X o (pAtlas l o) 143 14646 [((fun l o => pSuffixes l o 240), 18, 1201), (pSearch, 13, 1202), (pForms, 10, 1203), (pPatterns, 12, 1204), (pSqueezer, 16, 1205), (pSorter, 15, 1206), ((fun l o => pTold l o 2 3840), 20, 1207), ((fun l o => pTold l o 1 240), 20, 1208), ((fun l o => pTold l o 3 240), 20, 1209), ((fun l o => pTold l o 3 240), 20, 1210), ((fun l o => pTold l o 2 240), 20, 1211)]) c s v0 M') h15 _ _ _ M' ⟨⟨by decide, by decide⟩, by omega, 142, 14640, by decide, by decide, ?_⟩
    rw [hl]
    refine c_initShelf (g1.new 14 0) (pnew_last _ _) (fun M2 h2 _ => ?_)
    obtain ⟨e1, e2⟩ := psub_has keeps_Shelf (t := 14) (f := 1200) (by omega) g2 h2
    exact ⟨e1.trans g3, Sub.next (by decide) (by decide) keeps_Shelf e2 g2 g3 g4⟩
  exact rn_X11_init (X + o) M (sg_X11_init_0 (C4 := fun c s v0 M' => (Sub M0 X o (pAtlas l o) 0 0 [(pShelf, 14, 1200), ((fun l o => pSuffixes l o 240), 18, 1201), (pSearch, 13, 1202), (pForms, 10, 1203), (pPatterns, 12, 1204), (pSqueezer, 16, 1205), (pSorter, 15, 1206), ((fun l o => pTold l o 2 3840), 20, 1207), ((fun l o => pTold l o 1 240), 20, 1208), ((fun l o => pTold l o 3 240), 20, 1209), ((fun l o => pTold l o 3 240), 20, 1210), ((fun l o => pTold l o 2 240), 20, 1211)]) c s v0 M') h4 (X + o) M ⟨by omega, rfl, rfl, rfl, l, _, h, ho, rfl, rfl⟩)
end ATLAS0
