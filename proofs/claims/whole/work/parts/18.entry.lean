/-! a method's contract out of the condition at its entry -/
theorem jwd_len : ∀ as : List JV, (lg_sl (as.map jv)).length = jwd as
  | [] => rfl
  | v :: as => by
    have ih := jwd_len as
    show (lg_sl (jv v :: as.map jv)).length = (if v.1 = 0 ∨ v.1 = 1 ∨ v.1 = 5 then 1 else 2) + jwd as
    rw [← ih]
    unfold lg_sl
    rw [List.flatMap_cons, List.length_append, jv_cat]
    by_cases h : v.1 = 0 ∨ v.1 = 1 ∨ v.1 = 5
    · rw [if_pos h, if_neg (by omega)]; rfl
    · rw [if_neg h, if_pos rfl]; rfl
theorem Runs.go {G : JG} {mc ms : Nat} {Q : Int → JM → Prop} {M : JM} {y : Nat} {as : List JV} {lv : JL} (hy : jlist.elem y = true) (hlen : Nat.ble (jwd as) (jmaxl y) = true) (hlv : jentry 0 as = lv) (h : J G y mc ms Q 0 0 0 lv [] M) : Runs G y mc ms as M Q :=
  Runs.of (List.elem_iff.mp hy) (by rw [jwd_len]; exact Nat.ble_eq.mp hlen) (hlv ▸ h)
set_option maxRecDepth 20000 in
theorem rn_X0_init {G : JG} {mc ms : Nat} {Q : Int → JM → Prop} (v0 : Int) (M : JM) (h : J G 0 mc ms Q 0 0 0 [(0, 1, v0)] [] M) : Runs G 0 mc ms [(1, v0)] M Q := Runs.go (by decide +kernel) rfl rfl h
set_option maxRecDepth 20000 in
theorem rn_X0_edgeOf {G : JG} {mc ms : Nat} {Q : Int → JM → Prop} (v0 v1 v2 v3 : Int) (M : JM) (h : J G 1 mc ms Q 0 0 0 [(0, 1, v0), (1, 1, v1), (2, 0, v2), (3, 0, v3)] [] M) : Runs G 1 mc ms [(1, v0), (1, v1), (0, v2), (0, v3)] M Q := Runs.go (by decide +kernel) rfl rfl h
set_option maxRecDepth 20000 in
theorem rn_X0_squaresIn {G : JG} {mc ms : Nat} {Q : Int → JM → Prop} (v0 : Int) (M : JM) (h : J G 2 mc ms Q 0 0 0 [(0, 1, v0)] [] M) : Runs G 2 mc ms [(1, v0)] M Q := Runs.go (by decide +kernel) rfl rfl h
set_option maxRecDepth 20000 in
theorem rn_X0_tellRuns {G : JG} {mc ms : Nat} {Q : Int → JM → Prop} (v0 v1 : Int) (M : JM) (h : J G 3 mc ms Q 0 0 0 [(0, 1, v0), (1, 1, v1)] [] M) : Runs G 3 mc ms [(1, v0), (1, v1)] M Q := Runs.go (by decide +kernel) rfl rfl h
set_option maxRecDepth 20000 in
theorem rn_X0_tellIfRun {G : JG} {mc ms : Nat} {Q : Int → JM → Prop} (v0 v1 v2 v3 : Int) (M : JM) (h : J G 4 mc ms Q 0 0 0 [(0, 0, v0), (1, 0, v1), (2, 0, v2), (3, 1, v3)] [] M) : Runs G 4 mc ms [(0, v0), (0, v1), (0, v2), (1, v3)] M Q := Runs.go (by decide +kernel) rfl rfl h
set_option maxRecDepth 20000 in
theorem rn_X0_mirroredAround {G : JG} {mc ms : Nat} {Q : Int → JM → Prop} (v0 v1 : Int) (M : JM) (h : J G 5 mc ms Q 0 0 0 [(0, 1, v0), (1, 0, v1)] [] M) : Runs G 5 mc ms [(1, v0), (0, v1)] M Q := Runs.go (by decide +kernel) rfl rfl h
set_option maxRecDepth 20000 in
theorem rn_X0_leastMirrored {G : JG} {mc ms : Nat} {Q : Int → JM → Prop} (v0 v1 : Int) (M : JM) (h : J G 6 mc ms Q 0 0 0 [(0, 1, v0), (1, 1, v1)] [] M) : Runs G 6 mc ms [(1, v0), (1, v1)] M Q := Runs.go (by decide +kernel) rfl rfl h
set_option maxRecDepth 20000 in
theorem rn_X0_leastTurn {G : JG} {mc ms : Nat} {Q : Int → JM → Prop} (v0 : Int) (M : JM) (h : J G 7 mc ms Q 0 0 0 [(0, 1, v0)] [] M) : Runs G 7 mc ms [(1, v0)] M Q := Runs.go (by decide +kernel) rfl rfl h
set_option maxRecDepth 20000 in
theorem rn_X0_turnIsLess {G : JG} {mc ms : Nat} {Q : Int → JM → Prop} (v0 v1 v2 : Int) (M : JM) (h : J G 8 mc ms Q 0 0 0 [(0, 1, v0), (1, 0, v1), (2, 0, v2)] [] M) : Runs G 8 mc ms [(1, v0), (0, v1), (0, v2)] M Q := Runs.go (by decide +kernel) rfl rfl h
set_option maxRecDepth 20000 in
theorem rn_X1_init {G : JG} {mc ms : Nat} {Q : Int → JM → Prop} (v0 : Int) (M : JM) (h : J G 9 mc ms Q 0 0 0 [(0, 1, v0)] [] M) : Runs G 9 mc ms [(1, v0)] M Q := Runs.go (by decide +kernel) rfl rfl h
set_option maxRecDepth 20000 in
theorem rn_X2_init {G : JG} {mc ms : Nat} {Q : Int → JM → Prop} (v0 : Int) (M : JM) (h : J G 10 mc ms Q 0 0 0 [(0, 1, v0)] [] M) : Runs G 10 mc ms [(1, v0)] M Q := Runs.go (by decide +kernel) rfl rfl h
set_option maxRecDepth 20000 in
theorem rn_X2_take {G : JG} {mc ms : Nat} {Q : Int → JM → Prop} (v0 v1 : Int) (M : JM) (h : J G 11 mc ms Q 0 0 0 [(0, 1, v0), (1, 1, v1)] [] M) : Runs G 11 mc ms [(1, v0), (1, v1)] M Q := Runs.go (by decide +kernel) rfl rfl h
set_option maxRecDepth 20000 in
theorem rn_X2_tellMatches {G : JG} {mc ms : Nat} {Q : Int → JM → Prop} (v0 v1 v2 : Int) (M : JM) (h : J G 12 mc ms Q 0 0 0 [(0, 1, v0), (1, 1, v1), (2, 1, v2)] [] M) : Runs G 12 mc ms [(1, v0), (1, v1), (1, v2)] M Q := Runs.go (by decide +kernel) rfl rfl h
set_option maxRecDepth 20000 in
theorem rn_X2_tellCover {G : JG} {mc ms : Nat} {Q : Int → JM → Prop} (v0 v1 v2 : Int) (M : JM) (h : J G 13 mc ms Q 0 0 0 [(0, 1, v0), (1, 1, v1), (2, 1, v2)] [] M) : Runs G 13 mc ms [(1, v0), (1, v1), (1, v2)] M Q := Runs.go (by decide +kernel) rfl rfl h
set_option maxRecDepth 20000 in
theorem rn_X2_measureRests {G : JG} {mc ms : Nat} {Q : Int → JM → Prop} (v0 v1 : Int) (M : JM) (h : J G 14 mc ms Q 0 0 0 [(0, 1, v0), (1, 1, v1)] [] M) : Runs G 14 mc ms [(1, v0), (1, v1)] M Q := Runs.go (by decide +kernel) rfl rfl h
set_option maxRecDepth 20000 in
theorem rn_X2_firstOfLeast {G : JG} {mc ms : Nat} {Q : Int → JM → Prop} (v0 v1 v2 : Int) (M : JM) (h : J G 15 mc ms Q 0 0 0 [(0, 1, v0), (1, 1, v1), (2, 0, v2)] [] M) : Runs G 15 mc ms [(1, v0), (1, v1), (0, v2)] M Q := Runs.go (by decide +kernel) rfl rfl h
set_option maxRecDepth 20000 in
theorem rn_X3_init {G : JG} {mc ms : Nat} {Q : Int → JM → Prop} (v0 : Int) (M : JM) (h : J G 16 mc ms Q 0 0 0 [(0, 1, v0)] [] M) : Runs G 16 mc ms [(1, v0)] M Q := Runs.go (by decide +kernel) rfl rfl h
set_option maxRecDepth 20000 in
theorem rn_X3_fits {G : JG} {mc ms : Nat} {Q : Int → JM → Prop} (v0 v1 v2 v3 v4 : Int) (M : JM) (h : J G 17 mc ms Q 0 0 0 [(0, 1, v0), (1, 0, v1), (2, 1, v2), (3, 0, v3), (4, 0, v4)] [] M) : Runs G 17 mc ms [(1, v0), (0, v1), (1, v2), (0, v3), (0, v4)] M Q := Runs.go (by decide +kernel) rfl rfl h
set_option maxRecDepth 20000 in
theorem rn_X3_placeOf {G : JG} {mc ms : Nat} {Q : Int → JM → Prop} (v0 v1 v2 v3 v4 : Int) (M : JM) (h : J G 18 mc ms Q 0 0 0 [(0, 1, v0), (1, 1, v1), (2, 0, v2), (3, 0, v3), (4, 0, v4)] [] M) : Runs G 18 mc ms [(1, v0), (1, v1), (0, v2), (0, v3), (0, v4)] M Q := Runs.go (by decide +kernel) rfl rfl h
set_option maxRecDepth 20000 in
theorem rn_X3_placesOf {G : JG} {mc ms : Nat} {Q : Int → JM → Prop} (v0 v1 : Int) (M : JM) (h : J G 19 mc ms Q 0 0 0 [(0, 1, v0), (1, 1, v1)] [] M) : Runs G 19 mc ms [(1, v0), (1, v1)] M Q := Runs.go (by decide +kernel) rfl rfl h
set_option maxRecDepth 20000 in
theorem rn_X3_measureShared {G : JG} {mc ms : Nat} {Q : Int → JM → Prop} (v0 v1 v2 : Int) (M : JM) (h : J G 20 mc ms Q 0 0 0 [(0, 1, v0), (1, 1, v1), (2, 1, v2)] [] M) : Runs G 20 mc ms [(1, v0), (1, v1), (1, v2)] M Q := Runs.go (by decide +kernel) rfl rfl h
set_option maxRecDepth 20000 in
theorem rn_X3_missingIn {G : JG} {mc ms : Nat} {Q : Int → JM → Prop} (v0 v1 : Int) (M : JM) (h : J G 21 mc ms Q 0 0 0 [(0, 1, v0), (1, 1, v1)] [] M) : Runs G 21 mc ms [(1, v0), (1, v1)] M Q := Runs.go (by decide +kernel) rfl rfl h
set_option maxRecDepth 20000 in
theorem rn_X3_gatherLetters {G : JG} {mc ms : Nat} {Q : Int → JM → Prop} (v0 v1 : Int) (M : JM) (h : J G 22 mc ms Q 0 0 0 [(0, 1, v0), (1, 1, v1)] [] M) : Runs G 22 mc ms [(1, v0), (1, v1)] M Q := Runs.go (by decide +kernel) rfl rfl h
set_option maxRecDepth 20000 in
theorem rn_X3_findMissing {G : JG} {mc ms : Nat} {Q : Int → JM → Prop} (v0 v1 v2 : Int) (M : JM) (h : J G 23 mc ms Q 0 0 0 [(0, 1, v0), (1, 1, v1), (2, 0, v2)] [] M) : Runs G 23 mc ms [(1, v0), (1, v1), (0, v2)] M Q := Runs.go (by decide +kernel) rfl rfl h
set_option maxRecDepth 20000 in
theorem rn_X3_spellChosen {G : JG} {mc ms : Nat} {Q : Int → JM → Prop} (v0 v1 : Int) (M : JM) (h : J G 24 mc ms Q 0 0 0 [(0, 1, v0), (1, 0, v1)] [] M) : Runs G 24 mc ms [(1, v0), (0, v1)] M Q := Runs.go (by decide +kernel) rfl rfl h
set_option maxRecDepth 20000 in
theorem rn_X3_chooseNext {G : JG} {mc ms : Nat} {Q : Int → JM → Prop} (v0 v1 : Int) (M : JM) (h : J G 25 mc ms Q 0 0 0 [(0, 1, v0), (1, 0, v1)] [] M) : Runs G 25 mc ms [(1, v0), (0, v1)] M Q := Runs.go (by decide +kernel) rfl rfl h
set_option maxRecDepth 20000 in
theorem rn_X4_init {G : JG} {mc ms : Nat} {Q : Int → JM → Prop} (v0 : Int) (M : JM) (h : J G 26 mc ms Q 0 0 0 [(0, 1, v0)] [] M) : Runs G 26 mc ms [(1, v0)] M Q := Runs.go (by decide +kernel) rfl rfl h
set_option maxRecDepth 20000 in
theorem rn_X4_look {G : JG} {mc ms : Nat} {Q : Int → JM → Prop} (v0 v1 : Int) (M : JM) (h : J G 27 mc ms Q 0 0 0 [(0, 1, v0), (1, 0, v1)] [] M) : Runs G 27 mc ms [(1, v0), (0, v1)] M Q := Runs.go (by decide +kernel) rfl rfl h
set_option maxRecDepth 20000 in
theorem rn_X4_isFull {G : JG} {mc ms : Nat} {Q : Int → JM → Prop} (v0 : Int) (M : JM) (h : J G 28 mc ms Q 0 0 0 [(0, 1, v0)] [] M) : Runs G 28 mc ms [(1, v0)] M Q := Runs.go (by decide +kernel) rfl rfl h
set_option maxRecDepth 20000 in
theorem rn_X4_newest {G : JG} {mc ms : Nat} {Q : Int → JM → Prop} (v0 : Int) (M : JM) (h : J G 29 mc ms Q 0 0 0 [(0, 1, v0)] [] M) : Runs G 29 mc ms [(1, v0)] M Q := Runs.go (by decide +kernel) rfl rfl h
set_option maxRecDepth 20000 in
theorem rn_X4_open {G : JG} {mc ms : Nat} {Q : Int → JM → Prop} (v0 : Int) (M : JM) (h : J G 30 mc ms Q 0 0 0 [(0, 1, v0)] [] M) : Runs G 30 mc ms [(1, v0)] M Q := Runs.go (by decide +kernel) rfl rfl h
set_option maxRecDepth 20000 in
theorem rn_X4_keep {G : JG} {mc ms : Nat} {Q : Int → JM → Prop} (v0 v1 : Int) (M : JM) (h : J G 31 mc ms Q 0 0 0 [(0, 1, v0), (1, 0, v1)] [] M) : Runs G 31 mc ms [(1, v0), (0, v1)] M Q := Runs.go (by decide +kernel) rfl rfl h
set_option maxRecDepth 20000 in
theorem rn_X4_nextKept {G : JG} {mc ms : Nat} {Q : Int → JM → Prop} (v0 : Int) (M : JM) (h : J G 32 mc ms Q 0 0 0 [(0, 1, v0)] [] M) : Runs G 32 mc ms [(1, v0)] M Q := Runs.go (by decide +kernel) rfl rfl h
set_option maxRecDepth 20000 in
theorem rn_X4_takeBack {G : JG} {mc ms : Nat} {Q : Int → JM → Prop} (v0 : Int) (M : JM) (h : J G 33 mc ms Q 0 0 0 [(0, 1, v0)] [] M) : Runs G 33 mc ms [(1, v0)] M Q := Runs.go (by decide +kernel) rfl rfl h
set_option maxRecDepth 20000 in
theorem rn_X4_allUnits {G : JG} {mc ms : Nat} {Q : Int → JM → Prop} (v0 : Int) (M : JM) (h : J G 34 mc ms Q 0 0 0 [(0, 1, v0)] [] M) : Runs G 34 mc ms [(1, v0)] M Q := Runs.go (by decide +kernel) rfl rfl h
set_option maxRecDepth 20000 in
theorem rn_X5_init {G : JG} {mc ms : Nat} {Q : Int → JM → Prop} (v0 : Int) (M : JM) (h : J G 35 mc ms Q 0 0 0 [(0, 1, v0)] [] M) : Runs G 35 mc ms [(1, v0)] M Q := Runs.go (by decide +kernel) rfl rfl h
set_option maxRecDepth 20000 in
theorem rn_X5_arrange {G : JG} {mc ms : Nat} {Q : Int → JM → Prop} (v0 v1 v2 : Int) (M : JM) (h : J G 36 mc ms Q 0 0 0 [(0, 1, v0), (1, 1, v1), (2, 1, v2)] [] M) : Runs G 36 mc ms [(1, v0), (1, v1), (1, v2)] M Q := Runs.go (by decide +kernel) rfl rfl h
set_option maxRecDepth 20000 in
theorem rn_X5_addLast {G : JG} {mc ms : Nat} {Q : Int → JM → Prop} (v0 v1 v2 : Int) (M : JM) (h : J G 37 mc ms Q 0 0 0 [(0, 1, v0), (1, 1, v1), (2, 0, v2)] [] M) : Runs G 37 mc ms [(1, v0), (1, v1), (0, v2)] M Q := Runs.go (by decide +kernel) rfl rfl h
set_option maxRecDepth 20000 in
theorem rn_X5_restore {G : JG} {mc ms : Nat} {Q : Int → JM → Prop} (v0 v1 : Int) (M : JM) (h : J G 38 mc ms Q 0 0 0 [(0, 1, v0), (1, 1, v1)] [] M) : Runs G 38 mc ms [(1, v0), (1, v1)] M Q := Runs.go (by decide +kernel) rfl rfl h
set_option maxRecDepth 20000 in
theorem rn_X5_listTurned {G : JG} {mc ms : Nat} {Q : Int → JM → Prop} (v0 : Int) (M : JM) (h : J G 39 mc ms Q 0 0 0 [(0, 1, v0)] [] M) : Runs G 39 mc ms [(1, v0)] M Q := Runs.go (by decide +kernel) rfl rfl h
set_option maxRecDepth 20000 in
theorem rn_X6_init {G : JG} {mc ms : Nat} {Q : Int → JM → Prop} (v0 : Int) (M : JM) (h : J G 40 mc ms Q 0 0 0 [(0, 1, v0)] [] M) : Runs G 40 mc ms [(1, v0)] M Q := Runs.go (by decide +kernel) rfl rfl h
set_option maxRecDepth 20000 in
theorem rn_X6_press {G : JG} {mc ms : Nat} {Q : Int → JM → Prop} (v0 v1 v2 : Int) (M : JM) (h : J G 41 mc ms Q 0 0 0 [(0, 1, v0), (1, 1, v1), (2, 0, v2)] [] M) : Runs G 41 mc ms [(1, v0), (1, v1), (0, v2)] M Q := Runs.go (by decide +kernel) rfl rfl h
set_option maxRecDepth 20000 in
theorem rn_X6_pressByCopies {G : JG} {mc ms : Nat} {Q : Int → JM → Prop} (v0 v1 : Int) (M : JM) (h : J G 42 mc ms Q 0 0 0 [(0, 1, v0), (1, 1, v1)] [] M) : Runs G 42 mc ms [(1, v0), (1, v1)] M Q := Runs.go (by decide +kernel) rfl rfl h
set_option maxRecDepth 20000 in
theorem rn_X6_sameFrom {G : JG} {mc ms : Nat} {Q : Int → JM → Prop} (v0 v1 v2 : Int) (M : JM) (h : J G 43 mc ms Q 0 0 0 [(0, 1, v0), (1, 0, v1), (2, 0, v2)] [] M) : Runs G 43 mc ms [(1, v0), (0, v1), (0, v2)] M Q := Runs.go (by decide +kernel) rfl rfl h
set_option maxRecDepth 20000 in
theorem rn_X6_pressByPhrases {G : JG} {mc ms : Nat} {Q : Int → JM → Prop} (v0 v1 : Int) (M : JM) (h : J G 44 mc ms Q 0 0 0 [(0, 1, v0), (1, 1, v1)] [] M) : Runs G 44 mc ms [(1, v0), (1, v1)] M Q := Runs.go (by decide +kernel) rfl rfl h
set_option maxRecDepth 20000 in
theorem rn_X6_unfold {G : JG} {mc ms : Nat} {Q : Int → JM → Prop} (v0 v1 : Int) (M : JM) (h : J G 45 mc ms Q 0 0 0 [(0, 1, v0), (1, 1, v1)] [] M) : Runs G 45 mc ms [(1, v0), (1, v1)] M Q := Runs.go (by decide +kernel) rfl rfl h
set_option maxRecDepth 20000 in
theorem rn_X6_unfoldCopy {G : JG} {mc ms : Nat} {Q : Int → JM → Prop} (v0 v1 v2 : Int) (M : JM) (h : J G 46 mc ms Q 0 0 0 [(0, 1, v0), (1, 1, v1), (2, 0, v2)] [] M) : Runs G 46 mc ms [(1, v0), (1, v1), (0, v2)] M Q := Runs.go (by decide +kernel) rfl rfl h
set_option maxRecDepth 20000 in
theorem rn_X6_unfoldPhrase {G : JG} {mc ms : Nat} {Q : Int → JM → Prop} (v0 v1 v2 : Int) (M : JM) (h : J G 47 mc ms Q 0 0 0 [(0, 1, v0), (1, 1, v1), (2, 0, v2)] [] M) : Runs G 47 mc ms [(1, v0), (1, v1), (0, v2)] M Q := Runs.go (by decide +kernel) rfl rfl h
set_option maxRecDepth 20000 in
theorem rn_X7_init {G : JG} {mc ms : Nat} {Q : Int → JM → Prop} (v0 : Int) (M : JM) (h : J G 48 mc ms Q 0 0 0 [(0, 1, v0)] [] M) : Runs G 48 mc ms [(1, v0)] M Q := Runs.go (by decide +kernel) rfl rfl h
set_option maxRecDepth 20000 in
theorem rn_X7_tellScript {G : JG} {mc ms : Nat} {Q : Int → JM → Prop} (v0 v1 v2 v3 : Int) (M : JM) (h : J G 49 mc ms Q 0 0 0 [(0, 1, v0), (1, 1, v1), (2, 1, v2), (3, 1, v3)] [] M) : Runs G 49 mc ms [(1, v0), (1, v1), (1, v2), (1, v3)] M Q := Runs.go (by decide +kernel) rfl rfl h
set_option maxRecDepth 20000 in
theorem rn_X7_isSame {G : JG} {mc ms : Nat} {Q : Int → JM → Prop} (v0 v1 v2 v3 : Int) (M : JM) (h : J G 50 mc ms Q 0 0 0 [(0, 1, v0), (1, 0, v1), (2, 1, v2), (3, 0, v3)] [] M) : Runs G 50 mc ms [(1, v0), (0, v1), (1, v2), (0, v3)] M Q := Runs.go (by decide +kernel) rfl rfl h
set_option maxRecDepth 20000 in
theorem rn_X7_measureDistances {G : JG} {mc ms : Nat} {Q : Int → JM → Prop} (v0 v1 v2 : Int) (M : JM) (h : J G 51 mc ms Q 0 0 0 [(0, 1, v0), (1, 1, v1), (2, 1, v2)] [] M) : Runs G 51 mc ms [(1, v0), (1, v1), (1, v2)] M Q := Runs.go (by decide +kernel) rfl rfl h
set_option maxRecDepth 20000 in
theorem rn_X7_measureDistancesFrom {G : JG} {mc ms : Nat} {Q : Int → JM → Prop} (v0 v1 v2 v3 : Int) (M : JM) (h : J G 52 mc ms Q 0 0 0 [(0, 1, v0), (1, 0, v1), (2, 0, v2), (3, 1, v3)] [] M) : Runs G 52 mc ms [(1, v0), (0, v1), (0, v2), (1, v3)] M Q := Runs.go (by decide +kernel) rfl rfl h
set_option maxRecDepth 20000 in
theorem rn_X7_wayOn {G : JG} {mc ms : Nat} {Q : Int → JM → Prop} (v0 v1 v2 v3 v4 : Int) (M : JM) (h : J G 53 mc ms Q 0 0 0 [(0, 1, v0), (1, 1, v1), (2, 0, v2), (3, 1, v3), (4, 0, v4)] [] M) : Runs G 53 mc ms [(1, v0), (1, v1), (0, v2), (1, v3), (0, v4)] M Q := Runs.go (by decide +kernel) rfl rfl h
set_option maxRecDepth 20000 in
theorem rn_X7_tellPairs {G : JG} {mc ms : Nat} {Q : Int → JM → Prop} (v0 v1 v2 v3 : Int) (M : JM) (h : J G 54 mc ms Q 0 0 0 [(0, 1, v0), (1, 1, v1), (2, 1, v2), (3, 1, v3)] [] M) : Runs G 54 mc ms [(1, v0), (1, v1), (1, v2), (1, v3)] M Q := Runs.go (by decide +kernel) rfl rfl h
set_option maxRecDepth 20000 in
theorem rn_X7_measurePairs {G : JG} {mc ms : Nat} {Q : Int → JM → Prop} (v0 v1 v2 : Int) (M : JM) (h : J G 55 mc ms Q 0 0 0 [(0, 1, v0), (1, 1, v1), (2, 1, v2)] [] M) : Runs G 55 mc ms [(1, v0), (1, v1), (1, v2)] M Q := Runs.go (by decide +kernel) rfl rfl h
set_option maxRecDepth 20000 in
theorem rn_X7_measurePairsFrom {G : JG} {mc ms : Nat} {Q : Int → JM → Prop} (v0 v1 v2 v3 : Int) (M : JM) (h : J G 56 mc ms Q 0 0 0 [(0, 1, v0), (1, 0, v1), (2, 0, v2), (3, 1, v3)] [] M) : Runs G 56 mc ms [(1, v0), (0, v1), (0, v2), (1, v3)] M Q := Runs.go (by decide +kernel) rfl rfl h
set_option maxRecDepth 20000 in
theorem rn_X8_init {G : JG} {mc ms : Nat} {Q : Int → JM → Prop} (v0 v1 : Int) (M : JM) (h : J G 57 mc ms Q 0 0 0 [(0, 1, v0), (1, 0, v1)] [] M) : Runs G 57 mc ms [(1, v0), (0, v1)] M Q := Runs.go (by decide +kernel) rfl rfl h
set_option maxRecDepth 20000 in
theorem rn_X8_holdOne {G : JG} {mc ms : Nat} {Q : Int → JM → Prop} (v0 v1 v2 : Int) (M : JM) (h : J G 58 mc ms Q 0 0 0 [(0, 1, v0), (1, 1, v1), (2, 0, v2)] [] M) : Runs G 58 mc ms [(1, v0), (1, v1), (0, v2)] M Q := Runs.go (by decide +kernel) rfl rfl h
set_option maxRecDepth 20000 in
theorem rn_X8_holdAll {G : JG} {mc ms : Nat} {Q : Int → JM → Prop} (v0 v1 : Int) (M : JM) (h : J G 59 mc ms Q 0 0 0 [(0, 1, v0), (1, 1, v1)] [] M) : Runs G 59 mc ms [(1, v0), (1, v1)] M Q := Runs.go (by decide +kernel) rfl rfl h
set_option maxRecDepth 20000 in
theorem rn_X8_join {G : JG} {mc ms : Nat} {Q : Int → JM → Prop} (v0 v1 v2 : Int) (M : JM) (h : J G 60 mc ms Q 0 0 0 [(0, 1, v0), (1, 1, v1), (2, 0, v2)] [] M) : Runs G 60 mc ms [(1, v0), (1, v1), (0, v2)] M Q := Runs.go (by decide +kernel) rfl rfl h
set_option maxRecDepth 20000 in
theorem rn_X8_addSign {G : JG} {mc ms : Nat} {Q : Int → JM → Prop} (v0 v1 v2 : Int) (M : JM) (h : J G 61 mc ms Q 0 0 0 [(0, 1, v0), (1, 0, v1), (2, 0, v2)] [] M) : Runs G 61 mc ms [(1, v0), (0, v1), (0, v2)] M Q := Runs.go (by decide +kernel) rfl rfl h
set_option maxRecDepth 20000 in
theorem rn_X8_arrange {G : JG} {mc ms : Nat} {Q : Int → JM → Prop} (v0 : Int) (M : JM) (h : J G 62 mc ms Q 0 0 0 [(0, 1, v0)] [] M) : Runs G 62 mc ms [(1, v0)] M Q := Runs.go (by decide +kernel) rfl rfl h
set_option maxRecDepth 20000 in
theorem rn_X8_orderBySign {G : JG} {mc ms : Nat} {Q : Int → JM → Prop} (v0 : Int) (M : JM) (h : J G 63 mc ms Q 0 0 0 [(0, 1, v0)] [] M) : Runs G 63 mc ms [(1, v0)] M Q := Runs.go (by decide +kernel) rfl rfl h
set_option maxRecDepth 20000 in
theorem rn_X8_orderSpare {G : JG} {mc ms : Nat} {Q : Int → JM → Prop} (v0 v1 v2 v3 v4 : Int) (M : JM) (h : J G 64 mc ms Q 0 0 0 [(0, 1, v0), (1, 1, v1), (2, 0, v2), (3, 0, v3), (4, 0, v4)] [] M) : Runs G 64 mc ms [(1, v0), (1, v1), (0, v2), (0, v3), (0, v4)] M Q := Runs.go (by decide +kernel) rfl rfl h
set_option maxRecDepth 20000 in
theorem rn_X8_rankBySign {G : JG} {mc ms : Nat} {Q : Int → JM → Prop} (v0 : Int) (M : JM) (h : J G 65 mc ms Q 0 0 0 [(0, 1, v0)] [] M) : Runs G 65 mc ms [(1, v0)] M Q := Runs.go (by decide +kernel) rfl rfl h
set_option maxRecDepth 20000 in
theorem rn_X8_listBySecond {G : JG} {mc ms : Nat} {Q : Int → JM → Prop} (v0 v1 : Int) (M : JM) (h : J G 66 mc ms Q 0 0 0 [(0, 1, v0), (1, 0, v1)] [] M) : Runs G 66 mc ms [(1, v0), (0, v1)] M Q := Runs.go (by decide +kernel) rfl rfl h
set_option maxRecDepth 20000 in
theorem rn_X8_rankByTwo {G : JG} {mc ms : Nat} {Q : Int → JM → Prop} (v0 v1 : Int) (M : JM) (h : J G 67 mc ms Q 0 0 0 [(0, 1, v0), (1, 0, v1)] [] M) : Runs G 67 mc ms [(1, v0), (0, v1)] M Q := Runs.go (by decide +kernel) rfl rfl h
set_option maxRecDepth 20000 in
theorem rn_X8_measureShared {G : JG} {mc ms : Nat} {Q : Int → JM → Prop} (v0 : Int) (M : JM) (h : J G 68 mc ms Q 0 0 0 [(0, 1, v0)] [] M) : Runs G 68 mc ms [(1, v0)] M Q := Runs.go (by decide +kernel) rfl rfl h
set_option maxRecDepth 20000 in
theorem rn_X8_placeOf {G : JG} {mc ms : Nat} {Q : Int → JM → Prop} (v0 v1 : Int) (M : JM) (h : J G 69 mc ms Q 0 0 0 [(0, 1, v0), (1, 0, v1)] [] M) : Runs G 69 mc ms [(1, v0), (0, v1)] M Q := Runs.go (by decide +kernel) rfl rfl h
set_option maxRecDepth 20000 in
theorem rn_X8_rankOf {G : JG} {mc ms : Nat} {Q : Int → JM → Prop} (v0 v1 : Int) (M : JM) (h : J G 70 mc ms Q 0 0 0 [(0, 1, v0), (1, 0, v1)] [] M) : Runs G 70 mc ms [(1, v0), (0, v1)] M Q := Runs.go (by decide +kernel) rfl rfl h
set_option maxRecDepth 20000 in
theorem rn_X8_sharedAt {G : JG} {mc ms : Nat} {Q : Int → JM → Prop} (v0 v1 : Int) (M : JM) (h : J G 71 mc ms Q 0 0 0 [(0, 1, v0), (1, 0, v1)] [] M) : Runs G 71 mc ms [(1, v0), (0, v1)] M Q := Runs.go (by decide +kernel) rfl rfl h
set_option maxRecDepth 20000 in
theorem rn_X8_lyndonStart {G : JG} {mc ms : Nat} {Q : Int → JM → Prop} (v0 v1 : Int) (M : JM) (h : J G 72 mc ms Q 0 0 0 [(0, 1, v0), (1, 0, v1)] [] M) : Runs G 72 mc ms [(1, v0), (0, v1)] M Q := Runs.go (by decide +kernel) rfl rfl h
set_option maxRecDepth 20000 in
theorem rn_X8_freshParts {G : JG} {mc ms : Nat} {Q : Int → JM → Prop} (v0 v1 : Int) (M : JM) (h : J G 73 mc ms Q 0 0 0 [(0, 1, v0), (1, 0, v1)] [] M) : Runs G 73 mc ms [(1, v0), (0, v1)] M Q := Runs.go (by decide +kernel) rfl rfl h
set_option maxRecDepth 20000 in
theorem rn_X8_differentParts {G : JG} {mc ms : Nat} {Q : Int → JM → Prop} (v0 : Int) (M : JM) (h : J G 74 mc ms Q 0 0 0 [(0, 1, v0)] [] M) : Runs G 74 mc ms [(1, v0)] M Q := Runs.go (by decide +kernel) rfl rfl h
set_option maxRecDepth 20000 in
theorem rn_X8_choosePart {G : JG} {mc ms : Nat} {Q : Int → JM → Prop} (v0 v1 : Int) (M : JM) (h : J G 75 mc ms Q 0 0 0 [(0, 1, v0), (1, 0, v1)] [] M) : Runs G 75 mc ms [(1, v0), (0, v1)] M Q := Runs.go (by decide +kernel) rfl rfl h
set_option maxRecDepth 20000 in
theorem rn_X8_aloneFrom {G : JG} {mc ms : Nat} {Q : Int → JM → Prop} (v0 v1 : Int) (M : JM) (h : J G 76 mc ms Q 0 0 0 [(0, 1, v0), (1, 0, v1)] [] M) : Runs G 76 mc ms [(1, v0), (0, v1)] M Q := Runs.go (by decide +kernel) rfl rfl h
set_option maxRecDepth 20000 in
theorem rn_X8_leastAlone {G : JG} {mc ms : Nat} {Q : Int → JM → Prop} (v0 : Int) (M : JM) (h : J G 77 mc ms Q 0 0 0 [(0, 1, v0)] [] M) : Runs G 77 mc ms [(1, v0)] M Q := Runs.go (by decide +kernel) rfl rfl h
set_option maxRecDepth 20000 in
theorem rn_X8_longestIn {G : JG} {mc ms : Nat} {Q : Int → JM → Prop} (v0 v1 : Int) (M : JM) (h : J G 78 mc ms Q 0 0 0 [(0, 1, v0), (1, 0, v1)] [] M) : Runs G 78 mc ms [(1, v0), (0, v1)] M Q := Runs.go (by decide +kernel) rfl rfl h
set_option maxRecDepth 20000 in
theorem rn_X8_stretchOf {G : JG} {mc ms : Nat} {Q : Int → JM → Prop} (v0 v1 v2 : Int) (M : JM) (h : J G 79 mc ms Q 0 0 0 [(0, 1, v0), (1, 0, v1), (2, 0, v2)] [] M) : Runs G 79 mc ms [(1, v0), (0, v1), (0, v2)] M Q := Runs.go (by decide +kernel) rfl rfl h
set_option maxRecDepth 20000 in
theorem rn_X8_firstOf {G : JG} {mc ms : Nat} {Q : Int → JM → Prop} (v0 v1 v2 : Int) (M : JM) (h : J G 80 mc ms Q 0 0 0 [(0, 1, v0), (1, 0, v1), (2, 0, v2)] [] M) : Runs G 80 mc ms [(1, v0), (0, v1), (0, v2)] M Q := Runs.go (by decide +kernel) rfl rfl h
set_option maxRecDepth 20000 in
theorem rn_X8_ownerOf {G : JG} {mc ms : Nat} {Q : Int → JM → Prop} (v0 v1 : Int) (M : JM) (h : J G 81 mc ms Q 0 0 0 [(0, 1, v0), (1, 0, v1)] [] M) : Runs G 81 mc ms [(1, v0), (0, v1)] M Q := Runs.go (by decide +kernel) rfl rfl h
set_option maxRecDepth 20000 in
theorem rn_X8_placeInOwner {G : JG} {mc ms : Nat} {Q : Int → JM → Prop} (v0 v1 : Int) (M : JM) (h : J G 82 mc ms Q 0 0 0 [(0, 1, v0), (1, 0, v1)] [] M) : Runs G 82 mc ms [(1, v0), (0, v1)] M Q := Runs.go (by decide +kernel) rfl rfl h
set_option maxRecDepth 20000 in
theorem rn_X9_init {G : JG} {mc ms : Nat} {Q : Int → JM → Prop} (v0 v1 : Int) (M : JM) (h : J G 83 mc ms Q 0 0 0 [(0, 1, v0), (1, 0, v1)] [] M) : Runs G 83 mc ms [(1, v0), (0, v1)] M Q := Runs.go (by decide +kernel) rfl rfl h
set_option maxRecDepth 20000 in
theorem rn_X9_hasPlace {G : JG} {mc ms : Nat} {Q : Int → JM → Prop} (v0 v1 : Int) (M : JM) (h : J G 84 mc ms Q 0 0 0 [(0, 1, v0), (1, 0, v1)] [] M) : Runs G 84 mc ms [(1, v0), (0, v1)] M Q := Runs.go (by decide +kernel) rfl rfl h
set_option maxRecDepth 20000 in
theorem rn_X9_hasPart {G : JG} {mc ms : Nat} {Q : Int → JM → Prop} (v0 v1 v2 : Int) (M : JM) (h : J G 85 mc ms Q 0 0 0 [(0, 1, v0), (1, 0, v1), (2, 0, v2)] [] M) : Runs G 85 mc ms [(1, v0), (0, v1), (0, v2)] M Q := Runs.go (by decide +kernel) rfl rfl h
set_option maxRecDepth 20000 in
theorem rn_X9_hasSome {G : JG} {mc ms : Nat} {Q : Int → JM → Prop} (v0 v1 v2 : Int) (M : JM) (h : J G 86 mc ms Q 0 0 0 [(0, 1, v0), (1, 0, v1), (2, 0, v2)] [] M) : Runs G 86 mc ms [(1, v0), (0, v1), (0, v2)] M Q := Runs.go (by decide +kernel) rfl rfl h
set_option maxRecDepth 20000 in
theorem rn_X9_room {G : JG} {mc ms : Nat} {Q : Int → JM → Prop} (v0 : Int) (M : JM) (h : J G 87 mc ms Q 0 0 0 [(0, 1, v0)] [] M) : Runs G 87 mc ms [(1, v0)] M Q := Runs.go (by decide +kernel) rfl rfl h
set_option maxRecDepth 20000 in
theorem rn_X9_put {G : JG} {mc ms : Nat} {Q : Int → JM → Prop} (v0 v1 : Int) (M : JM) (h : J G 88 mc ms Q 0 0 0 [(0, 1, v0), (1, 0, v1)] [] M) : Runs G 88 mc ms [(1, v0), (0, v1)] M Q := Runs.go (by decide +kernel) rfl rfl h
set_option maxRecDepth 20000 in
theorem rn_X9_putPoint {G : JG} {mc ms : Nat} {Q : Int → JM → Prop} (v0 v1 : Int) (M : JM) (h : J G 89 mc ms Q 0 0 0 [(0, 1, v0), (1, 0, v1)] [] M) : Runs G 89 mc ms [(1, v0), (0, v1)] M Q := Runs.go (by decide +kernel) rfl rfl h
set_option maxRecDepth 20000 in
theorem rn_X9_putPart {G : JG} {mc ms : Nat} {Q : Int → JM → Prop} (v0 v1 v2 v3 : Int) (M : JM) (h : J G 90 mc ms Q 0 0 0 [(0, 1, v0), (1, 1, v1), (2, 0, v2), (3, 0, v3)] [] M) : Runs G 90 mc ms [(1, v0), (1, v1), (0, v2), (0, v3)] M Q := Runs.go (by decide +kernel) rfl rfl h
set_option maxRecDepth 20000 in
theorem rn_X9_putAhead {G : JG} {mc ms : Nat} {Q : Int → JM → Prop} (v0 v1 v2 : Int) (M : JM) (h : J G 91 mc ms Q 0 0 0 [(0, 1, v0), (1, 0, v1), (2, 0, v2)] [] M) : Runs G 91 mc ms [(1, v0), (0, v1), (0, v2)] M Q := Runs.go (by decide +kernel) rfl rfl h
set_option maxRecDepth 20000 in
theorem rn_X9_drop {G : JG} {mc ms : Nat} {Q : Int → JM → Prop} (v0 v1 v2 : Int) (M : JM) (h : J G 92 mc ms Q 0 0 0 [(0, 1, v0), (1, 0, v1), (2, 0, v2)] [] M) : Runs G 92 mc ms [(1, v0), (0, v1), (0, v2)] M Q := Runs.go (by decide +kernel) rfl rfl h
set_option maxRecDepth 20000 in
theorem rn_X9_become {G : JG} {mc ms : Nat} {Q : Int → JM → Prop} (v0 v1 : Int) (M : JM) (h : J G 93 mc ms Q 0 0 0 [(0, 1, v0), (1, 1, v1)] [] M) : Runs G 93 mc ms [(1, v0), (1, v1)] M Q := Runs.go (by decide +kernel) rfl rfl h
set_option maxRecDepth 20000 in
theorem rn_X9_isPair {G : JG} {mc ms : Nat} {Q : Int → JM → Prop} (v0 v1 : Int) (M : JM) (h : J G 94 mc ms Q 0 0 0 [(0, 1, v0), (1, 0, v1)] [] M) : Runs G 94 mc ms [(1, v0), (0, v1)] M Q := Runs.go (by decide +kernel) rfl rfl h
set_option maxRecDepth 20000 in
theorem rn_X9_pointFrom {G : JG} {mc ms : Nat} {Q : Int → JM → Prop} (v0 v1 : Int) (M : JM) (h : J G 95 mc ms Q 0 0 0 [(0, 1, v0), (1, 0, v1)] [] M) : Runs G 95 mc ms [(1, v0), (0, v1)] M Q := Runs.go (by decide +kernel) rfl rfl h
set_option maxRecDepth 20000 in
theorem rn_X9_isHalf {G : JG} {mc ms : Nat} {Q : Int → JM → Prop} (v0 v1 : Int) (M : JM) (h : J G 96 mc ms Q 0 0 0 [(0, 1, v0), (1, 0, v1)] [] M) : Runs G 96 mc ms [(1, v0), (0, v1)] M Q := Runs.go (by decide +kernel) rfl rfl h
set_option maxRecDepth 20000 in
theorem rn_X9_against {G : JG} {mc ms : Nat} {Q : Int → JM → Prop} (v0 v1 : Int) (M : JM) (h : J G 97 mc ms Q 0 0 0 [(0, 1, v0), (1, 1, v1)] [] M) : Runs G 97 mc ms [(1, v0), (1, v1)] M Q := Runs.go (by decide +kernel) rfl rfl h
set_option maxRecDepth 20000 in
theorem rn_X9_againstByPoints {G : JG} {mc ms : Nat} {Q : Int → JM → Prop} (v0 v1 : Int) (M : JM) (h : J G 98 mc ms Q 0 0 0 [(0, 1, v0), (1, 1, v1)] [] M) : Runs G 98 mc ms [(1, v0), (1, v1)] M Q := Runs.go (by decide +kernel) rfl rfl h
set_option maxRecDepth 20000 in
theorem rn_X9_bySize {G : JG} {mc ms : Nat} {Q : Int → JM → Prop} (v0 v1 : Int) (M : JM) (h : J G 99 mc ms Q 0 0 0 [(0, 1, v0), (1, 1, v1)] [] M) : Runs G 99 mc ms [(1, v0), (1, v1)] M Q := Runs.go (by decide +kernel) rfl rfl h
set_option maxRecDepth 20000 in
theorem rn_X10_init {G : JG} {mc ms : Nat} {Q : Int → JM → Prop} (v0 v1 v2 : Int) (M : JM) (h : J G 100 mc ms Q 0 0 0 [(0, 1, v0), (1, 0, v1), (2, 0, v2)] [] M) : Runs G 100 mc ms [(1, v0), (0, v1), (0, v2)] M Q := Runs.go (by decide +kernel) rfl rfl h
set_option maxRecDepth 20000 in
theorem rn_X10_clear {G : JG} {mc ms : Nat} {Q : Int → JM → Prop} (v0 : Int) (M : JM) (h : J G 101 mc ms Q 0 0 0 [(0, 1, v0)] [] M) : Runs G 101 mc ms [(1, v0)] M Q := Runs.go (by decide +kernel) rfl rfl h
set_option maxRecDepth 20000 in
theorem rn_X10_answer {G : JG} {mc ms : Nat} {Q : Int → JM → Prop} (v0 v1 v2 : Int) (M : JM) (h : J G 102 mc ms Q 0 0 0 [(0, 1, v0), (1, 0, v1), (2, 0, v2)] [] M) : Runs G 102 mc ms [(1, v0), (0, v1), (0, v2)] M Q := Runs.go (by decide +kernel) rfl rfl h
set_option maxRecDepth 20000 in
theorem rn_X10_add {G : JG} {mc ms : Nat} {Q : Int → JM → Prop} (v0 v1 v2 v3 : Int) (M : JM) (h : J G 103 mc ms Q 0 0 0 [(0, 1, v0), (1, 0, v1), (2, 0, v2), (3, 0, v3)] [] M) : Runs G 103 mc ms [(1, v0), (0, v1), (0, v2), (0, v3)] M Q := Runs.go (by decide +kernel) rfl rfl h
set_option maxRecDepth 20000 in
theorem rn_X10_addByFirst {G : JG} {mc ms : Nat} {Q : Int → JM → Prop} (v0 v1 v2 v3 : Int) (M : JM) (h : J G 104 mc ms Q 0 0 0 [(0, 1, v0), (1, 0, v1), (2, 0, v2), (3, 0, v3)] [] M) : Runs G 104 mc ms [(1, v0), (0, v1), (0, v2), (0, v3)] M Q := Runs.go (by decide +kernel) rfl rfl h
set_option maxRecDepth 20000 in
theorem rn_X10_write {G : JG} {mc ms : Nat} {Q : Int → JM → Prop} (v0 v1 v2 v3 v4 : Int) (M : JM) (h : J G 105 mc ms Q 0 0 0 [(0, 1, v0), (1, 0, v1), (2, 0, v2), (3, 0, v3), (4, 0, v4)] [] M) : Runs G 105 mc ms [(1, v0), (0, v1), (0, v2), (0, v3), (0, v4)] M Q := Runs.go (by decide +kernel) rfl rfl h
set_option maxRecDepth 20000 in
theorem rn_X10_rowOf {G : JG} {mc ms : Nat} {Q : Int → JM → Prop} (v0 v1 v2 : Int) (M : JM) (h : J G 106 mc ms Q 0 0 0 [(0, 1, v0), (1, 0, v1), (2, 0, v2)] [] M) : Runs G 106 mc ms [(1, v0), (0, v1), (0, v2)] M Q := Runs.go (by decide +kernel) rfl rfl h
set_option maxRecDepth 20000 in
theorem rn_X11_init {G : JG} {mc ms : Nat} {Q : Int → JM → Prop} (v0 : Int) (M : JM) (h : J G 107 mc ms Q 0 0 0 [(0, 1, v0)] [] M) : Runs G 107 mc ms [(1, v0)] M Q := Runs.go (by decide +kernel) rfl rfl h
set_option maxRecDepth 20000 in
theorem rn_X11_text {G : JG} {mc ms : Nat} {Q : Int → JM → Prop} (v0 : Int) (M : JM) (h : J G 108 mc ms Q 0 0 0 [(0, 1, v0)] [] M) : Runs G 108 mc ms [(1, v0)] M Q := Runs.go (by decide +kernel) rfl rfl h
set_option maxRecDepth 20000 in
theorem rn_X11_units {G : JG} {mc ms : Nat} {Q : Int → JM → Prop} (v0 v1 v2 v3 : Int) (M : JM) (h : J G 109 mc ms Q 0 0 0 [(0, 1, v0), (1, 0, v1), (2, 0, v2), (3, 2, v3)] [] M) : Runs G 109 mc ms [(1, v0), (0, v1), (0, v2), (2, v3)] M Q := Runs.go (by decide +kernel) rfl rfl h
set_option maxRecDepth 20000 in
theorem rn_X11_point {G : JG} {mc ms : Nat} {Q : Int → JM → Prop} (v0 v1 v2 : Int) (M : JM) (h : J G 110 mc ms Q 0 0 0 [(0, 1, v0), (1, 0, v1), (2, 0, v2)] [] M) : Runs G 110 mc ms [(1, v0), (0, v1), (0, v2)] M Q := Runs.go (by decide +kernel) rfl rfl h
set_option maxRecDepth 20000 in
theorem rn_X11_copy {G : JG} {mc ms : Nat} {Q : Int → JM → Prop} (v0 v1 v2 v3 : Int) (M : JM) (h : J G 111 mc ms Q 0 0 0 [(0, 1, v0), (1, 0, v1), (2, 0, v2), (3, 0, v3)] [] M) : Runs G 111 mc ms [(1, v0), (0, v1), (0, v2), (0, v3)] M Q := Runs.go (by decide +kernel) rfl rfl h
set_option maxRecDepth 20000 in
theorem rn_X11_append {G : JG} {mc ms : Nat} {Q : Int → JM → Prop} (v0 v1 v2 v3 v4 : Int) (M : JM) (h : J G 112 mc ms Q 0 0 0 [(0, 1, v0), (1, 0, v1), (2, 0, v2), (3, 0, v3), (4, 0, v4)] [] M) : Runs G 112 mc ms [(1, v0), (0, v1), (0, v2), (0, v3), (0, v4)] M Q := Runs.go (by decide +kernel) rfl rfl h
set_option maxRecDepth 20000 in
theorem rn_X11_reversed {G : JG} {mc ms : Nat} {Q : Int → JM → Prop} (v0 v1 : Int) (M : JM) (h : J G 113 mc ms Q 0 0 0 [(0, 1, v0), (1, 0, v1)] [] M) : Runs G 113 mc ms [(1, v0), (0, v1)] M Q := Runs.go (by decide +kernel) rfl rfl h
set_option maxRecDepth 20000 in
theorem rn_X11_insert {G : JG} {mc ms : Nat} {Q : Int → JM → Prop} (v0 v1 v2 v3 : Int) (M : JM) (h : J G 114 mc ms Q 0 0 0 [(0, 1, v0), (1, 0, v1), (2, 0, v2), (3, 0, v3)] [] M) : Runs G 114 mc ms [(1, v0), (0, v1), (0, v2), (0, v3)] M Q := Runs.go (by decide +kernel) rfl rfl h
set_option maxRecDepth 20000 in
theorem rn_X11_remove {G : JG} {mc ms : Nat} {Q : Int → JM → Prop} (v0 v1 v2 v3 : Int) (M : JM) (h : J G 115 mc ms Q 0 0 0 [(0, 1, v0), (1, 0, v1), (2, 0, v2), (3, 0, v3)] [] M) : Runs G 115 mc ms [(1, v0), (0, v1), (0, v2), (0, v3)] M Q := Runs.go (by decide +kernel) rfl rfl h
set_option maxRecDepth 20000 in
theorem rn_X11_undo {G : JG} {mc ms : Nat} {Q : Int → JM → Prop} (v0 : Int) (M : JM) (h : J G 116 mc ms Q 0 0 0 [(0, 1, v0)] [] M) : Runs G 116 mc ms [(1, v0)] M Q := Runs.go (by decide +kernel) rfl rfl h
set_option maxRecDepth 20000 in
theorem rn_X11_at {G : JG} {mc ms : Nat} {Q : Int → JM → Prop} (v0 v1 v2 : Int) (M : JM) (h : J G 117 mc ms Q 0 0 0 [(0, 1, v0), (1, 0, v1), (2, 0, v2)] [] M) : Runs G 117 mc ms [(1, v0), (0, v1), (0, v2)] M Q := Runs.go (by decide +kernel) rfl rfl h
set_option maxRecDepth 20000 in
theorem rn_X11_length {G : JG} {mc ms : Nat} {Q : Int → JM → Prop} (v0 v1 : Int) (M : JM) (h : J G 118 mc ms Q 0 0 0 [(0, 1, v0), (1, 0, v1)] [] M) : Runs G 118 mc ms [(1, v0), (0, v1)] M Q := Runs.go (by decide +kernel) rfl rfl h
set_option maxRecDepth 20000 in
theorem rn_X11_points {G : JG} {mc ms : Nat} {Q : Int → JM → Prop} (v0 v1 : Int) (M : JM) (h : J G 119 mc ms Q 0 0 0 [(0, 1, v0), (1, 0, v1)] [] M) : Runs G 119 mc ms [(1, v0), (0, v1)] M Q := Runs.go (by decide +kernel) rfl rfl h
set_option maxRecDepth 20000 in
theorem rn_X11_pointAt {G : JG} {mc ms : Nat} {Q : Int → JM → Prop} (v0 v1 v2 : Int) (M : JM) (h : J G 120 mc ms Q 0 0 0 [(0, 1, v0), (1, 0, v1), (2, 0, v2)] [] M) : Runs G 120 mc ms [(1, v0), (0, v1), (0, v2)] M Q := Runs.go (by decide +kernel) rfl rfl h
set_option maxRecDepth 20000 in
theorem rn_X11_half {G : JG} {mc ms : Nat} {Q : Int → JM → Prop} (v0 v1 v2 : Int) (M : JM) (h : J G 121 mc ms Q 0 0 0 [(0, 1, v0), (1, 0, v1), (2, 0, v2)] [] M) : Runs G 121 mc ms [(1, v0), (0, v1), (0, v2)] M Q := Runs.go (by decide +kernel) rfl rfl h
set_option maxRecDepth 20000 in
theorem rn_X11_order {G : JG} {mc ms : Nat} {Q : Int → JM → Prop} (v0 v1 v2 v3 : Int) (M : JM) (h : J G 122 mc ms Q 0 0 0 [(0, 1, v0), (1, 0, v1), (2, 0, v2), (3, 0, v3)] [] M) : Runs G 122 mc ms [(1, v0), (0, v1), (0, v2), (0, v3)] M Q := Runs.go (by decide +kernel) rfl rfl h
set_option maxRecDepth 20000 in
theorem rn_X11_equalParts {G : JG} {mc ms : Nat} {Q : Int → JM → Prop} (v0 v1 v2 v3 v4 v5 : Int) (M : JM) (h : J G 123 mc ms Q 0 0 0 [(0, 1, v0), (1, 0, v1), (2, 0, v2), (3, 0, v3), (4, 0, v4), (5, 0, v5)] [] M) : Runs G 123 mc ms [(1, v0), (0, v1), (0, v2), (0, v3), (0, v4), (0, v5)] M Q := Runs.go (by decide +kernel) rfl rfl h
set_option maxRecDepth 20000 in
theorem rn_X11_suffix {G : JG} {mc ms : Nat} {Q : Int → JM → Prop} (v0 v1 v2 : Int) (M : JM) (h : J G 124 mc ms Q 0 0 0 [(0, 1, v0), (1, 0, v1), (2, 0, v2)] [] M) : Runs G 124 mc ms [(1, v0), (0, v1), (0, v2)] M Q := Runs.go (by decide +kernel) rfl rfl h
set_option maxRecDepth 20000 in
theorem rn_X11_rank {G : JG} {mc ms : Nat} {Q : Int → JM → Prop} (v0 v1 v2 : Int) (M : JM) (h : J G 125 mc ms Q 0 0 0 [(0, 1, v0), (1, 0, v1), (2, 0, v2)] [] M) : Runs G 125 mc ms [(1, v0), (0, v1), (0, v2)] M Q := Runs.go (by decide +kernel) rfl rfl h
set_option maxRecDepth 20000 in
theorem rn_X11_common {G : JG} {mc ms : Nat} {Q : Int → JM → Prop} (v0 v1 v2 v3 : Int) (M : JM) (h : J G 126 mc ms Q 0 0 0 [(0, 1, v0), (1, 0, v1), (2, 0, v2), (3, 0, v3)] [] M) : Runs G 126 mc ms [(1, v0), (0, v1), (0, v2), (0, v3)] M Q := Runs.go (by decide +kernel) rfl rfl h
set_option maxRecDepth 20000 in
theorem rn_X11_border {G : JG} {mc ms : Nat} {Q : Int → JM → Prop} (v0 v1 v2 : Int) (M : JM) (h : J G 127 mc ms Q 0 0 0 [(0, 1, v0), (1, 0, v1), (2, 0, v2)] [] M) : Runs G 127 mc ms [(1, v0), (0, v1), (0, v2)] M Q := Runs.go (by decide +kernel) rfl rfl h
set_option maxRecDepth 20000 in
theorem rn_X11_find {G : JG} {mc ms : Nat} {Q : Int → JM → Prop} (v0 v1 v2 v3 : Int) (M : JM) (h : J G 128 mc ms Q 0 0 0 [(0, 1, v0), (1, 0, v1), (2, 0, v2), (3, 0, v3)] [] M) : Runs G 128 mc ms [(1, v0), (0, v1), (0, v2), (0, v3)] M Q := Runs.go (by decide +kernel) rfl rfl h
set_option maxRecDepth 20000 in
theorem rn_X11_countOf {G : JG} {mc ms : Nat} {Q : Int → JM → Prop} (v0 v1 v2 : Int) (M : JM) (h : J G 129 mc ms Q 0 0 0 [(0, 1, v0), (1, 0, v1), (2, 0, v2)] [] M) : Runs G 129 mc ms [(1, v0), (0, v1), (0, v2)] M Q := Runs.go (by decide +kernel) rfl rfl h
set_option maxRecDepth 20000 in
theorem rn_X11_wild {G : JG} {mc ms : Nat} {Q : Int → JM → Prop} (v0 v1 v2 v3 v4 : Int) (M : JM) (h : J G 130 mc ms Q 0 0 0 [(0, 1, v0), (1, 0, v1), (2, 0, v2), (3, 0, v3), (4, 0, v4)] [] M) : Runs G 130 mc ms [(1, v0), (0, v1), (0, v2), (0, v3), (0, v4)] M Q := Runs.go (by decide +kernel) rfl rfl h
set_option maxRecDepth 20000 in
theorem rn_X11_near {G : JG} {mc ms : Nat} {Q : Int → JM → Prop} (v0 v1 v2 v3 v4 : Int) (M : JM) (h : J G 131 mc ms Q 0 0 0 [(0, 1, v0), (1, 0, v1), (2, 0, v2), (3, 0, v3), (4, 0, v4)] [] M) : Runs G 131 mc ms [(1, v0), (0, v1), (0, v2), (0, v3), (0, v4)] M Q := Runs.go (by decide +kernel) rfl rfl h
set_option maxRecDepth 20000 in
theorem rn_X11_pattern {G : JG} {mc ms : Nat} {Q : Int → JM → Prop} (v0 v1 : Int) (M : JM) (h : J G 132 mc ms Q 0 0 0 [(0, 1, v0), (1, 0, v1)] [] M) : Runs G 132 mc ms [(1, v0), (0, v1)] M Q := Runs.go (by decide +kernel) rfl rfl h
set_option maxRecDepth 20000 in
theorem rn_X11_matches {G : JG} {mc ms : Nat} {Q : Int → JM → Prop} (v0 v1 : Int) (M : JM) (h : J G 133 mc ms Q 0 0 0 [(0, 1, v0), (1, 0, v1)] [] M) : Runs G 133 mc ms [(1, v0), (0, v1)] M Q := Runs.go (by decide +kernel) rfl rfl h
set_option maxRecDepth 20000 in
theorem rn_X11_match {G : JG} {mc ms : Nat} {Q : Int → JM → Prop} (v0 v1 v2 : Int) (M : JM) (h : J G 134 mc ms Q 0 0 0 [(0, 1, v0), (1, 0, v1), (2, 0, v2)] [] M) : Runs G 134 mc ms [(1, v0), (0, v1), (0, v2)] M Q := Runs.go (by decide +kernel) rfl rfl h
set_option maxRecDepth 20000 in
theorem rn_X11_longestCommon {G : JG} {mc ms : Nat} {Q : Int → JM → Prop} (v0 v1 v2 v3 : Int) (M : JM) (h : J G 135 mc ms Q 0 0 0 [(0, 1, v0), (1, 0, v1), (2, 0, v2), (3, 0, v3)] [] M) : Runs G 135 mc ms [(1, v0), (0, v1), (0, v2), (0, v3)] M Q := Runs.go (by decide +kernel) rfl rfl h
set_option maxRecDepth 20000 in
theorem rn_X11_ofMany {G : JG} {mc ms : Nat} {Q : Int → JM → Prop} (v0 v1 v2 : Int) (M : JM) (h : J G 136 mc ms Q 0 0 0 [(0, 1, v0), (1, 0, v1), (2, 0, v2)] [] M) : Runs G 136 mc ms [(1, v0), (0, v1), (0, v2)] M Q := Runs.go (by decide +kernel) rfl rfl h
set_option maxRecDepth 20000 in
theorem rn_X11_period {G : JG} {mc ms : Nat} {Q : Int → JM → Prop} (v0 v1 v2 v3 : Int) (M : JM) (h : J G 137 mc ms Q 0 0 0 [(0, 1, v0), (1, 0, v1), (2, 0, v2), (3, 0, v3)] [] M) : Runs G 137 mc ms [(1, v0), (0, v1), (0, v2), (0, v3)] M Q := Runs.go (by decide +kernel) rfl rfl h
set_option maxRecDepth 20000 in
theorem rn_X11_root {G : JG} {mc ms : Nat} {Q : Int → JM → Prop} (v0 v1 : Int) (M : JM) (h : J G 138 mc ms Q 0 0 0 [(0, 1, v0), (1, 0, v1)] [] M) : Runs G 138 mc ms [(1, v0), (0, v1)] M Q := Runs.go (by decide +kernel) rfl rfl h
set_option maxRecDepth 20000 in
theorem rn_X11_squares {G : JG} {mc ms : Nat} {Q : Int → JM → Prop} (v0 v1 : Int) (M : JM) (h : J G 139 mc ms Q 0 0 0 [(0, 1, v0), (1, 0, v1)] [] M) : Runs G 139 mc ms [(1, v0), (0, v1)] M Q := Runs.go (by decide +kernel) rfl rfl h
set_option maxRecDepth 20000 in
theorem rn_X11_runs {G : JG} {mc ms : Nat} {Q : Int → JM → Prop} (v0 v1 : Int) (M : JM) (h : J G 140 mc ms Q 0 0 0 [(0, 1, v0), (1, 0, v1)] [] M) : Runs G 140 mc ms [(1, v0), (0, v1)] M Q := Runs.go (by decide +kernel) rfl rfl h
set_option maxRecDepth 20000 in
theorem rn_X11_run {G : JG} {mc ms : Nat} {Q : Int → JM → Prop} (v0 v1 v2 : Int) (M : JM) (h : J G 141 mc ms Q 0 0 0 [(0, 1, v0), (1, 0, v1), (2, 0, v2)] [] M) : Runs G 141 mc ms [(1, v0), (0, v1), (0, v2)] M Q := Runs.go (by decide +kernel) rfl rfl h
set_option maxRecDepth 20000 in
theorem rn_X11_palindrome {G : JG} {mc ms : Nat} {Q : Int → JM → Prop} (v0 v1 v2 : Int) (M : JM) (h : J G 142 mc ms Q 0 0 0 [(0, 1, v0), (1, 0, v1), (2, 0, v2)] [] M) : Runs G 142 mc ms [(1, v0), (0, v1), (0, v2)] M Q := Runs.go (by decide +kernel) rfl rfl h
set_option maxRecDepth 20000 in
theorem rn_X11_palindromes {G : JG} {mc ms : Nat} {Q : Int → JM → Prop} (v0 v1 : Int) (M : JM) (h : J G 143 mc ms Q 0 0 0 [(0, 1, v0), (1, 0, v1)] [] M) : Runs G 143 mc ms [(1, v0), (0, v1)] M Q := Runs.go (by decide +kernel) rfl rfl h
set_option maxRecDepth 20000 in
theorem rn_X11_leastRotation {G : JG} {mc ms : Nat} {Q : Int → JM → Prop} (v0 v1 : Int) (M : JM) (h : J G 144 mc ms Q 0 0 0 [(0, 1, v0), (1, 0, v1)] [] M) : Runs G 144 mc ms [(1, v0), (0, v1)] M Q := Runs.go (by decide +kernel) rfl rfl h
set_option maxRecDepth 20000 in
theorem rn_X11_lyndon {G : JG} {mc ms : Nat} {Q : Int → JM → Prop} (v0 v1 v2 : Int) (M : JM) (h : J G 145 mc ms Q 0 0 0 [(0, 1, v0), (1, 0, v1), (2, 0, v2)] [] M) : Runs G 145 mc ms [(1, v0), (0, v1), (0, v2)] M Q := Runs.go (by decide +kernel) rfl rfl h
set_option maxRecDepth 20000 in
theorem rn_X11_parts {G : JG} {mc ms : Nat} {Q : Int → JM → Prop} (v0 v1 : Int) (M : JM) (h : J G 146 mc ms Q 0 0 0 [(0, 1, v0), (1, 0, v1)] [] M) : Runs G 146 mc ms [(1, v0), (0, v1)] M Q := Runs.go (by decide +kernel) rfl rfl h
set_option maxRecDepth 20000 in
theorem rn_X11_nthPart {G : JG} {mc ms : Nat} {Q : Int → JM → Prop} (v0 v1 v2 : Int) (M : JM) (h : J G 147 mc ms Q 0 0 0 [(0, 1, v0), (1, 0, v1), (2, 0, v2)] [] M) : Runs G 147 mc ms [(1, v0), (0, v1), (0, v2)] M Q := Runs.go (by decide +kernel) rfl rfl h
set_option maxRecDepth 20000 in
theorem rn_X11_unique {G : JG} {mc ms : Nat} {Q : Int → JM → Prop} (v0 v1 v2 : Int) (M : JM) (h : J G 148 mc ms Q 0 0 0 [(0, 1, v0), (1, 0, v1), (2, 0, v2)] [] M) : Runs G 148 mc ms [(1, v0), (0, v1), (0, v2)] M Q := Runs.go (by decide +kernel) rfl rfl h
set_option maxRecDepth 20000 in
theorem rn_X11_leastUnique {G : JG} {mc ms : Nat} {Q : Int → JM → Prop} (v0 v1 : Int) (M : JM) (h : J G 149 mc ms Q 0 0 0 [(0, 1, v0), (1, 0, v1)] [] M) : Runs G 149 mc ms [(1, v0), (0, v1)] M Q := Runs.go (by decide +kernel) rfl rfl h
set_option maxRecDepth 20000 in
theorem rn_X11_absent {G : JG} {mc ms : Nat} {Q : Int → JM → Prop} (v0 v1 : Int) (M : JM) (h : J G 150 mc ms Q 0 0 0 [(0, 1, v0), (1, 0, v1)] [] M) : Runs G 150 mc ms [(1, v0), (0, v1)] M Q := Runs.go (by decide +kernel) rfl rfl h
set_option maxRecDepth 20000 in
theorem rn_X11_cover {G : JG} {mc ms : Nat} {Q : Int → JM → Prop} (v0 v1 : Int) (M : JM) (h : J G 151 mc ms Q 0 0 0 [(0, 1, v0), (1, 0, v1)] [] M) : Runs G 151 mc ms [(1, v0), (0, v1)] M Q := Runs.go (by decide +kernel) rfl rfl h
set_option maxRecDepth 20000 in
theorem rn_X11_word {G : JG} {mc ms : Nat} {Q : Int → JM → Prop} (v0 v1 : Int) (M : JM) (h : J G 152 mc ms Q 0 0 0 [(0, 1, v0), (1, 0, v1)] [] M) : Runs G 152 mc ms [(1, v0), (0, v1)] M Q := Runs.go (by decide +kernel) rfl rfl h
set_option maxRecDepth 20000 in
theorem rn_X11_distance {G : JG} {mc ms : Nat} {Q : Int → JM → Prop} (v0 v1 v2 : Int) (M : JM) (h : J G 153 mc ms Q 0 0 0 [(0, 1, v0), (1, 0, v1), (2, 0, v2)] [] M) : Runs G 153 mc ms [(1, v0), (0, v1), (0, v2)] M Q := Runs.go (by decide +kernel) rfl rfl h
set_option maxRecDepth 20000 in
theorem rn_X11_script {G : JG} {mc ms : Nat} {Q : Int → JM → Prop} (v0 v1 v2 : Int) (M : JM) (h : J G 154 mc ms Q 0 0 0 [(0, 1, v0), (1, 0, v1), (2, 0, v2)] [] M) : Runs G 154 mc ms [(1, v0), (0, v1), (0, v2)] M Q := Runs.go (by decide +kernel) rfl rfl h
set_option maxRecDepth 20000 in
theorem rn_X11_subsequence {G : JG} {mc ms : Nat} {Q : Int → JM → Prop} (v0 v1 v2 : Int) (M : JM) (h : J G 155 mc ms Q 0 0 0 [(0, 1, v0), (1, 0, v1), (2, 0, v2)] [] M) : Runs G 155 mc ms [(1, v0), (0, v1), (0, v2)] M Q := Runs.go (by decide +kernel) rfl rfl h
set_option maxRecDepth 20000 in
theorem rn_X11_pair {G : JG} {mc ms : Nat} {Q : Int → JM → Prop} (v0 v1 v2 : Int) (M : JM) (h : J G 156 mc ms Q 0 0 0 [(0, 1, v0), (1, 0, v1), (2, 0, v2)] [] M) : Runs G 156 mc ms [(1, v0), (0, v1), (0, v2)] M Q := Runs.go (by decide +kernel) rfl rfl h
set_option maxRecDepth 20000 in
theorem rn_X11_squeeze {G : JG} {mc ms : Nat} {Q : Int → JM → Prop} (v0 v1 v2 : Int) (M : JM) (h : J G 157 mc ms Q 0 0 0 [(0, 1, v0), (1, 0, v1), (2, 0, v2)] [] M) : Runs G 157 mc ms [(1, v0), (0, v1), (0, v2)] M Q := Runs.go (by decide +kernel) rfl rfl h
set_option maxRecDepth 20000 in
theorem rn_X11_squeezed {G : JG} {mc ms : Nat} {Q : Int → JM → Prop} (v0 v1 v2 : Int) (M : JM) (h : J G 158 mc ms Q 0 0 0 [(0, 1, v0), (1, 0, v1), (2, 0, v2)] [] M) : Runs G 158 mc ms [(1, v0), (0, v1), (0, v2)] M Q := Runs.go (by decide +kernel) rfl rfl h
set_option maxRecDepth 20000 in
theorem rn_X11_expand {G : JG} {mc ms : Nat} {Q : Int → JM → Prop} (v0 : Int) (M : JM) (h : J G 159 mc ms Q 0 0 0 [(0, 1, v0)] [] M) : Runs G 159 mc ms [(1, v0)] M Q := Runs.go (by decide +kernel) rfl rfl h
set_option maxRecDepth 20000 in
theorem rn_X11_sort {G : JG} {mc ms : Nat} {Q : Int → JM → Prop} (v0 v1 : Int) (M : JM) (h : J G 160 mc ms Q 0 0 0 [(0, 1, v0), (1, 0, v1)] [] M) : Runs G 160 mc ms [(1, v0), (0, v1)] M Q := Runs.go (by decide +kernel) rfl rfl h
set_option maxRecDepth 20000 in
theorem rn_X11_sorted {G : JG} {mc ms : Nat} {Q : Int → JM → Prop} (v0 v1 : Int) (M : JM) (h : J G 161 mc ms Q 0 0 0 [(0, 1, v0), (1, 0, v1)] [] M) : Runs G 161 mc ms [(1, v0), (0, v1)] M Q := Runs.go (by decide +kernel) rfl rfl h
set_option maxRecDepth 20000 in
theorem rn_X11_unsort {G : JG} {mc ms : Nat} {Q : Int → JM → Prop} (v0 : Int) (M : JM) (h : J G 162 mc ms Q 0 0 0 [(0, 1, v0)] [] M) : Runs G 162 mc ms [(1, v0)] M Q := Runs.go (by decide +kernel) rfl rfl h
set_option maxRecDepth 20000 in
theorem rn_X11_count {G : JG} {mc ms : Nat} {Q : Int → JM → Prop} (v0 v1 : Int) (M : JM) (h : J G 163 mc ms Q 0 0 0 [(0, 1, v0), (1, 0, v1)] [] M) : Runs G 163 mc ms [(1, v0), (0, v1)] M Q := Runs.go (by decide +kernel) rfl rfl h
set_option maxRecDepth 20000 in
theorem rn_X11_forget {G : JG} {mc ms : Nat} {Q : Int → JM → Prop} (v0 : Int) (M : JM) (h : J G 164 mc ms Q 0 0 0 [(0, 1, v0)] [] M) : Runs G 164 mc ms [(1, v0)] M Q := Runs.go (by decide +kernel) rfl rfl h
set_option maxRecDepth 20000 in
theorem rn_X11_isUnit {G : JG} {mc ms : Nat} {Q : Int → JM → Prop} (v0 : Int) (M : JM) (h : J G 165 mc ms Q 0 0 0 [(0, 0, v0)] [] M) : Runs G 165 mc ms [(0, v0)] M Q := Runs.go (by decide +kernel) rfl rfl h
set_option maxRecDepth 20000 in
theorem rn_X11_makePart {G : JG} {mc ms : Nat} {Q : Int → JM → Prop} (v0 v1 v2 v3 : Int) (M : JM) (h : J G 166 mc ms Q 0 0 0 [(0, 1, v0), (1, 1, v1), (2, 0, v2), (3, 0, v3)] [] M) : Runs G 166 mc ms [(1, v0), (1, v1), (0, v2), (0, v3)] M Q := Runs.go (by decide +kernel) rfl rfl h
set_option maxRecDepth 20000 in
theorem rn_X11_suffixesOf {G : JG} {mc ms : Nat} {Q : Int → JM → Prop} (v0 v1 : Int) (M : JM) (h : J G 167 mc ms Q 0 0 0 [(0, 1, v0), (1, 0, v1)] [] M) : Runs G 167 mc ms [(1, v0), (0, v1)] M Q := Runs.go (by decide +kernel) rfl rfl h
set_option maxRecDepth 20000 in
theorem rn_X11_stepsAtHand {G : JG} {mc ms : Nat} {Q : Int → JM → Prop} (v0 : Int) (M : JM) (h : J G 168 mc ms Q 0 0 0 [(0, 1, v0)] [] M) : Runs G 168 mc ms [(1, v0)] M Q := Runs.go (by decide +kernel) rfl rfl h
set_option maxRecDepth 20000 in
theorem rn_X12_init {G : JG} {mc ms : Nat} {Q : Int → JM → Prop} (v0 : Int) (M : JM) (h : J G 169 mc ms Q 0 0 0 [(0, 1, v0)] [] M) : Runs G 169 mc ms [(1, v0)] M Q := Runs.go (by decide +kernel) rfl rfl h
set_option maxRecDepth 20000 in
theorem rn_X12_in {G : JG} {mc ms : Nat} {Q : Int → JM → Prop} (v0 v2 v4 : Int) (M : JM) (h : J G 170 mc ms Q 0 0 0 [(0, 2, v0), (2, 2, v2), (4, 2, v4)] [] M) : Runs G 170 mc ms [(2, v0), (2, v2), (2, v4)] M Q := Runs.go (by decide +kernel) rfl rfl h
set_option maxRecDepth 20000 in
theorem rn_X12_isText {G : JG} {mc ms : Nat} {Q : Int → JM → Prop} (v0 v1 : Int) (M : JM) (h : J G 171 mc ms Q 0 0 0 [(0, 1, v0), (1, 0, v1)] [] M) : Runs G 171 mc ms [(1, v0), (0, v1)] M Q := Runs.go (by decide +kernel) rfl rfl h
set_option maxRecDepth 20000 in
theorem rn_X12_isPlace {G : JG} {mc ms : Nat} {Q : Int → JM → Prop} (v0 v1 v2 : Int) (M : JM) (h : J G 172 mc ms Q 0 0 0 [(0, 1, v0), (1, 0, v1), (2, 0, v2)] [] M) : Runs G 172 mc ms [(1, v0), (0, v1), (0, v2)] M Q := Runs.go (by decide +kernel) rfl rfl h
set_option maxRecDepth 20000 in
theorem rn_X12_isPart {G : JG} {mc ms : Nat} {Q : Int → JM → Prop} (v0 v1 v2 v3 : Int) (M : JM) (h : J G 173 mc ms Q 0 0 0 [(0, 1, v0), (1, 0, v1), (2, 0, v2), (3, 0, v3)] [] M) : Runs G 173 mc ms [(1, v0), (0, v1), (0, v2), (0, v3)] M Q := Runs.go (by decide +kernel) rfl rfl h
set_option maxRecDepth 20000 in
theorem rn_X12_unit {G : JG} {mc ms : Nat} {Q : Int → JM → Prop} (v0 v1 v2 : Int) (M : JM) (h : J G 174 mc ms Q 0 0 0 [(0, 1, v0), (1, 0, v1), (2, 0, v2)] [] M) : Runs G 174 mc ms [(1, v0), (0, v1), (0, v2)] M Q := Runs.go (by decide +kernel) rfl rfl h
set_option maxRecDepth 20000 in
theorem rn_X12_keep {G : JG} {mc ms : Nat} {Q : Int → JM → Prop} (v0 v1 v2 : Int) (M : JM) (h : J G 175 mc ms Q 0 0 0 [(0, 1, v0), (1, 0, v1), (2, 0, v2)] [] M) : Runs G 175 mc ms [(1, v0), (0, v1), (0, v2)] M Q := Runs.go (by decide +kernel) rfl rfl h
set_option maxRecDepth 20000 in
theorem rn_X12_newText {G : JG} {mc ms : Nat} {Q : Int → JM → Prop} (v0 : Int) (M : JM) (h : J G 176 mc ms Q 0 0 0 [(0, 1, v0)] [] M) : Runs G 176 mc ms [(1, v0)] M Q := Runs.go (by decide +kernel) rfl rfl h
set_option maxRecDepth 20000 in
theorem rn_X12_put {G : JG} {mc ms : Nat} {Q : Int → JM → Prop} (v0 v1 v2 : Int) (M : JM) (h : J G 177 mc ms Q 0 0 0 [(0, 1, v0), (1, 0, v1), (2, 0, v2)] [] M) : Runs G 177 mc ms [(1, v0), (0, v1), (0, v2)] M Q := Runs.go (by decide +kernel) rfl rfl h
set_option maxRecDepth 20000 in
theorem rn_X12_text {G : JG} {mc ms : Nat} {Q : Int → JM → Prop} (v0 : Int) (M : JM) (h : J G 178 mc ms Q 0 0 0 [(0, 1, v0)] [] M) : Runs G 178 mc ms [(1, v0)] M Q := Runs.go (by decide +kernel) rfl rfl h
set_option maxRecDepth 20000 in
theorem rn_X12_units {G : JG} {mc ms : Nat} {Q : Int → JM → Prop} (v0 v1 v2 v3 : Int) (M : JM) (h : J G 179 mc ms Q 0 0 0 [(0, 1, v0), (1, 0, v1), (2, 0, v2), (3, 2, v3)] [] M) : Runs G 179 mc ms [(1, v0), (0, v1), (0, v2), (2, v3)] M Q := Runs.go (by decide +kernel) rfl rfl h
set_option maxRecDepth 20000 in
theorem rn_X12_point {G : JG} {mc ms : Nat} {Q : Int → JM → Prop} (v0 v1 v2 : Int) (M : JM) (h : J G 180 mc ms Q 0 0 0 [(0, 1, v0), (1, 0, v1), (2, 0, v2)] [] M) : Runs G 180 mc ms [(1, v0), (0, v1), (0, v2)] M Q := Runs.go (by decide +kernel) rfl rfl h
set_option maxRecDepth 20000 in
theorem rn_X12_copy {G : JG} {mc ms : Nat} {Q : Int → JM → Prop} (v0 v1 v2 v3 : Int) (M : JM) (h : J G 181 mc ms Q 0 0 0 [(0, 1, v0), (1, 0, v1), (2, 0, v2), (3, 0, v3)] [] M) : Runs G 181 mc ms [(1, v0), (0, v1), (0, v2), (0, v3)] M Q := Runs.go (by decide +kernel) rfl rfl h
set_option maxRecDepth 20000 in
theorem rn_X12_append {G : JG} {mc ms : Nat} {Q : Int → JM → Prop} (v0 v1 v2 v3 v4 : Int) (M : JM) (h : J G 182 mc ms Q 0 0 0 [(0, 1, v0), (1, 0, v1), (2, 0, v2), (3, 0, v3), (4, 0, v4)] [] M) : Runs G 182 mc ms [(1, v0), (0, v1), (0, v2), (0, v3), (0, v4)] M Q := Runs.go (by decide +kernel) rfl rfl h
set_option maxRecDepth 20000 in
theorem rn_X12_reversed {G : JG} {mc ms : Nat} {Q : Int → JM → Prop} (v0 v1 : Int) (M : JM) (h : J G 183 mc ms Q 0 0 0 [(0, 1, v0), (1, 0, v1)] [] M) : Runs G 183 mc ms [(1, v0), (0, v1)] M Q := Runs.go (by decide +kernel) rfl rfl h
set_option maxRecDepth 20000 in
theorem rn_X12_insert {G : JG} {mc ms : Nat} {Q : Int → JM → Prop} (v0 v1 v2 v3 : Int) (M : JM) (h : J G 184 mc ms Q 0 0 0 [(0, 1, v0), (1, 0, v1), (2, 0, v2), (3, 0, v3)] [] M) : Runs G 184 mc ms [(1, v0), (0, v1), (0, v2), (0, v3)] M Q := Runs.go (by decide +kernel) rfl rfl h
set_option maxRecDepth 20000 in
theorem rn_X12_remove {G : JG} {mc ms : Nat} {Q : Int → JM → Prop} (v0 v1 v2 v3 : Int) (M : JM) (h : J G 185 mc ms Q 0 0 0 [(0, 1, v0), (1, 0, v1), (2, 0, v2), (3, 0, v3)] [] M) : Runs G 185 mc ms [(1, v0), (0, v1), (0, v2), (0, v3)] M Q := Runs.go (by decide +kernel) rfl rfl h
set_option maxRecDepth 20000 in
theorem rn_X12_undo {G : JG} {mc ms : Nat} {Q : Int → JM → Prop} (v0 : Int) (M : JM) (h : J G 186 mc ms Q 0 0 0 [(0, 1, v0)] [] M) : Runs G 186 mc ms [(1, v0)] M Q := Runs.go (by decide +kernel) rfl rfl h
set_option maxRecDepth 20000 in
theorem rn_X12_at {G : JG} {mc ms : Nat} {Q : Int → JM → Prop} (v0 v1 v2 : Int) (M : JM) (h : J G 187 mc ms Q 0 0 0 [(0, 1, v0), (1, 0, v1), (2, 0, v2)] [] M) : Runs G 187 mc ms [(1, v0), (0, v1), (0, v2)] M Q := Runs.go (by decide +kernel) rfl rfl h
set_option maxRecDepth 20000 in
theorem rn_X12_length {G : JG} {mc ms : Nat} {Q : Int → JM → Prop} (v0 v1 : Int) (M : JM) (h : J G 188 mc ms Q 0 0 0 [(0, 1, v0), (1, 0, v1)] [] M) : Runs G 188 mc ms [(1, v0), (0, v1)] M Q := Runs.go (by decide +kernel) rfl rfl h
set_option maxRecDepth 20000 in
theorem rn_X12_isPair {G : JG} {mc ms : Nat} {Q : Int → JM → Prop} (v0 v1 v2 : Int) (M : JM) (h : J G 189 mc ms Q 0 0 0 [(0, 1, v0), (1, 0, v1), (2, 0, v2)] [] M) : Runs G 189 mc ms [(1, v0), (0, v1), (0, v2)] M Q := Runs.go (by decide +kernel) rfl rfl h
set_option maxRecDepth 20000 in
theorem rn_X12_pointFrom {G : JG} {mc ms : Nat} {Q : Int → JM → Prop} (v0 v1 v2 : Int) (M : JM) (h : J G 190 mc ms Q 0 0 0 [(0, 1, v0), (1, 0, v1), (2, 0, v2)] [] M) : Runs G 190 mc ms [(1, v0), (0, v1), (0, v2)] M Q := Runs.go (by decide +kernel) rfl rfl h
set_option maxRecDepth 20000 in
theorem rn_X12_points {G : JG} {mc ms : Nat} {Q : Int → JM → Prop} (v0 v1 : Int) (M : JM) (h : J G 191 mc ms Q 0 0 0 [(0, 1, v0), (1, 0, v1)] [] M) : Runs G 191 mc ms [(1, v0), (0, v1)] M Q := Runs.go (by decide +kernel) rfl rfl h
set_option maxRecDepth 20000 in
theorem rn_X12_pointAt {G : JG} {mc ms : Nat} {Q : Int → JM → Prop} (v0 v1 v2 : Int) (M : JM) (h : J G 192 mc ms Q 0 0 0 [(0, 1, v0), (1, 0, v1), (2, 0, v2)] [] M) : Runs G 192 mc ms [(1, v0), (0, v1), (0, v2)] M Q := Runs.go (by decide +kernel) rfl rfl h
set_option maxRecDepth 20000 in
theorem rn_X12_half {G : JG} {mc ms : Nat} {Q : Int → JM → Prop} (v0 v1 v2 : Int) (M : JM) (h : J G 193 mc ms Q 0 0 0 [(0, 1, v0), (1, 0, v1), (2, 0, v2)] [] M) : Runs G 193 mc ms [(1, v0), (0, v1), (0, v2)] M Q := Runs.go (by decide +kernel) rfl rfl h
set_option maxRecDepth 20000 in
theorem rn_X12_order {G : JG} {mc ms : Nat} {Q : Int → JM → Prop} (v0 v1 v2 v3 : Int) (M : JM) (h : J G 194 mc ms Q 0 0 0 [(0, 1, v0), (1, 0, v1), (2, 0, v2), (3, 0, v3)] [] M) : Runs G 194 mc ms [(1, v0), (0, v1), (0, v2), (0, v3)] M Q := Runs.go (by decide +kernel) rfl rfl h
set_option maxRecDepth 20000 in
theorem rn_X12_equalParts {G : JG} {mc ms : Nat} {Q : Int → JM → Prop} (v0 v1 v2 v3 v4 v5 : Int) (M : JM) (h : J G 195 mc ms Q 0 0 0 [(0, 1, v0), (1, 0, v1), (2, 0, v2), (3, 0, v3), (4, 0, v4), (5, 0, v5)] [] M) : Runs G 195 mc ms [(1, v0), (0, v1), (0, v2), (0, v3), (0, v4), (0, v5)] M Q := Runs.go (by decide +kernel) rfl rfl h
set_option maxRecDepth 20000 in
theorem rn_X12_look {G : JG} {mc ms : Nat} {Q : Int → JM → Prop} (v0 v1 v2 : Int) (M : JM) (h : J G 196 mc ms Q 0 0 0 [(0, 1, v0), (1, 0, v1), (2, 0, v2)] [] M) : Runs G 196 mc ms [(1, v0), (0, v1), (0, v2)] M Q := Runs.go (by decide +kernel) rfl rfl h
set_option maxRecDepth 20000 in
theorem rn_X12_isLess {G : JG} {mc ms : Nat} {Q : Int → JM → Prop} (v0 v1 v2 v3 : Int) (M : JM) (h : J G 197 mc ms Q 0 0 0 [(0, 1, v0), (1, 0, v1), (2, 0, v2), (3, 0, v3)] [] M) : Runs G 197 mc ms [(1, v0), (0, v1), (0, v2), (0, v3)] M Q := Runs.go (by decide +kernel) rfl rfl h
set_option maxRecDepth 20000 in
theorem rn_X12_orders {G : JG} {mc ms : Nat} {Q : Int → JM → Prop} (v0 v1 : Int) (M : JM) (h : J G 198 mc ms Q 0 0 0 [(0, 1, v0), (1, 0, v1)] [] M) : Runs G 198 mc ms [(1, v0), (0, v1)] M Q := Runs.go (by decide +kernel) rfl rfl h
set_option maxRecDepth 20000 in
theorem rn_X12_rankOf {G : JG} {mc ms : Nat} {Q : Int → JM → Prop} (v0 v1 v2 : Int) (M : JM) (h : J G 199 mc ms Q 0 0 0 [(0, 1, v0), (1, 0, v1), (2, 0, v2)] [] M) : Runs G 199 mc ms [(1, v0), (0, v1), (0, v2)] M Q := Runs.go (by decide +kernel) rfl rfl h
set_option maxRecDepth 20000 in
theorem rn_X12_suffix {G : JG} {mc ms : Nat} {Q : Int → JM → Prop} (v0 v1 v2 : Int) (M : JM) (h : J G 200 mc ms Q 0 0 0 [(0, 1, v0), (1, 0, v1), (2, 0, v2)] [] M) : Runs G 200 mc ms [(1, v0), (0, v1), (0, v2)] M Q := Runs.go (by decide +kernel) rfl rfl h
set_option maxRecDepth 20000 in
theorem rn_X12_rank {G : JG} {mc ms : Nat} {Q : Int → JM → Prop} (v0 v1 v2 : Int) (M : JM) (h : J G 201 mc ms Q 0 0 0 [(0, 1, v0), (1, 0, v1), (2, 0, v2)] [] M) : Runs G 201 mc ms [(1, v0), (0, v1), (0, v2)] M Q := Runs.go (by decide +kernel) rfl rfl h
set_option maxRecDepth 20000 in
theorem rn_X12_common {G : JG} {mc ms : Nat} {Q : Int → JM → Prop} (v0 v1 v2 v3 : Int) (M : JM) (h : J G 202 mc ms Q 0 0 0 [(0, 1, v0), (1, 0, v1), (2, 0, v2), (3, 0, v3)] [] M) : Runs G 202 mc ms [(1, v0), (0, v1), (0, v2), (0, v3)] M Q := Runs.go (by decide +kernel) rfl rfl h
set_option maxRecDepth 20000 in
theorem rn_X12_border {G : JG} {mc ms : Nat} {Q : Int → JM → Prop} (v0 v1 v2 : Int) (M : JM) (h : J G 203 mc ms Q 0 0 0 [(0, 1, v0), (1, 0, v1), (2, 0, v2)] [] M) : Runs G 203 mc ms [(1, v0), (0, v1), (0, v2)] M Q := Runs.go (by decide +kernel) rfl rfl h
set_option maxRecDepth 20000 in
theorem rn_X12_stands {G : JG} {mc ms : Nat} {Q : Int → JM → Prop} (v0 v1 v2 v3 v4 v5 : Int) (M : JM) (h : J G 204 mc ms Q 0 0 0 [(0, 1, v0), (1, 0, v1), (2, 0, v2), (3, 0, v3), (4, 0, v4), (5, 0, v5)] [] M) : Runs G 204 mc ms [(1, v0), (0, v1), (0, v2), (0, v3), (0, v4), (0, v5)] M Q := Runs.go (by decide +kernel) rfl rfl h
set_option maxRecDepth 20000 in
theorem rn_X12_place {G : JG} {mc ms : Nat} {Q : Int → JM → Prop} (v0 v1 v2 v3 v4 v5 : Int) (M : JM) (h : J G 205 mc ms Q 0 0 0 [(0, 1, v0), (1, 0, v1), (2, 0, v2), (3, 0, v3), (4, 0, v4), (5, 0, v5)] [] M) : Runs G 205 mc ms [(1, v0), (0, v1), (0, v2), (0, v3), (0, v4), (0, v5)] M Q := Runs.go (by decide +kernel) rfl rfl h
set_option maxRecDepth 20000 in
theorem rn_X12_find {G : JG} {mc ms : Nat} {Q : Int → JM → Prop} (v0 v1 v2 v3 : Int) (M : JM) (h : J G 206 mc ms Q 0 0 0 [(0, 1, v0), (1, 0, v1), (2, 0, v2), (3, 0, v3)] [] M) : Runs G 206 mc ms [(1, v0), (0, v1), (0, v2), (0, v3)] M Q := Runs.go (by decide +kernel) rfl rfl h
set_option maxRecDepth 20000 in
theorem rn_X12_countOf {G : JG} {mc ms : Nat} {Q : Int → JM → Prop} (v0 v1 v2 : Int) (M : JM) (h : J G 207 mc ms Q 0 0 0 [(0, 1, v0), (1, 0, v1), (2, 0, v2)] [] M) : Runs G 207 mc ms [(1, v0), (0, v1), (0, v2)] M Q := Runs.go (by decide +kernel) rfl rfl h
set_option maxRecDepth 20000 in
theorem rn_X12_wild {G : JG} {mc ms : Nat} {Q : Int → JM → Prop} (v0 v1 v2 v3 v4 : Int) (M : JM) (h : J G 208 mc ms Q 0 0 0 [(0, 1, v0), (1, 0, v1), (2, 0, v2), (3, 0, v3), (4, 0, v4)] [] M) : Runs G 208 mc ms [(1, v0), (0, v1), (0, v2), (0, v3), (0, v4)] M Q := Runs.go (by decide +kernel) rfl rfl h
set_option maxRecDepth 20000 in
theorem rn_X12_near {G : JG} {mc ms : Nat} {Q : Int → JM → Prop} (v0 v1 v2 v3 v4 : Int) (M : JM) (h : J G 209 mc ms Q 0 0 0 [(0, 1, v0), (1, 0, v1), (2, 0, v2), (3, 0, v3), (4, 0, v4)] [] M) : Runs G 209 mc ms [(1, v0), (0, v1), (0, v2), (0, v3), (0, v4)] M Q := Runs.go (by decide +kernel) rfl rfl h
set_option maxRecDepth 20000 in
theorem rn_X12_pattern {G : JG} {mc ms : Nat} {Q : Int → JM → Prop} (v0 v1 : Int) (M : JM) (h : J G 210 mc ms Q 0 0 0 [(0, 1, v0), (1, 0, v1)] [] M) : Runs G 210 mc ms [(1, v0), (0, v1)] M Q := Runs.go (by decide +kernel) rfl rfl h
set_option maxRecDepth 20000 in
theorem rn_X12_occurs {G : JG} {mc ms : Nat} {Q : Int → JM → Prop} (v0 v1 v2 v3 : Int) (M : JM) (h : J G 211 mc ms Q 0 0 0 [(0, 1, v0), (1, 0, v1), (2, 0, v2), (3, 0, v3)] [] M) : Runs G 211 mc ms [(1, v0), (0, v1), (0, v2), (0, v3)] M Q := Runs.go (by decide +kernel) rfl rfl h
set_option maxRecDepth 20000 in
theorem rn_X12_matches {G : JG} {mc ms : Nat} {Q : Int → JM → Prop} (v0 v1 : Int) (M : JM) (h : J G 212 mc ms Q 0 0 0 [(0, 1, v0), (1, 0, v1)] [] M) : Runs G 212 mc ms [(1, v0), (0, v1)] M Q := Runs.go (by decide +kernel) rfl rfl h
set_option maxRecDepth 20000 in
theorem rn_X12_match {G : JG} {mc ms : Nat} {Q : Int → JM → Prop} (v0 v1 v2 : Int) (M : JM) (h : J G 213 mc ms Q 0 0 0 [(0, 1, v0), (1, 0, v1), (2, 0, v2)] [] M) : Runs G 213 mc ms [(1, v0), (0, v1), (0, v2)] M Q := Runs.go (by decide +kernel) rfl rfl h
set_option maxRecDepth 20000 in
theorem rn_X12_forget {G : JG} {mc ms : Nat} {Q : Int → JM → Prop} (v0 : Int) (M : JM) (h : J G 214 mc ms Q 0 0 0 [(0, 1, v0)] [] M) : Runs G 214 mc ms [(1, v0)] M Q := Runs.go (by decide +kernel) rfl rfl h
set_option maxRecDepth 20000 in
theorem rn_X12_cover {G : JG} {mc ms : Nat} {Q : Int → JM → Prop} (v0 v1 : Int) (M : JM) (h : J G 215 mc ms Q 0 0 0 [(0, 1, v0), (1, 0, v1)] [] M) : Runs G 215 mc ms [(1, v0), (0, v1)] M Q := Runs.go (by decide +kernel) rfl rfl h
set_option maxRecDepth 20000 in
theorem rn_X12_word {G : JG} {mc ms : Nat} {Q : Int → JM → Prop} (v0 v1 : Int) (M : JM) (h : J G 216 mc ms Q 0 0 0 [(0, 1, v0), (1, 0, v1)] [] M) : Runs G 216 mc ms [(1, v0), (0, v1)] M Q := Runs.go (by decide +kernel) rfl rfl h
set_option maxRecDepth 20000 in
theorem rn_X12_longestCommon {G : JG} {mc ms : Nat} {Q : Int → JM → Prop} (v0 v1 v2 v3 : Int) (M : JM) (h : J G 217 mc ms Q 0 0 0 [(0, 1, v0), (1, 0, v1), (2, 0, v2), (3, 0, v3)] [] M) : Runs G 217 mc ms [(1, v0), (0, v1), (0, v2), (0, v3)] M Q := Runs.go (by decide +kernel) rfl rfl h
set_option maxRecDepth 20000 in
theorem rn_X12_byKey {G : JG} {mc ms : Nat} {Q : Int → JM → Prop} (v0 v1 v2 v3 v4 : Int) (M : JM) (h : J G 218 mc ms Q 0 0 0 [(0, 1, v0), (1, 1, v1), (2, 1, v2), (3, 0, v3), (4, 0, v4)] [] M) : Runs G 218 mc ms [(1, v0), (1, v1), (1, v2), (0, v3), (0, v4)] M Q := Runs.go (by decide +kernel) rfl rfl h
set_option maxRecDepth 20000 in
theorem rn_X12_bySize {G : JG} {mc ms : Nat} {Q : Int → JM → Prop} (v0 v1 v2 : Int) (M : JM) (h : J G 219 mc ms Q 0 0 0 [(0, 1, v0), (1, 0, v1), (2, 0, v2)] [] M) : Runs G 219 mc ms [(1, v0), (0, v1), (0, v2)] M Q := Runs.go (by decide +kernel) rfl rfl h
set_option maxRecDepth 20000 in
theorem rn_X12_isSame {G : JG} {mc ms : Nat} {Q : Int → JM → Prop} (v0 v1 v2 v3 v4 : Int) (M : JM) (h : J G 220 mc ms Q 0 0 0 [(0, 1, v0), (1, 0, v1), (2, 0, v2), (3, 0, v3), (4, 0, v4)] [] M) : Runs G 220 mc ms [(1, v0), (0, v1), (0, v2), (0, v3), (0, v4)] M Q := Runs.go (by decide +kernel) rfl rfl h
set_option maxRecDepth 20000 in
theorem rn_X12_rankAll {G : JG} {mc ms : Nat} {Q : Int → JM → Prop} (v0 : Int) (M : JM) (h : J G 221 mc ms Q 0 0 0 [(0, 1, v0)] [] M) : Runs G 221 mc ms [(1, v0)] M Q := Runs.go (by decide +kernel) rfl rfl h
set_option maxRecDepth 20000 in
theorem rn_X12_manyOf {G : JG} {mc ms : Nat} {Q : Int → JM → Prop} (v0 v1 v2 : Int) (M : JM) (h : J G 222 mc ms Q 0 0 0 [(0, 1, v0), (1, 0, v1), (2, 0, v2)] [] M) : Runs G 222 mc ms [(1, v0), (0, v1), (0, v2)] M Q := Runs.go (by decide +kernel) rfl rfl h
set_option maxRecDepth 20000 in
theorem rn_X12_ofMany {G : JG} {mc ms : Nat} {Q : Int → JM → Prop} (v0 v1 v2 : Int) (M : JM) (h : J G 223 mc ms Q 0 0 0 [(0, 1, v0), (1, 0, v1), (2, 0, v2)] [] M) : Runs G 223 mc ms [(1, v0), (0, v1), (0, v2)] M Q := Runs.go (by decide +kernel) rfl rfl h
set_option maxRecDepth 20000 in
theorem rn_X12_periodOf {G : JG} {mc ms : Nat} {Q : Int → JM → Prop} (v0 v1 v2 : Int) (M : JM) (h : J G 224 mc ms Q 0 0 0 [(0, 1, v0), (1, 0, v1), (2, 0, v2)] [] M) : Runs G 224 mc ms [(1, v0), (0, v1), (0, v2)] M Q := Runs.go (by decide +kernel) rfl rfl h
set_option maxRecDepth 20000 in
theorem rn_X12_period {G : JG} {mc ms : Nat} {Q : Int → JM → Prop} (v0 v1 v2 v3 : Int) (M : JM) (h : J G 225 mc ms Q 0 0 0 [(0, 1, v0), (1, 0, v1), (2, 0, v2), (3, 0, v3)] [] M) : Runs G 225 mc ms [(1, v0), (0, v1), (0, v2), (0, v3)] M Q := Runs.go (by decide +kernel) rfl rfl h
set_option maxRecDepth 20000 in
theorem rn_X12_root {G : JG} {mc ms : Nat} {Q : Int → JM → Prop} (v0 v1 : Int) (M : JM) (h : J G 226 mc ms Q 0 0 0 [(0, 1, v0), (1, 0, v1)] [] M) : Runs G 226 mc ms [(1, v0), (0, v1)] M Q := Runs.go (by decide +kernel) rfl rfl h
set_option maxRecDepth 20000 in
theorem rn_X12_squares {G : JG} {mc ms : Nat} {Q : Int → JM → Prop} (v0 v1 : Int) (M : JM) (h : J G 227 mc ms Q 0 0 0 [(0, 1, v0), (1, 0, v1)] [] M) : Runs G 227 mc ms [(1, v0), (0, v1)] M Q := Runs.go (by decide +kernel) rfl rfl h
set_option maxRecDepth 20000 in
theorem rn_X12_runs {G : JG} {mc ms : Nat} {Q : Int → JM → Prop} (v0 v1 : Int) (M : JM) (h : J G 228 mc ms Q 0 0 0 [(0, 1, v0), (1, 0, v1)] [] M) : Runs G 228 mc ms [(1, v0), (0, v1)] M Q := Runs.go (by decide +kernel) rfl rfl h
set_option maxRecDepth 20000 in
theorem rn_X12_run {G : JG} {mc ms : Nat} {Q : Int → JM → Prop} (v0 v1 v2 : Int) (M : JM) (h : J G 229 mc ms Q 0 0 0 [(0, 1, v0), (1, 0, v1), (2, 0, v2)] [] M) : Runs G 229 mc ms [(1, v0), (0, v1), (0, v2)] M Q := Runs.go (by decide +kernel) rfl rfl h
set_option maxRecDepth 20000 in
theorem rn_X12_around {G : JG} {mc ms : Nat} {Q : Int → JM → Prop} (v0 v1 v2 : Int) (M : JM) (h : J G 230 mc ms Q 0 0 0 [(0, 1, v0), (1, 0, v1), (2, 0, v2)] [] M) : Runs G 230 mc ms [(1, v0), (0, v1), (0, v2)] M Q := Runs.go (by decide +kernel) rfl rfl h
set_option maxRecDepth 20000 in
theorem rn_X12_palindrome {G : JG} {mc ms : Nat} {Q : Int → JM → Prop} (v0 v1 v2 : Int) (M : JM) (h : J G 231 mc ms Q 0 0 0 [(0, 1, v0), (1, 0, v1), (2, 0, v2)] [] M) : Runs G 231 mc ms [(1, v0), (0, v1), (0, v2)] M Q := Runs.go (by decide +kernel) rfl rfl h
set_option maxRecDepth 20000 in
theorem rn_X12_palindromes {G : JG} {mc ms : Nat} {Q : Int → JM → Prop} (v0 v1 : Int) (M : JM) (h : J G 232 mc ms Q 0 0 0 [(0, 1, v0), (1, 0, v1)] [] M) : Runs G 232 mc ms [(1, v0), (0, v1)] M Q := Runs.go (by decide +kernel) rfl rfl h
set_option maxRecDepth 20000 in
theorem rn_X12_turned {G : JG} {mc ms : Nat} {Q : Int → JM → Prop} (v0 v1 v2 : Int) (M : JM) (h : J G 233 mc ms Q 0 0 0 [(0, 1, v0), (1, 0, v1), (2, 0, v2)] [] M) : Runs G 233 mc ms [(1, v0), (0, v1), (0, v2)] M Q := Runs.go (by decide +kernel) rfl rfl h
set_option maxRecDepth 20000 in
theorem rn_X12_leastRotation {G : JG} {mc ms : Nat} {Q : Int → JM → Prop} (v0 v1 : Int) (M : JM) (h : J G 234 mc ms Q 0 0 0 [(0, 1, v0), (1, 0, v1)] [] M) : Runs G 234 mc ms [(1, v0), (0, v1)] M Q := Runs.go (by decide +kernel) rfl rfl h
set_option maxRecDepth 20000 in
theorem rn_X12_lyndon {G : JG} {mc ms : Nat} {Q : Int → JM → Prop} (v0 v1 v2 : Int) (M : JM) (h : J G 235 mc ms Q 0 0 0 [(0, 1, v0), (1, 0, v1), (2, 0, v2)] [] M) : Runs G 235 mc ms [(1, v0), (0, v1), (0, v2)] M Q := Runs.go (by decide +kernel) rfl rfl h
set_option maxRecDepth 20000 in
theorem rn_X12_elsewhere {G : JG} {mc ms : Nat} {Q : Int → JM → Prop} (v0 v1 v2 v3 : Int) (M : JM) (h : J G 236 mc ms Q 0 0 0 [(0, 1, v0), (1, 0, v1), (2, 0, v2), (3, 0, v3)] [] M) : Runs G 236 mc ms [(1, v0), (0, v1), (0, v2), (0, v3)] M Q := Runs.go (by decide +kernel) rfl rfl h
set_option maxRecDepth 20000 in
theorem rn_X12_parts {G : JG} {mc ms : Nat} {Q : Int → JM → Prop} (v0 v1 : Int) (M : JM) (h : J G 237 mc ms Q 0 0 0 [(0, 1, v0), (1, 0, v1)] [] M) : Runs G 237 mc ms [(1, v0), (0, v1)] M Q := Runs.go (by decide +kernel) rfl rfl h
set_option maxRecDepth 20000 in
theorem rn_X12_nthPart {G : JG} {mc ms : Nat} {Q : Int → JM → Prop} (v0 v1 v2 : Int) (M : JM) (h : J G 238 mc ms Q 0 0 0 [(0, 1, v0), (1, 0, v1), (2, 0, v2)] [] M) : Runs G 238 mc ms [(1, v0), (0, v1), (0, v2)] M Q := Runs.go (by decide +kernel) rfl rfl h
set_option maxRecDepth 20000 in
theorem rn_X12_uniqueFrom {G : JG} {mc ms : Nat} {Q : Int → JM → Prop} (v0 v1 v2 : Int) (M : JM) (h : J G 239 mc ms Q 0 0 0 [(0, 1, v0), (1, 0, v1), (2, 0, v2)] [] M) : Runs G 239 mc ms [(1, v0), (0, v1), (0, v2)] M Q := Runs.go (by decide +kernel) rfl rfl h
set_option maxRecDepth 20000 in
theorem rn_X12_unique {G : JG} {mc ms : Nat} {Q : Int → JM → Prop} (v0 v1 v2 : Int) (M : JM) (h : J G 240 mc ms Q 0 0 0 [(0, 1, v0), (1, 0, v1), (2, 0, v2)] [] M) : Runs G 240 mc ms [(1, v0), (0, v1), (0, v2)] M Q := Runs.go (by decide +kernel) rfl rfl h
set_option maxRecDepth 20000 in
theorem rn_X12_leastUnique {G : JG} {mc ms : Nat} {Q : Int → JM → Prop} (v0 v1 : Int) (M : JM) (h : J G 241 mc ms Q 0 0 0 [(0, 1, v0), (1, 0, v1)] [] M) : Runs G 241 mc ms [(1, v0), (0, v1)] M Q := Runs.go (by decide +kernel) rfl rfl h
set_option maxRecDepth 20000 in
theorem rn_X12_signsOf {G : JG} {mc ms : Nat} {Q : Int → JM → Prop} (v0 v1 : Int) (M : JM) (h : J G 242 mc ms Q 0 0 0 [(0, 1, v0), (1, 0, v1)] [] M) : Runs G 242 mc ms [(1, v0), (0, v1)] M Q := Runs.go (by decide +kernel) rfl rfl h
set_option maxRecDepth 20000 in
theorem rn_X12_beginning {G : JG} {mc ms : Nat} {Q : Int → JM → Prop} (v0 v1 v2 v3 : Int) (M : JM) (h : J G 243 mc ms Q 0 0 0 [(0, 1, v0), (1, 0, v1), (2, 0, v2), (3, 0, v3)] [] M) : Runs G 243 mc ms [(1, v0), (0, v1), (0, v2), (0, v3)] M Q := Runs.go (by decide +kernel) rfl rfl h
set_option maxRecDepth 20000 in
theorem rn_X12_power {G : JG} {mc ms : Nat} {Q : Int → JM → Prop} (v0 v1 : Int) (M : JM) (h : J G 244 mc ms Q 0 0 0 [(0, 1, v0), (1, 0, v1)] [] M) : Runs G 244 mc ms [(1, v0), (0, v1)] M Q := Runs.go (by decide +kernel) rfl rfl h
set_option maxRecDepth 20000 in
theorem rn_X12_absent {G : JG} {mc ms : Nat} {Q : Int → JM → Prop} (v0 v1 : Int) (M : JM) (h : J G 245 mc ms Q 0 0 0 [(0, 1, v0), (1, 0, v1)] [] M) : Runs G 245 mc ms [(1, v0), (0, v1)] M Q := Runs.go (by decide +kernel) rfl rfl h
set_option maxRecDepth 20000 in
theorem rn_X12_lesser {G : JG} {mc ms : Nat} {Q : Int → JM → Prop} (v0 v1 : Int) (M : JM) (h : J G 246 mc ms Q 0 0 0 [(0, 0, v0), (1, 0, v1)] [] M) : Runs G 246 mc ms [(0, v0), (0, v1)] M Q := Runs.go (by decide +kernel) rfl rfl h
set_option maxRecDepth 20000 in
theorem rn_X12_distance {G : JG} {mc ms : Nat} {Q : Int → JM → Prop} (v0 v1 v2 : Int) (M : JM) (h : J G 247 mc ms Q 0 0 0 [(0, 1, v0), (1, 0, v1), (2, 0, v2)] [] M) : Runs G 247 mc ms [(1, v0), (0, v1), (0, v2)] M Q := Runs.go (by decide +kernel) rfl rfl h
set_option maxRecDepth 20000 in
theorem rn_X12_script {G : JG} {mc ms : Nat} {Q : Int → JM → Prop} (v0 v1 v2 : Int) (M : JM) (h : J G 248 mc ms Q 0 0 0 [(0, 1, v0), (1, 0, v1), (2, 0, v2)] [] M) : Runs G 248 mc ms [(1, v0), (0, v1), (0, v2)] M Q := Runs.go (by decide +kernel) rfl rfl h
set_option maxRecDepth 20000 in
theorem rn_X12_subsequence {G : JG} {mc ms : Nat} {Q : Int → JM → Prop} (v0 v1 v2 : Int) (M : JM) (h : J G 249 mc ms Q 0 0 0 [(0, 1, v0), (1, 0, v1), (2, 0, v2)] [] M) : Runs G 249 mc ms [(1, v0), (0, v1), (0, v2)] M Q := Runs.go (by decide +kernel) rfl rfl h
set_option maxRecDepth 20000 in
theorem rn_X12_pair {G : JG} {mc ms : Nat} {Q : Int → JM → Prop} (v0 v1 v2 : Int) (M : JM) (h : J G 250 mc ms Q 0 0 0 [(0, 1, v0), (1, 0, v1), (2, 0, v2)] [] M) : Runs G 250 mc ms [(1, v0), (0, v1), (0, v2)] M Q := Runs.go (by decide +kernel) rfl rfl h
set_option maxRecDepth 20000 in
theorem rn_X12_item {G : JG} {mc ms : Nat} {Q : Int → JM → Prop} (v0 v1 v2 v3 : Int) (M : JM) (h : J G 251 mc ms Q 0 0 0 [(0, 1, v0), (1, 0, v1), (2, 0, v2), (3, 0, v3)] [] M) : Runs G 251 mc ms [(1, v0), (0, v1), (0, v2), (0, v3)] M Q := Runs.go (by decide +kernel) rfl rfl h
set_option maxRecDepth 20000 in
theorem rn_X12_squeezeCopies {G : JG} {mc ms : Nat} {Q : Int → JM → Prop} (v0 v1 : Int) (M : JM) (h : J G 252 mc ms Q 0 0 0 [(0, 1, v0), (1, 0, v1)] [] M) : Runs G 252 mc ms [(1, v0), (0, v1)] M Q := Runs.go (by decide +kernel) rfl rfl h
set_option maxRecDepth 20000 in
theorem rn_X12_squeezePhrases {G : JG} {mc ms : Nat} {Q : Int → JM → Prop} (v0 v1 : Int) (M : JM) (h : J G 253 mc ms Q 0 0 0 [(0, 1, v0), (1, 0, v1)] [] M) : Runs G 253 mc ms [(1, v0), (0, v1)] M Q := Runs.go (by decide +kernel) rfl rfl h
set_option maxRecDepth 20000 in
theorem rn_X12_squeeze {G : JG} {mc ms : Nat} {Q : Int → JM → Prop} (v0 v1 v2 : Int) (M : JM) (h : J G 254 mc ms Q 0 0 0 [(0, 1, v0), (1, 0, v1), (2, 0, v2)] [] M) : Runs G 254 mc ms [(1, v0), (0, v1), (0, v2)] M Q := Runs.go (by decide +kernel) rfl rfl h
set_option maxRecDepth 20000 in
theorem rn_X12_squeezed {G : JG} {mc ms : Nat} {Q : Int → JM → Prop} (v0 v1 v2 : Int) (M : JM) (h : J G 255 mc ms Q 0 0 0 [(0, 1, v0), (1, 0, v1), (2, 0, v2)] [] M) : Runs G 255 mc ms [(1, v0), (0, v1), (0, v2)] M Q := Runs.go (by decide +kernel) rfl rfl h
set_option maxRecDepth 20000 in
theorem rn_X12_putPhrase {G : JG} {mc ms : Nat} {Q : Int → JM → Prop} (v0 v1 v2 : Int) (M : JM) (h : J G 256 mc ms Q 0 0 0 [(0, 1, v0), (1, 0, v1), (2, 0, v2)] [] M) : Runs G 256 mc ms [(1, v0), (0, v1), (0, v2)] M Q := Runs.go (by decide +kernel) rfl rfl h
set_option maxRecDepth 20000 in
theorem rn_X12_expand {G : JG} {mc ms : Nat} {Q : Int → JM → Prop} (v0 : Int) (M : JM) (h : J G 257 mc ms Q 0 0 0 [(0, 1, v0)] [] M) : Runs G 257 mc ms [(1, v0)] M Q := Runs.go (by decide +kernel) rfl rfl h
set_option maxRecDepth 20000 in
theorem rn_X12_sort {G : JG} {mc ms : Nat} {Q : Int → JM → Prop} (v0 v1 : Int) (M : JM) (h : J G 258 mc ms Q 0 0 0 [(0, 1, v0), (1, 0, v1)] [] M) : Runs G 258 mc ms [(1, v0), (0, v1)] M Q := Runs.go (by decide +kernel) rfl rfl h
set_option maxRecDepth 20000 in
theorem rn_X12_sorted {G : JG} {mc ms : Nat} {Q : Int → JM → Prop} (v0 v1 : Int) (M : JM) (h : J G 259 mc ms Q 0 0 0 [(0, 1, v0), (1, 0, v1)] [] M) : Runs G 259 mc ms [(1, v0), (0, v1)] M Q := Runs.go (by decide +kernel) rfl rfl h
set_option maxRecDepth 20000 in
theorem rn_X12_unsort {G : JG} {mc ms : Nat} {Q : Int → JM → Prop} (v0 : Int) (M : JM) (h : J G 260 mc ms Q 0 0 0 [(0, 1, v0)] [] M) : Runs G 260 mc ms [(1, v0)] M Q := Runs.go (by decide +kernel) rfl rfl h
set_option maxRecDepth 20000 in
theorem rn_X12_count {G : JG} {mc ms : Nat} {Q : Int → JM → Prop} (v0 v1 : Int) (M : JM) (h : J G 261 mc ms Q 0 0 0 [(0, 1, v0), (1, 0, v1)] [] M) : Runs G 261 mc ms [(1, v0), (0, v1)] M Q := Runs.go (by decide +kernel) rfl rfl h
