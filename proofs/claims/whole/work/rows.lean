section
-- ===== PART A: goes FIRST, ahead of the names: the tables' words, and 'selects' of the private methods out of them =====
/-- a private method of a class that the tables say can be made, by its rows of tables_1 -/
def lw_okq (q : MethodName × Nat) : Prop := (q.1.cls ≠ "java/lang/invoke/MethodHandle" ∧ q.1.cls ≠ "java/lang/invoke/VarHandle") ∧ Cond.instantiable q.1.cls q.2 ∈ tables_1 ∧ Cond.privateMethod q.1 ∈ tables_1 ∧ Cond.instanceMethod q.1 ∈ tables_1
theorem lw_p0 : lw_okq (⟨"UnitAtlas$Shelf", "nextKept", "()LUnitAtlas$Kept;"⟩, 6) := ⟨⟨by decide +kernel, by decide +kernel⟩, List.mem_of_getElem? (i := 25) (by decide +kernel), List.mem_of_getElem? (i := 350) (by decide +kernel), List.mem_of_getElem? (i := 351) (by decide +kernel)⟩
theorem lw_p1 : lw_okq (⟨"UnitAtlas", "makePart", "(LUnitAtlas$Text;II)I"⟩, 14) := ⟨⟨by decide +kernel, by decide +kernel⟩, List.mem_of_getElem? (i := 17) (by decide +kernel), List.mem_of_getElem? (i := 415) (by decide +kernel), List.mem_of_getElem? (i := 416) (by decide +kernel)⟩
theorem lw_p2 : lw_okq (⟨"UnitAtlas$Text", "bySize", "(LUnitAtlas$Text;)I"⟩, 2) := ⟨⟨by decide +kernel, by decide +kernel⟩, List.mem_of_getElem? (i := 34) (by decide +kernel), List.mem_of_getElem? (i := 509) (by decide +kernel), List.mem_of_getElem? (i := 510) (by decide +kernel)⟩
theorem lw_p3 : lw_okq (⟨"UnitAtlas", "suffixesOf", "(I)LUnitAtlas$Suffixes;"⟩, 14) := ⟨⟨by decide +kernel, by decide +kernel⟩, List.mem_of_getElem? (i := 17) (by decide +kernel), List.mem_of_getElem? (i := 525) (by decide +kernel), List.mem_of_getElem? (i := 526) (by decide +kernel)⟩
theorem lw_p4 : lw_okq (⟨"UnitAtlas$Suffixes", "join", "(LUnitAtlas$Text;I)V"⟩, 15) := ⟨⟨by decide +kernel, by decide +kernel⟩, List.mem_of_getElem? (i := 109) (by decide +kernel), List.mem_of_getElem? (i := 534) (by decide +kernel), List.mem_of_getElem? (i := 535) (by decide +kernel)⟩
theorem lw_p5 : lw_okq (⟨"UnitAtlas$Suffixes", "addSign", "(II)V"⟩, 15) := ⟨⟨by decide +kernel, by decide +kernel⟩, List.mem_of_getElem? (i := 109) (by decide +kernel), List.mem_of_getElem? (i := 538) (by decide +kernel), List.mem_of_getElem? (i := 539) (by decide +kernel)⟩
theorem lw_p6 : lw_okq (⟨"UnitAtlas$Suffixes", "arrange", "()V"⟩, 15) := ⟨⟨by decide +kernel, by decide +kernel⟩, List.mem_of_getElem? (i := 109) (by decide +kernel), List.mem_of_getElem? (i := 542) (by decide +kernel), List.mem_of_getElem? (i := 543) (by decide +kernel)⟩
theorem lw_p7 : lw_okq (⟨"UnitAtlas$Suffixes", "orderBySign", "()V"⟩, 15) := ⟨⟨by decide +kernel, by decide +kernel⟩, List.mem_of_getElem? (i := 109) (by decide +kernel), List.mem_of_getElem? (i := 546) (by decide +kernel), List.mem_of_getElem? (i := 547) (by decide +kernel)⟩
theorem lw_p8 : lw_okq (⟨"UnitAtlas$Suffixes", "orderSpare", "([IIII)V"⟩, 15) := ⟨⟨by decide +kernel, by decide +kernel⟩, List.mem_of_getElem? (i := 109) (by decide +kernel), List.mem_of_getElem? (i := 550) (by decide +kernel), List.mem_of_getElem? (i := 551) (by decide +kernel)⟩
theorem lw_p9 : lw_okq (⟨"UnitAtlas$Suffixes", "rankBySign", "()I"⟩, 15) := ⟨⟨by decide +kernel, by decide +kernel⟩, List.mem_of_getElem? (i := 109) (by decide +kernel), List.mem_of_getElem? (i := 555) (by decide +kernel), List.mem_of_getElem? (i := 556) (by decide +kernel)⟩
theorem lw_p10 : lw_okq (⟨"UnitAtlas$Suffixes", "listBySecond", "(I)V"⟩, 15) := ⟨⟨by decide +kernel, by decide +kernel⟩, List.mem_of_getElem? (i := 109) (by decide +kernel), List.mem_of_getElem? (i := 559) (by decide +kernel), List.mem_of_getElem? (i := 560) (by decide +kernel)⟩
theorem lw_p11 : lw_okq (⟨"UnitAtlas$Suffixes", "rankByTwo", "(I)I"⟩, 15) := ⟨⟨by decide +kernel, by decide +kernel⟩, List.mem_of_getElem? (i := 109) (by decide +kernel), List.mem_of_getElem? (i := 563) (by decide +kernel), List.mem_of_getElem? (i := 564) (by decide +kernel)⟩
theorem lw_p12 : lw_okq (⟨"UnitAtlas$Suffixes", "measureShared", "()V"⟩, 15) := ⟨⟨by decide +kernel, by decide +kernel⟩, List.mem_of_getElem? (i := 109) (by decide +kernel), List.mem_of_getElem? (i := 571) (by decide +kernel), List.mem_of_getElem? (i := 572) (by decide +kernel)⟩
theorem lw_p13 : lw_okq (⟨"UnitAtlas$Told", "write", "(IIII)V"⟩, 4) := ⟨⟨by decide +kernel, by decide +kernel⟩, List.mem_of_getElem? (i := 238) (by decide +kernel), List.mem_of_getElem? (i := 648) (by decide +kernel), List.mem_of_getElem? (i := 649) (by decide +kernel)⟩
theorem lw_p14 : lw_okq (⟨"UnitAtlas$Suffixes", "stretchOf", "(II)I"⟩, 15) := ⟨⟨by decide +kernel, by decide +kernel⟩, List.mem_of_getElem? (i := 109) (by decide +kernel), List.mem_of_getElem? (i := 680) (by decide +kernel), List.mem_of_getElem? (i := 681) (by decide +kernel)⟩
theorem lw_p15 : lw_okq (⟨"UnitAtlas$Suffixes", "freshParts", "(I)I"⟩, 15) := ⟨⟨by decide +kernel, by decide +kernel⟩, List.mem_of_getElem? (i := 109) (by decide +kernel), List.mem_of_getElem? (i := 782) (by decide +kernel), List.mem_of_getElem? (i := 783) (by decide +kernel)⟩
def lw_privs_1 : List (MethodName × Nat) := [(⟨"UnitAtlas$Shelf", "nextKept", "()LUnitAtlas$Kept;"⟩, 6), (⟨"UnitAtlas", "makePart", "(LUnitAtlas$Text;II)I"⟩, 14), (⟨"UnitAtlas$Text", "bySize", "(LUnitAtlas$Text;)I"⟩, 2), (⟨"UnitAtlas", "suffixesOf", "(I)LUnitAtlas$Suffixes;"⟩, 14), (⟨"UnitAtlas$Suffixes", "join", "(LUnitAtlas$Text;I)V"⟩, 15), (⟨"UnitAtlas$Suffixes", "addSign", "(II)V"⟩, 15), (⟨"UnitAtlas$Suffixes", "arrange", "()V"⟩, 15), (⟨"UnitAtlas$Suffixes", "orderBySign", "()V"⟩, 15), (⟨"UnitAtlas$Suffixes", "orderSpare", "([IIII)V"⟩, 15), (⟨"UnitAtlas$Suffixes", "rankBySign", "()I"⟩, 15), (⟨"UnitAtlas$Suffixes", "listBySecond", "(I)V"⟩, 15), (⟨"UnitAtlas$Suffixes", "rankByTwo", "(I)I"⟩, 15), (⟨"UnitAtlas$Suffixes", "measureShared", "()V"⟩, 15), (⟨"UnitAtlas$Told", "write", "(IIII)V"⟩, 4), (⟨"UnitAtlas$Suffixes", "stretchOf", "(II)I"⟩, 15), (⟨"UnitAtlas$Suffixes", "freshParts", "(I)I"⟩, 15)]
theorem lw_r1 : ∀ q ∈ lw_privs_1, lw_okq q := List.forall_mem_cons.mpr ⟨lw_p0, List.forall_mem_cons.mpr ⟨lw_p1, List.forall_mem_cons.mpr ⟨lw_p2, List.forall_mem_cons.mpr ⟨lw_p3, List.forall_mem_cons.mpr ⟨lw_p4, List.forall_mem_cons.mpr ⟨lw_p5, List.forall_mem_cons.mpr ⟨lw_p6, List.forall_mem_cons.mpr ⟨lw_p7, List.forall_mem_cons.mpr ⟨lw_p8, List.forall_mem_cons.mpr ⟨lw_p9, List.forall_mem_cons.mpr ⟨lw_p10, List.forall_mem_cons.mpr ⟨lw_p11, List.forall_mem_cons.mpr ⟨lw_p12, List.forall_mem_cons.mpr ⟨lw_p13, List.forall_mem_cons.mpr ⟨lw_p14, List.forall_mem_cons.mpr ⟨lw_p15, fun _ h => absurd h List.not_mem_nil⟩⟩⟩⟩⟩⟩⟩⟩⟩⟩⟩⟩⟩⟩⟩⟩
theorem lw_p16 : lw_okq (⟨"UnitAtlas$Suffixes", "sharedAt", "(I)I"⟩, 15) := ⟨⟨by decide +kernel, by decide +kernel⟩, List.mem_of_getElem? (i := 109) (by decide +kernel), List.mem_of_getElem? (i := 803) (by decide +kernel), List.mem_of_getElem? (i := 804) (by decide +kernel)⟩
theorem lw_p17 : lw_okq (⟨"UnitAtlas$Search", "gatherLetters", "(LUnitAtlas$Text;)V"⟩, 8) := ⟨⟨by decide +kernel, by decide +kernel⟩, List.mem_of_getElem? (i := 164) (by decide +kernel), List.mem_of_getElem? (i := 824) (by decide +kernel), List.mem_of_getElem? (i := 825) (by decide +kernel)⟩
theorem lw_p18 : lw_okq (⟨"UnitAtlas$Search", "findMissing", "(LUnitAtlas$Text;I)Z"⟩, 8) := ⟨⟨by decide +kernel, by decide +kernel⟩, List.mem_of_getElem? (i := 164) (by decide +kernel), List.mem_of_getElem? (i := 829) (by decide +kernel), List.mem_of_getElem? (i := 830) (by decide +kernel)⟩
theorem lw_p19 : lw_okq (⟨"UnitAtlas$Search", "spellChosen", "(I)V"⟩, 8) := ⟨⟨by decide +kernel, by decide +kernel⟩, List.mem_of_getElem? (i := 164) (by decide +kernel), List.mem_of_getElem? (i := 833) (by decide +kernel), List.mem_of_getElem? (i := 834) (by decide +kernel)⟩
theorem lw_p20 : lw_okq (⟨"UnitAtlas$Search", "chooseNext", "(I)Z"⟩, 8) := ⟨⟨by decide +kernel, by decide +kernel⟩, List.mem_of_getElem? (i := 164) (by decide +kernel), List.mem_of_getElem? (i := 839) (by decide +kernel), List.mem_of_getElem? (i := 840) (by decide +kernel)⟩
theorem lw_p21 : lw_okq (⟨"UnitAtlas$Patterns", "measureRests", "(LUnitAtlas$Text;)V"⟩, 3) := ⟨⟨by decide +kernel, by decide +kernel⟩, List.mem_of_getElem? (i := 213) (by decide +kernel), List.mem_of_getElem? (i := 851) (by decide +kernel), List.mem_of_getElem? (i := 852) (by decide +kernel)⟩
theorem lw_p22 : lw_okq (⟨"UnitAtlas$Patterns", "firstOfLeast", "(LUnitAtlas$Text;I)I"⟩, 3) := ⟨⟨by decide +kernel, by decide +kernel⟩, List.mem_of_getElem? (i := 213) (by decide +kernel), List.mem_of_getElem? (i := 855) (by decide +kernel), List.mem_of_getElem? (i := 856) (by decide +kernel)⟩
theorem lw_p23 : lw_okq (⟨"UnitAtlas", "stepsAtHand", "()LUnitAtlas$Steps;"⟩, 14) := ⟨⟨by decide +kernel, by decide +kernel⟩, List.mem_of_getElem? (i := 17) (by decide +kernel), List.mem_of_getElem? (i := 867) (by decide +kernel), List.mem_of_getElem? (i := 868) (by decide +kernel)⟩
theorem lw_p24 : lw_okq (⟨"UnitAtlas$Steps", "measureDistances", "(LUnitAtlas$Text;LUnitAtlas$Text;)V"⟩, 1) := ⟨⟨by decide +kernel, by decide +kernel⟩, List.mem_of_getElem? (i := 871) (by decide +kernel), List.mem_of_getElem? (i := 886) (by decide +kernel), List.mem_of_getElem? (i := 887) (by decide +kernel)⟩
theorem lw_p25 : lw_okq (⟨"UnitAtlas$Steps", "measureDistancesFrom", "(IILUnitAtlas$Text;)V"⟩, 1) := ⟨⟨by decide +kernel, by decide +kernel⟩, List.mem_of_getElem? (i := 871) (by decide +kernel), List.mem_of_getElem? (i := 890) (by decide +kernel), List.mem_of_getElem? (i := 891) (by decide +kernel)⟩
theorem lw_p26 : lw_okq (⟨"UnitAtlas$Steps", "wayOn", "(LUnitAtlas$Text;ILUnitAtlas$Text;I)I"⟩, 1) := ⟨⟨by decide +kernel, by decide +kernel⟩, List.mem_of_getElem? (i := 871) (by decide +kernel), List.mem_of_getElem? (i := 898) (by decide +kernel), List.mem_of_getElem? (i := 899) (by decide +kernel)⟩
theorem lw_p27 : lw_okq (⟨"UnitAtlas$Steps", "measurePairs", "(LUnitAtlas$Text;LUnitAtlas$Text;)V"⟩, 1) := ⟨⟨by decide +kernel, by decide +kernel⟩, List.mem_of_getElem? (i := 871) (by decide +kernel), List.mem_of_getElem? (i := 915) (by decide +kernel), List.mem_of_getElem? (i := 916) (by decide +kernel)⟩
theorem lw_p28 : lw_okq (⟨"UnitAtlas$Steps", "measurePairsFrom", "(IILUnitAtlas$Text;)V"⟩, 1) := ⟨⟨by decide +kernel, by decide +kernel⟩, List.mem_of_getElem? (i := 871) (by decide +kernel), List.mem_of_getElem? (i := 919) (by decide +kernel), List.mem_of_getElem? (i := 920) (by decide +kernel)⟩
theorem lw_p29 : lw_okq (⟨"UnitAtlas$Squeezer", "pressByCopies", "(LUnitAtlas$Text;)V"⟩, 4) := ⟨⟨by decide +kernel, by decide +kernel⟩, List.mem_of_getElem? (i := 232) (by decide +kernel), List.mem_of_getElem? (i := 937) (by decide +kernel), List.mem_of_getElem? (i := 938) (by decide +kernel)⟩
theorem lw_p30 : lw_okq (⟨"UnitAtlas$Squeezer", "pressByPhrases", "(LUnitAtlas$Text;)V"⟩, 4) := ⟨⟨by decide +kernel, by decide +kernel⟩, List.mem_of_getElem? (i := 232) (by decide +kernel), List.mem_of_getElem? (i := 945) (by decide +kernel), List.mem_of_getElem? (i := 946) (by decide +kernel)⟩
theorem lw_p31 : lw_okq (⟨"UnitAtlas$Squeezer", "unfoldCopy", "(LUnitAtlas$Text;I)V"⟩, 4) := ⟨⟨by decide +kernel, by decide +kernel⟩, List.mem_of_getElem? (i := 232) (by decide +kernel), List.mem_of_getElem? (i := 962) (by decide +kernel), List.mem_of_getElem? (i := 963) (by decide +kernel)⟩
def lw_privs_2 : List (MethodName × Nat) := [(⟨"UnitAtlas$Suffixes", "sharedAt", "(I)I"⟩, 15), (⟨"UnitAtlas$Search", "gatherLetters", "(LUnitAtlas$Text;)V"⟩, 8), (⟨"UnitAtlas$Search", "findMissing", "(LUnitAtlas$Text;I)Z"⟩, 8), (⟨"UnitAtlas$Search", "spellChosen", "(I)V"⟩, 8), (⟨"UnitAtlas$Search", "chooseNext", "(I)Z"⟩, 8), (⟨"UnitAtlas$Patterns", "measureRests", "(LUnitAtlas$Text;)V"⟩, 3), (⟨"UnitAtlas$Patterns", "firstOfLeast", "(LUnitAtlas$Text;I)I"⟩, 3), (⟨"UnitAtlas", "stepsAtHand", "()LUnitAtlas$Steps;"⟩, 14), (⟨"UnitAtlas$Steps", "measureDistances", "(LUnitAtlas$Text;LUnitAtlas$Text;)V"⟩, 1), (⟨"UnitAtlas$Steps", "measureDistancesFrom", "(IILUnitAtlas$Text;)V"⟩, 1), (⟨"UnitAtlas$Steps", "wayOn", "(LUnitAtlas$Text;ILUnitAtlas$Text;I)I"⟩, 1), (⟨"UnitAtlas$Steps", "measurePairs", "(LUnitAtlas$Text;LUnitAtlas$Text;)V"⟩, 1), (⟨"UnitAtlas$Steps", "measurePairsFrom", "(IILUnitAtlas$Text;)V"⟩, 1), (⟨"UnitAtlas$Squeezer", "pressByCopies", "(LUnitAtlas$Text;)V"⟩, 4), (⟨"UnitAtlas$Squeezer", "pressByPhrases", "(LUnitAtlas$Text;)V"⟩, 4), (⟨"UnitAtlas$Squeezer", "unfoldCopy", "(LUnitAtlas$Text;I)V"⟩, 4)]
theorem lw_r2 : ∀ q ∈ lw_privs_2, lw_okq q := List.forall_mem_cons.mpr ⟨lw_p16, List.forall_mem_cons.mpr ⟨lw_p17, List.forall_mem_cons.mpr ⟨lw_p18, List.forall_mem_cons.mpr ⟨lw_p19, List.forall_mem_cons.mpr ⟨lw_p20, List.forall_mem_cons.mpr ⟨lw_p21, List.forall_mem_cons.mpr ⟨lw_p22, List.forall_mem_cons.mpr ⟨lw_p23, List.forall_mem_cons.mpr ⟨lw_p24, List.forall_mem_cons.mpr ⟨lw_p25, List.forall_mem_cons.mpr ⟨lw_p26, List.forall_mem_cons.mpr ⟨lw_p27, List.forall_mem_cons.mpr ⟨lw_p28, List.forall_mem_cons.mpr ⟨lw_p29, List.forall_mem_cons.mpr ⟨lw_p30, List.forall_mem_cons.mpr ⟨lw_p31, fun _ h => absurd h List.not_mem_nil⟩⟩⟩⟩⟩⟩⟩⟩⟩⟩⟩⟩⟩⟩⟩⟩
theorem lw_p32 : lw_okq (⟨"UnitAtlas$Squeezer", "unfoldPhrase", "(LUnitAtlas$Text;I)V"⟩, 4) := ⟨⟨by decide +kernel, by decide +kernel⟩, List.mem_of_getElem? (i := 232) (by decide +kernel), List.mem_of_getElem? (i := 969) (by decide +kernel), List.mem_of_getElem? (i := 970) (by decide +kernel)⟩
theorem lw_p33 : lw_okq (⟨"UnitAtlas$Sorter", "addLast", "(LUnitAtlas$Text;I)V"⟩, 2) := ⟨⟨by decide +kernel, by decide +kernel⟩, List.mem_of_getElem? (i := 277) (by decide +kernel), List.mem_of_getElem? (i := 983) (by decide +kernel), List.mem_of_getElem? (i := 984) (by decide +kernel)⟩
theorem lw_p34 : lw_okq (⟨"UnitAtlas$Sorter", "listTurned", "()V"⟩, 2) := ⟨⟨by decide +kernel, by decide +kernel⟩, List.mem_of_getElem? (i := 277) (by decide +kernel), List.mem_of_getElem? (i := 1003) (by decide +kernel), List.mem_of_getElem? (i := 1004) (by decide +kernel)⟩
theorem lw_p35 : lw_okq (⟨"UnitAtlasModel", "newText", "()I"⟩, 52) := ⟨⟨by decide +kernel, by decide +kernel⟩, List.mem_of_getElem? (i := 1021) (by decide +kernel), List.mem_of_getElem? (i := 1192) (by decide +kernel), List.mem_of_getElem? (i := 1193) (by decide +kernel)⟩
theorem lw_p36 : lw_okq (⟨"UnitAtlasModel", "keep", "(IZ)V"⟩, 52) := ⟨⟨by decide +kernel, by decide +kernel⟩, List.mem_of_getElem? (i := 1021) (by decide +kernel), List.mem_of_getElem? (i := 1196) (by decide +kernel), List.mem_of_getElem? (i := 1197) (by decide +kernel)⟩
theorem lw_p37 : lw_okq (⟨"UnitAtlasModel", "unit", "(II)I"⟩, 52) := ⟨⟨by decide +kernel, by decide +kernel⟩, List.mem_of_getElem? (i := 1021) (by decide +kernel), List.mem_of_getElem? (i := 1200) (by decide +kernel), List.mem_of_getElem? (i := 1201) (by decide +kernel)⟩
theorem lw_p38 : lw_okq (⟨"UnitAtlasModel", "isText", "(I)Z"⟩, 52) := ⟨⟨by decide +kernel, by decide +kernel⟩, List.mem_of_getElem? (i := 1021) (by decide +kernel), List.mem_of_getElem? (i := 1208) (by decide +kernel), List.mem_of_getElem? (i := 1209) (by decide +kernel)⟩
theorem lw_p39 : lw_okq (⟨"UnitAtlasModel", "put", "(II)V"⟩, 52) := ⟨⟨by decide +kernel, by decide +kernel⟩, List.mem_of_getElem? (i := 1021) (by decide +kernel), List.mem_of_getElem? (i := 1217) (by decide +kernel), List.mem_of_getElem? (i := 1218) (by decide +kernel)⟩
theorem lw_p40 : lw_okq (⟨"UnitAtlasModel", "isPart", "(III)Z"⟩, 52) := ⟨⟨by decide +kernel, by decide +kernel⟩, List.mem_of_getElem? (i := 1021) (by decide +kernel), List.mem_of_getElem? (i := 1234) (by decide +kernel), List.mem_of_getElem? (i := 1235) (by decide +kernel)⟩
theorem lw_p41 : lw_okq (⟨"UnitAtlasModel", "isPlace", "(II)Z"⟩, 52) := ⟨⟨by decide +kernel, by decide +kernel⟩, List.mem_of_getElem? (i := 1021) (by decide +kernel), List.mem_of_getElem? (i := 1262) (by decide +kernel), List.mem_of_getElem? (i := 1263) (by decide +kernel)⟩
theorem lw_p42 : lw_okq (⟨"UnitAtlasModel", "isPair", "(II)Z"⟩, 52) := ⟨⟨by decide +kernel, by decide +kernel⟩, List.mem_of_getElem? (i := 1021) (by decide +kernel), List.mem_of_getElem? (i := 1274) (by decide +kernel), List.mem_of_getElem? (i := 1275) (by decide +kernel)⟩
theorem lw_p43 : lw_okq (⟨"UnitAtlasModel", "pointFrom", "(II)I"⟩, 52) := ⟨⟨by decide +kernel, by decide +kernel⟩, List.mem_of_getElem? (i := 1021) (by decide +kernel), List.mem_of_getElem? (i := 1286) (by decide +kernel), List.mem_of_getElem? (i := 1287) (by decide +kernel)⟩
theorem lw_p44 : lw_okq (⟨"UnitAtlasModel", "orders", "(I)V"⟩, 52) := ⟨⟨by decide +kernel, by decide +kernel⟩, List.mem_of_getElem? (i := 1021) (by decide +kernel), List.mem_of_getElem? (i := 1306) (by decide +kernel), List.mem_of_getElem? (i := 1307) (by decide +kernel)⟩
theorem lw_p45 : lw_okq (⟨"UnitAtlasModel", "look", "(II)V"⟩, 52) := ⟨⟨by decide +kernel, by decide +kernel⟩, List.mem_of_getElem? (i := 1021) (by decide +kernel), List.mem_of_getElem? (i := 1310) (by decide +kernel), List.mem_of_getElem? (i := 1311) (by decide +kernel)⟩
theorem lw_p46 : lw_okq (⟨"UnitAtlasModel", "rankOf", "(II)I"⟩, 52) := ⟨⟨by decide +kernel, by decide +kernel⟩, List.mem_of_getElem? (i := 1021) (by decide +kernel), List.mem_of_getElem? (i := 1314) (by decide +kernel), List.mem_of_getElem? (i := 1315) (by decide +kernel)⟩
theorem lw_p47 : lw_okq (⟨"UnitAtlasModel", "isLess", "(III)Z"⟩, 52) := ⟨⟨by decide +kernel, by decide +kernel⟩, List.mem_of_getElem? (i := 1021) (by decide +kernel), List.mem_of_getElem? (i := 1318) (by decide +kernel), List.mem_of_getElem? (i := 1319) (by decide +kernel)⟩
def lw_privs_3 : List (MethodName × Nat) := [(⟨"UnitAtlas$Squeezer", "unfoldPhrase", "(LUnitAtlas$Text;I)V"⟩, 4), (⟨"UnitAtlas$Sorter", "addLast", "(LUnitAtlas$Text;I)V"⟩, 2), (⟨"UnitAtlas$Sorter", "listTurned", "()V"⟩, 2), (⟨"UnitAtlasModel", "newText", "()I"⟩, 52), (⟨"UnitAtlasModel", "keep", "(IZ)V"⟩, 52), (⟨"UnitAtlasModel", "unit", "(II)I"⟩, 52), (⟨"UnitAtlasModel", "isText", "(I)Z"⟩, 52), (⟨"UnitAtlasModel", "put", "(II)V"⟩, 52), (⟨"UnitAtlasModel", "isPart", "(III)Z"⟩, 52), (⟨"UnitAtlasModel", "isPlace", "(II)Z"⟩, 52), (⟨"UnitAtlasModel", "isPair", "(II)Z"⟩, 52), (⟨"UnitAtlasModel", "pointFrom", "(II)I"⟩, 52), (⟨"UnitAtlasModel", "orders", "(I)V"⟩, 52), (⟨"UnitAtlasModel", "look", "(II)V"⟩, 52), (⟨"UnitAtlasModel", "rankOf", "(II)I"⟩, 52), (⟨"UnitAtlasModel", "isLess", "(III)Z"⟩, 52)]
theorem lw_r3 : ∀ q ∈ lw_privs_3, lw_okq q := List.forall_mem_cons.mpr ⟨lw_p32, List.forall_mem_cons.mpr ⟨lw_p33, List.forall_mem_cons.mpr ⟨lw_p34, List.forall_mem_cons.mpr ⟨lw_p35, List.forall_mem_cons.mpr ⟨lw_p36, List.forall_mem_cons.mpr ⟨lw_p37, List.forall_mem_cons.mpr ⟨lw_p38, List.forall_mem_cons.mpr ⟨lw_p39, List.forall_mem_cons.mpr ⟨lw_p40, List.forall_mem_cons.mpr ⟨lw_p41, List.forall_mem_cons.mpr ⟨lw_p42, List.forall_mem_cons.mpr ⟨lw_p43, List.forall_mem_cons.mpr ⟨lw_p44, List.forall_mem_cons.mpr ⟨lw_p45, List.forall_mem_cons.mpr ⟨lw_p46, List.forall_mem_cons.mpr ⟨lw_p47, fun _ h => absurd h List.not_mem_nil⟩⟩⟩⟩⟩⟩⟩⟩⟩⟩⟩⟩⟩⟩⟩⟩
theorem lw_p48 : lw_okq (⟨"UnitAtlasModel", "place", "(IIIII)I"⟩, 52) := ⟨⟨by decide +kernel, by decide +kernel⟩, List.mem_of_getElem? (i := 1021) (by decide +kernel), List.mem_of_getElem? (i := 1338) (by decide +kernel), List.mem_of_getElem? (i := 1339) (by decide +kernel)⟩
theorem lw_p49 : lw_okq (⟨"UnitAtlasModel", "stands", "(IIIII)Z"⟩, 52) := ⟨⟨by decide +kernel, by decide +kernel⟩, List.mem_of_getElem? (i := 1021) (by decide +kernel), List.mem_of_getElem? (i := 1342) (by decide +kernel), List.mem_of_getElem? (i := 1343) (by decide +kernel)⟩
theorem lw_p50 : lw_okq (⟨"UnitAtlasModel", "occurs", "(III)Z"⟩, 52) := ⟨⟨by decide +kernel, by decide +kernel⟩, List.mem_of_getElem? (i := 1021) (by decide +kernel), List.mem_of_getElem? (i := 1368) (by decide +kernel), List.mem_of_getElem? (i := 1369) (by decide +kernel)⟩
theorem lw_p51 : lw_okq (⟨"UnitAtlasModel", "rankAll", "()V"⟩, 52) := ⟨⟨by decide +kernel, by decide +kernel⟩, List.mem_of_getElem? (i := 1021) (by decide +kernel), List.mem_of_getElem? (i := 1397) (by decide +kernel), List.mem_of_getElem? (i := 1398) (by decide +kernel)⟩
theorem lw_p52 : lw_okq (⟨"UnitAtlasModel", "byKey", "([I[III)V"⟩, 52) := ⟨⟨by decide +kernel, by decide +kernel⟩, List.mem_of_getElem? (i := 1021) (by decide +kernel), List.mem_of_getElem? (i := 1401) (by decide +kernel), List.mem_of_getElem? (i := 1402) (by decide +kernel)⟩
theorem lw_p53 : lw_okq (⟨"UnitAtlasModel", "bySize", "(II)I"⟩, 52) := ⟨⟨by decide +kernel, by decide +kernel⟩, List.mem_of_getElem? (i := 1021) (by decide +kernel), List.mem_of_getElem? (i := 1405) (by decide +kernel), List.mem_of_getElem? (i := 1406) (by decide +kernel)⟩
theorem lw_p54 : lw_okq (⟨"UnitAtlasModel", "isSame", "(IIII)Z"⟩, 52) := ⟨⟨by decide +kernel, by decide +kernel⟩, List.mem_of_getElem? (i := 1021) (by decide +kernel), List.mem_of_getElem? (i := 1409) (by decide +kernel), List.mem_of_getElem? (i := 1410) (by decide +kernel)⟩
theorem lw_p55 : lw_okq (⟨"UnitAtlasModel", "manyOf", "(II)I"⟩, 52) := ⟨⟨by decide +kernel, by decide +kernel⟩, List.mem_of_getElem? (i := 1021) (by decide +kernel), List.mem_of_getElem? (i := 1413) (by decide +kernel), List.mem_of_getElem? (i := 1414) (by decide +kernel)⟩
theorem lw_p56 : lw_okq (⟨"UnitAtlasModel", "periodOf", "(II)I"⟩, 52) := ⟨⟨by decide +kernel, by decide +kernel⟩, List.mem_of_getElem? (i := 1021) (by decide +kernel), List.mem_of_getElem? (i := 1421) (by decide +kernel), List.mem_of_getElem? (i := 1422) (by decide +kernel)⟩
theorem lw_p57 : lw_okq (⟨"UnitAtlasModel", "around", "(II)I"⟩, 52) := ⟨⟨by decide +kernel, by decide +kernel⟩, List.mem_of_getElem? (i := 1021) (by decide +kernel), List.mem_of_getElem? (i := 1445) (by decide +kernel), List.mem_of_getElem? (i := 1446) (by decide +kernel)⟩
theorem lw_p58 : lw_okq (⟨"UnitAtlasModel", "turned", "(II)I"⟩, 52) := ⟨⟨by decide +kernel, by decide +kernel⟩, List.mem_of_getElem? (i := 1021) (by decide +kernel), List.mem_of_getElem? (i := 1457) (by decide +kernel), List.mem_of_getElem? (i := 1458) (by decide +kernel)⟩
theorem lw_p59 : lw_okq (⟨"UnitAtlasModel", "elsewhere", "(IIZ)I"⟩, 52) := ⟨⟨by decide +kernel, by decide +kernel⟩, List.mem_of_getElem? (i := 1021) (by decide +kernel), List.mem_of_getElem? (i := 1469) (by decide +kernel), List.mem_of_getElem? (i := 1470) (by decide +kernel)⟩
theorem lw_p60 : lw_okq (⟨"UnitAtlasModel", "uniqueFrom", "(II)I"⟩, 52) := ⟨⟨by decide +kernel, by decide +kernel⟩, List.mem_of_getElem? (i := 1021) (by decide +kernel), List.mem_of_getElem? (i := 1481) (by decide +kernel), List.mem_of_getElem? (i := 1482) (by decide +kernel)⟩
theorem lw_p61 : lw_okq (⟨"UnitAtlasModel", "signsOf", "(I)V"⟩, 52) := ⟨⟨by decide +kernel, by decide +kernel⟩, List.mem_of_getElem? (i := 1021) (by decide +kernel), List.mem_of_getElem? (i := 1493) (by decide +kernel), List.mem_of_getElem? (i := 1494) (by decide +kernel)⟩
theorem lw_p62 : lw_okq (⟨"UnitAtlasModel", "beginning", "(III)I"⟩, 52) := ⟨⟨by decide +kernel, by decide +kernel⟩, List.mem_of_getElem? (i := 1021) (by decide +kernel), List.mem_of_getElem? (i := 1497) (by decide +kernel), List.mem_of_getElem? (i := 1498) (by decide +kernel)⟩
theorem lw_p63 : lw_okq (⟨"UnitAtlasModel", "power", "(I)I"⟩, 52) := ⟨⟨by decide +kernel, by decide +kernel⟩, List.mem_of_getElem? (i := 1021) (by decide +kernel), List.mem_of_getElem? (i := 1501) (by decide +kernel), List.mem_of_getElem? (i := 1502) (by decide +kernel)⟩
def lw_privs_4 : List (MethodName × Nat) := [(⟨"UnitAtlasModel", "place", "(IIIII)I"⟩, 52), (⟨"UnitAtlasModel", "stands", "(IIIII)Z"⟩, 52), (⟨"UnitAtlasModel", "occurs", "(III)Z"⟩, 52), (⟨"UnitAtlasModel", "rankAll", "()V"⟩, 52), (⟨"UnitAtlasModel", "byKey", "([I[III)V"⟩, 52), (⟨"UnitAtlasModel", "bySize", "(II)I"⟩, 52), (⟨"UnitAtlasModel", "isSame", "(IIII)Z"⟩, 52), (⟨"UnitAtlasModel", "manyOf", "(II)I"⟩, 52), (⟨"UnitAtlasModel", "periodOf", "(II)I"⟩, 52), (⟨"UnitAtlasModel", "around", "(II)I"⟩, 52), (⟨"UnitAtlasModel", "turned", "(II)I"⟩, 52), (⟨"UnitAtlasModel", "elsewhere", "(IIZ)I"⟩, 52), (⟨"UnitAtlasModel", "uniqueFrom", "(II)I"⟩, 52), (⟨"UnitAtlasModel", "signsOf", "(I)V"⟩, 52), (⟨"UnitAtlasModel", "beginning", "(III)I"⟩, 52), (⟨"UnitAtlasModel", "power", "(I)I"⟩, 52)]
theorem lw_r4 : ∀ q ∈ lw_privs_4, lw_okq q := List.forall_mem_cons.mpr ⟨lw_p48, List.forall_mem_cons.mpr ⟨lw_p49, List.forall_mem_cons.mpr ⟨lw_p50, List.forall_mem_cons.mpr ⟨lw_p51, List.forall_mem_cons.mpr ⟨lw_p52, List.forall_mem_cons.mpr ⟨lw_p53, List.forall_mem_cons.mpr ⟨lw_p54, List.forall_mem_cons.mpr ⟨lw_p55, List.forall_mem_cons.mpr ⟨lw_p56, List.forall_mem_cons.mpr ⟨lw_p57, List.forall_mem_cons.mpr ⟨lw_p58, List.forall_mem_cons.mpr ⟨lw_p59, List.forall_mem_cons.mpr ⟨lw_p60, List.forall_mem_cons.mpr ⟨lw_p61, List.forall_mem_cons.mpr ⟨lw_p62, List.forall_mem_cons.mpr ⟨lw_p63, fun _ h => absurd h List.not_mem_nil⟩⟩⟩⟩⟩⟩⟩⟩⟩⟩⟩⟩⟩⟩⟩⟩
theorem lw_p64 : lw_okq (⟨"UnitAtlasModel", "squeezeCopies", "(I)V"⟩, 52) := ⟨⟨by decide +kernel, by decide +kernel⟩, List.mem_of_getElem? (i := 1021) (by decide +kernel), List.mem_of_getElem? (i := 1528) (by decide +kernel), List.mem_of_getElem? (i := 1529) (by decide +kernel)⟩
theorem lw_p65 : lw_okq (⟨"UnitAtlasModel", "item", "(III)V"⟩, 52) := ⟨⟨by decide +kernel, by decide +kernel⟩, List.mem_of_getElem? (i := 1021) (by decide +kernel), List.mem_of_getElem? (i := 1532) (by decide +kernel), List.mem_of_getElem? (i := 1533) (by decide +kernel)⟩
theorem lw_p66 : lw_okq (⟨"UnitAtlasModel", "squeezePhrases", "(I)V"⟩, 52) := ⟨⟨by decide +kernel, by decide +kernel⟩, List.mem_of_getElem? (i := 1021) (by decide +kernel), List.mem_of_getElem? (i := 1536) (by decide +kernel), List.mem_of_getElem? (i := 1537) (by decide +kernel)⟩
theorem lw_p67 : lw_okq (⟨"UnitAtlasModel", "putPhrase", "(II)V"⟩, 52) := ⟨⟨by decide +kernel, by decide +kernel⟩, List.mem_of_getElem? (i := 1021) (by decide +kernel), List.mem_of_getElem? (i := 1548) (by decide +kernel), List.mem_of_getElem? (i := 1549) (by decide +kernel)⟩
def lw_privs_5 : List (MethodName × Nat) := [(⟨"UnitAtlasModel", "squeezeCopies", "(I)V"⟩, 52), (⟨"UnitAtlasModel", "item", "(III)V"⟩, 52), (⟨"UnitAtlasModel", "squeezePhrases", "(I)V"⟩, 52), (⟨"UnitAtlasModel", "putPhrase", "(II)V"⟩, 52)]
theorem lw_r5 : ∀ q ∈ lw_privs_5, lw_okq q := List.forall_mem_cons.mpr ⟨lw_p64, List.forall_mem_cons.mpr ⟨lw_p65, List.forall_mem_cons.mpr ⟨lw_p66, List.forall_mem_cons.mpr ⟨lw_p67, fun _ h => absurd h List.not_mem_nil⟩⟩⟩⟩
def lw_privs : List (MethodName × Nat) := lw_privs_1 ++ (lw_privs_2 ++ (lw_privs_3 ++ (lw_privs_4 ++ (lw_privs_5))))
def lw_tbl : List Cond := k2_sels lw_privs ++ tables_1
theorem lw_privs_ok : ∀ q ∈ lw_privs, lw_okq q := by
  show ∀ q ∈ lw_privs_1 ++ (lw_privs_2 ++ (lw_privs_3 ++ (lw_privs_4 ++ (lw_privs_5)))), lw_okq q
  exact List.forall_mem_append.mpr ⟨lw_r1, List.forall_mem_append.mpr ⟨lw_r2, List.forall_mem_append.mpr ⟨lw_r3, List.forall_mem_append.mpr ⟨lw_r4, lw_r5⟩⟩⟩⟩
end
section
theorem goodIn_r {big : List Cond} (ws : List Cond) (ps : List Nat) (hp : ws = ps.filterMap (fun i => big[i]?)) (h : ws.all goodWord = true) : GoodIn big ws := by
  intro w hw
  have h1 := List.all_eq_true.mp h w hw
  rw [hp] at hw
  obtain ⟨i, -, hi⟩ := List.mem_filterMap.mp hw
  have hm : w ∈ big := by first | exact List.mem_of_getElem? hi | exact List.getElem?_mem hi
  exact ⟨hm, good_of_word h1⟩
theorem goodIn_app {big a b : List Cond} (ha : GoodIn big a) (hb : GoodIn big b) : GoodIn big (a ++ b) := fun w h => (List.mem_append.mp h).elim (ha w) (hb w)
theorem goodIn_ca {big a b : List Cond} {c : Cond} (ha : GoodIn big (c :: a)) (hb : GoodIn big b) : GoodIn big (c :: (a ++ b)) := fun w h => (List.mem_cons.mp h).elim (fun e => ha w (List.mem_cons.mpr (Or.inl e))) (fun h => (List.mem_append.mp h).elim (fun h => ha w (List.mem_cons.mpr (Or.inr h))) (hb w))
theorem goodIn_sub {big ws : List Cond} (hm : ∀ w ∈ ws, w ∈ big) (h : ws.all goodWord = true) : GoodIn big ws := fun w hw => ⟨hm w hw, good_of_word (List.all_eq_true.mp h w hw)⟩
def RX0 : String := "UnitAtlas$Forms"
def TX0 : u_T := fun k => match k with
  | 0 => ("UnitAtlas$Forms", "edge", "[I", true)
  | _ => ("UnitAtlas$Forms", "least", "[I", true)
def tyX0 : Nat → FieldType := fun k => match k with
  | 0 => .array .int
  | _ => .array .int
theorem nmX0 : ∀ a, a < 2 → ∀ b, b < 2 → a ≠ b → (TX0 a).2.1 ≠ (TX0 b).2.1 := by decide +kernel
theorem tyX0_ok : ∀ k, k < 2 → parseFieldDescriptor (TX0 k).2.2.1 = some (tyX0 k) := by decide +kernel
abbrev cX0_init : ByteArray := prog_2_method_1_code
def yX0_init : MethodName := ⟨RX0, "<init>", "()V"⟩
abbrev cX0_edgeOf : ByteArray := prog_2_method_2_code
def yX0_edgeOf : MethodName := ⟨RX0, "edgeOf", "(LUnitAtlas$Text;II)I"⟩
abbrev cX0_squaresIn : ByteArray := prog_2_method_3_code
def yX0_squaresIn : MethodName := ⟨RX0, "squaresIn", "(LUnitAtlas$Text;)I"⟩
abbrev cX0_tellRuns : ByteArray := prog_2_method_4_code
def yX0_tellRuns : MethodName := ⟨RX0, "tellRuns", "(LUnitAtlas$Text;LUnitAtlas$Told;)V"⟩
abbrev cX0_tellIfRun : ByteArray := prog_2_method_5_code
def yX0_tellIfRun : MethodName := ⟨RX0, "tellIfRun", "(IIILUnitAtlas$Told;)V"⟩
abbrev cX0_mirroredAround : ByteArray := prog_2_method_6_code
def yX0_mirroredAround : MethodName := ⟨RX0, "mirroredAround", "(LUnitAtlas$Text;I)I"⟩
abbrev cX0_leastMirrored : ByteArray := prog_2_method_7_code
def yX0_leastMirrored : MethodName := ⟨RX0, "leastMirrored", "(LUnitAtlas$Text;)I"⟩
abbrev cX0_leastTurn : ByteArray := prog_2_method_8_code
def yX0_leastTurn : MethodName := ⟨RX0, "leastTurn", "(LUnitAtlas$Text;)I"⟩
abbrev cX0_turnIsLess : ByteArray := prog_2_method_9_code
def yX0_turnIsLess : MethodName := ⟨RX0, "turnIsLess", "(LUnitAtlas$Text;II)Z"⟩
def RX1 : String := "UnitAtlas$Kept"
def TX1 : u_T := fun k => match k with
  | 0 => ("UnitAtlas$Kept", "before", "LUnitAtlas$Text;", true)
  | 1 => ("UnitAtlas$Kept", "text", "I", false)
  | _ => ("UnitAtlas$Kept", "made", "Z", false)
def tyX1 : Nat → FieldType := fun k => match k with
  | 0 => .object "UnitAtlas$Text"
  | 1 => .int
  | _ => .boolean
theorem nmX1 : ∀ a, a < 3 → ∀ b, b < 3 → a ≠ b → (TX1 a).2.1 ≠ (TX1 b).2.1 := by decide +kernel
theorem tyX1_ok : ∀ k, k < 3 → parseFieldDescriptor (TX1 k).2.2.1 = some (tyX1 k) := by decide +kernel
abbrev cX1_init : ByteArray := prog_3_method_1_code
def yX1_init : MethodName := ⟨RX1, "<init>", "()V"⟩
def RX2 : String := "UnitAtlas$Patterns"
def TX2 : u_T := fun k => match k with
  | 0 => ("UnitAtlas$Patterns", "kept", "[LUnitAtlas$Text;", true)
  | 1 => ("UnitAtlas$Patterns", "least", "[I", true)
  | _ => ("UnitAtlas$Patterns", "taken", "I", false)
def tyX2 : Nat → FieldType := fun k => match k with
  | 0 => .array (.object "UnitAtlas$Text")
  | 1 => .array .int
  | _ => .int
theorem nmX2 : ∀ a, a < 3 → ∀ b, b < 3 → a ≠ b → (TX2 a).2.1 ≠ (TX2 b).2.1 := by decide +kernel
theorem tyX2_ok : ∀ k, k < 3 → parseFieldDescriptor (TX2 k).2.2.1 = some (tyX2 k) := by decide +kernel
abbrev cX2_init : ByteArray := prog_4_method_1_code
def yX2_init : MethodName := ⟨RX2, "<init>", "()V"⟩
abbrev cX2_take : ByteArray := prog_4_method_2_code
def yX2_take : MethodName := ⟨RX2, "take", "(LUnitAtlas$Text;)I"⟩
abbrev cX2_tellMatches : ByteArray := prog_4_method_3_code
def yX2_tellMatches : MethodName := ⟨RX2, "tellMatches", "(LUnitAtlas$Text;LUnitAtlas$Told;)V"⟩
abbrev cX2_tellCover : ByteArray := prog_4_method_4_code
def yX2_tellCover : MethodName := ⟨RX2, "tellCover", "(LUnitAtlas$Text;LUnitAtlas$Told;)Z"⟩
abbrev cX2_measureRests : ByteArray := prog_4_method_5_code
def yX2_measureRests : MethodName := ⟨RX2, "measureRests", "(LUnitAtlas$Text;)V"⟩
abbrev cX2_firstOfLeast : ByteArray := prog_4_method_6_code
def yX2_firstOfLeast : MethodName := ⟨RX2, "firstOfLeast", "(LUnitAtlas$Text;I)I"⟩
def RX3 : String := "UnitAtlas$Search"
def TX3 : u_T := fun k => match k with
  | 0 => ("UnitAtlas$Search", "same", "[I", true)
  | 1 => ("UnitAtlas$Search", "letters", "[I", true)
  | 2 => ("UnitAtlas$Search", "chosen", "[I", true)
  | 3 => ("UnitAtlas$Search", "missing", "LUnitAtlas$Text;", true)
  | 4 => ("UnitAtlas$Search", "many", "I", false)
  | 5 => ("UnitAtlas$Search", "sharedSize", "I", false)
  | 6 => ("UnitAtlas$Search", "sharedHere", "I", false)
  | _ => ("UnitAtlas$Search", "sharedThere", "I", false)
def tyX3 : Nat → FieldType := fun k => match k with
  | 0 => .array .int
  | 1 => .array .int
  | 2 => .array .int
  | 3 => .object "UnitAtlas$Text"
  | 4 => .int
  | 5 => .int
  | 6 => .int
  | _ => .int
theorem nmX3 : ∀ a, a < 8 → ∀ b, b < 8 → a ≠ b → (TX3 a).2.1 ≠ (TX3 b).2.1 := by decide +kernel
theorem tyX3_ok : ∀ k, k < 8 → parseFieldDescriptor (TX3 k).2.2.1 = some (tyX3 k) := by decide +kernel
abbrev cX3_init : ByteArray := prog_5_method_1_code
def yX3_init : MethodName := ⟨RX3, "<init>", "()V"⟩
abbrev cX3_fits : ByteArray := prog_5_method_2_code
def yX3_fits : MethodName := ⟨RX3, "fits", "(LUnitAtlas$Text;ILUnitAtlas$Text;II)Z"⟩
abbrev cX3_placeOf : ByteArray := prog_5_method_3_code
def yX3_placeOf : MethodName := ⟨RX3, "placeOf", "(LUnitAtlas$Text;LUnitAtlas$Text;III)I"⟩
abbrev cX3_placesOf : ByteArray := prog_5_method_4_code
def yX3_placesOf : MethodName := ⟨RX3, "placesOf", "(LUnitAtlas$Text;LUnitAtlas$Text;)I"⟩
abbrev cX3_measureShared : ByteArray := prog_5_method_5_code
def yX3_measureShared : MethodName := ⟨RX3, "measureShared", "(LUnitAtlas$Text;LUnitAtlas$Text;)V"⟩
abbrev cX3_missingIn : ByteArray := prog_5_method_6_code
def yX3_missingIn : MethodName := ⟨RX3, "missingIn", "(LUnitAtlas$Text;)LUnitAtlas$Text;"⟩
abbrev cX3_gatherLetters : ByteArray := prog_5_method_7_code
def yX3_gatherLetters : MethodName := ⟨RX3, "gatherLetters", "(LUnitAtlas$Text;)V"⟩
abbrev cX3_findMissing : ByteArray := prog_5_method_8_code
def yX3_findMissing : MethodName := ⟨RX3, "findMissing", "(LUnitAtlas$Text;I)Z"⟩
abbrev cX3_spellChosen : ByteArray := prog_5_method_9_code
def yX3_spellChosen : MethodName := ⟨RX3, "spellChosen", "(I)V"⟩
abbrev cX3_chooseNext : ByteArray := prog_5_method_10_code
def yX3_chooseNext : MethodName := ⟨RX3, "chooseNext", "(I)Z"⟩
def RX4 : String := "UnitAtlas$Shelf"
def TX4 : u_T := fun k => match k with
  | 0 => ("UnitAtlas$Shelf", "texts", "[LUnitAtlas$Text;", true)
  | 1 => ("UnitAtlas$Shelf", "kept", "[LUnitAtlas$Kept;", true)
  | 2 => ("UnitAtlas$Shelf", "made", "I", false)
  | 3 => ("UnitAtlas$Shelf", "oldest", "I", false)
  | 4 => ("UnitAtlas$Shelf", "changes", "I", false)
  | _ => ("UnitAtlas$Shelf", "stamp", "I", false)
def tyX4 : Nat → FieldType := fun k => match k with
  | 0 => .array (.object "UnitAtlas$Text")
  | 1 => .array (.object "UnitAtlas$Kept")
  | 2 => .int
  | 3 => .int
  | 4 => .int
  | _ => .int
theorem nmX4 : ∀ a, a < 6 → ∀ b, b < 6 → a ≠ b → (TX4 a).2.1 ≠ (TX4 b).2.1 := by decide +kernel
theorem tyX4_ok : ∀ k, k < 6 → parseFieldDescriptor (TX4 k).2.2.1 = some (tyX4 k) := by decide +kernel
abbrev cX4_init : ByteArray := prog_6_method_1_code
def yX4_init : MethodName := ⟨RX4, "<init>", "()V"⟩
abbrev cX4_look : ByteArray := prog_6_method_2_code
def yX4_look : MethodName := ⟨RX4, "look", "(I)LUnitAtlas$Text;"⟩
abbrev cX4_isFull : ByteArray := prog_6_method_3_code
def yX4_isFull : MethodName := ⟨RX4, "isFull", "()Z"⟩
abbrev cX4_newest : ByteArray := prog_6_method_4_code
def yX4_newest : MethodName := ⟨RX4, "newest", "()I"⟩
abbrev cX4_open : ByteArray := prog_6_method_5_code
def yX4_open : MethodName := ⟨RX4, "open", "()LUnitAtlas$Text;"⟩
abbrev cX4_keep : ByteArray := prog_6_method_6_code
def yX4_keep : MethodName := ⟨RX4, "keep", "(I)V"⟩
abbrev cX4_nextKept : ByteArray := prog_6_method_7_code
def yX4_nextKept : MethodName := ⟨RX4, "nextKept", "()LUnitAtlas$Kept;"⟩
abbrev cX4_takeBack : ByteArray := prog_6_method_8_code
def yX4_takeBack : MethodName := ⟨RX4, "takeBack", "()Z"⟩
abbrev cX4_allUnits : ByteArray := prog_6_method_9_code
def yX4_allUnits : MethodName := ⟨RX4, "allUnits", "()I"⟩
def RX5 : String := "UnitAtlas$Sorter"
def TX5 : u_T := fun k => match k with
  | 0 => ("UnitAtlas$Sorter", "lastUnits", "LUnitAtlas$Told;", true)
  | _ => ("UnitAtlas$Sorter", "turnedOn", "[I", true)
def tyX5 : Nat → FieldType := fun k => match k with
  | 0 => .object "UnitAtlas$Told"
  | _ => .array .int
theorem nmX5 : ∀ a, a < 2 → ∀ b, b < 2 → a ≠ b → (TX5 a).2.1 ≠ (TX5 b).2.1 := by decide +kernel
theorem tyX5_ok : ∀ k, k < 2 → parseFieldDescriptor (TX5 k).2.2.1 = some (tyX5 k) := by decide +kernel
abbrev cX5_init : ByteArray := prog_7_method_1_code
def yX5_init : MethodName := ⟨RX5, "<init>", "()V"⟩
abbrev cX5_arrange : ByteArray := prog_7_method_2_code
def yX5_arrange : MethodName := ⟨RX5, "arrange", "(LUnitAtlas$Text;LUnitAtlas$Suffixes;)I"⟩
abbrev cX5_addLast : ByteArray := prog_7_method_3_code
def yX5_addLast : MethodName := ⟨RX5, "addLast", "(LUnitAtlas$Text;I)V"⟩
abbrev cX5_restore : ByteArray := prog_7_method_4_code
def yX5_restore : MethodName := ⟨RX5, "restore", "(LUnitAtlas$Text;)V"⟩
abbrev cX5_listTurned : ByteArray := prog_7_method_5_code
def yX5_listTurned : MethodName := ⟨RX5, "listTurned", "()V"⟩
def RX6 : String := "UnitAtlas$Squeezer"
def TX6 : u_T := fun k => match k with
  | 0 => ("UnitAtlas$Squeezer", "items", "LUnitAtlas$Told;", true)
  | 1 => ("UnitAtlas$Squeezer", "phraseFrom", "[I", true)
  | 2 => ("UnitAtlas$Squeezer", "phraseTo", "[I", true)
  | _ => ("UnitAtlas$Squeezer", "way", "I", false)
def tyX6 : Nat → FieldType := fun k => match k with
  | 0 => .object "UnitAtlas$Told"
  | 1 => .array .int
  | 2 => .array .int
  | _ => .int
theorem nmX6 : ∀ a, a < 4 → ∀ b, b < 4 → a ≠ b → (TX6 a).2.1 ≠ (TX6 b).2.1 := by decide +kernel
theorem tyX6_ok : ∀ k, k < 4 → parseFieldDescriptor (TX6 k).2.2.1 = some (tyX6 k) := by decide +kernel
abbrev cX6_init : ByteArray := prog_8_method_1_code
def yX6_init : MethodName := ⟨RX6, "<init>", "()V"⟩
abbrev cX6_press : ByteArray := prog_8_method_2_code
def yX6_press : MethodName := ⟨RX6, "press", "(LUnitAtlas$Text;I)V"⟩
abbrev cX6_pressByCopies : ByteArray := prog_8_method_3_code
def yX6_pressByCopies : MethodName := ⟨RX6, "pressByCopies", "(LUnitAtlas$Text;)V"⟩
abbrev cX6_sameFrom : ByteArray := prog_8_method_4_code
def yX6_sameFrom : MethodName := ⟨RX6, "sameFrom", "(LUnitAtlas$Text;II)I"⟩
abbrev cX6_pressByPhrases : ByteArray := prog_8_method_5_code
def yX6_pressByPhrases : MethodName := ⟨RX6, "pressByPhrases", "(LUnitAtlas$Text;)V"⟩
abbrev cX6_unfold : ByteArray := prog_8_method_6_code
def yX6_unfold : MethodName := ⟨RX6, "unfold", "(LUnitAtlas$Text;)V"⟩
abbrev cX6_unfoldCopy : ByteArray := prog_8_method_7_code
def yX6_unfoldCopy : MethodName := ⟨RX6, "unfoldCopy", "(LUnitAtlas$Text;I)V"⟩
abbrev cX6_unfoldPhrase : ByteArray := prog_8_method_8_code
def yX6_unfoldPhrase : MethodName := ⟨RX6, "unfoldPhrase", "(LUnitAtlas$Text;I)V"⟩
def RX7 : String := "UnitAtlas$Steps"
def TX7 : u_T := fun k => match k with
  | _ => ("UnitAtlas$Steps", "ofRests", "[I", true)
def tyX7 : Nat → FieldType := fun k => match k with
  | _ => .array .int
theorem nmX7 : ∀ a, a < 1 → ∀ b, b < 1 → a ≠ b → (TX7 a).2.1 ≠ (TX7 b).2.1 := by decide +kernel
theorem tyX7_ok : ∀ k, k < 1 → parseFieldDescriptor (TX7 k).2.2.1 = some (tyX7 k) := by decide +kernel
abbrev cX7_init : ByteArray := prog_9_method_1_code
def yX7_init : MethodName := ⟨RX7, "<init>", "()V"⟩
abbrev cX7_tellScript : ByteArray := prog_9_method_2_code
def yX7_tellScript : MethodName := ⟨RX7, "tellScript", "(LUnitAtlas$Text;LUnitAtlas$Text;LUnitAtlas$Told;)V"⟩
abbrev cX7_isSame : ByteArray := prog_9_method_3_code
def yX7_isSame : MethodName := ⟨RX7, "isSame", "(LUnitAtlas$Text;ILUnitAtlas$Text;I)Z"⟩
abbrev cX7_measureDistances : ByteArray := prog_9_method_4_code
def yX7_measureDistances : MethodName := ⟨RX7, "measureDistances", "(LUnitAtlas$Text;LUnitAtlas$Text;)V"⟩
abbrev cX7_measureDistancesFrom : ByteArray := prog_9_method_5_code
def yX7_measureDistancesFrom : MethodName := ⟨RX7, "measureDistancesFrom", "(IILUnitAtlas$Text;)V"⟩
abbrev cX7_wayOn : ByteArray := prog_9_method_6_code
def yX7_wayOn : MethodName := ⟨RX7, "wayOn", "(LUnitAtlas$Text;ILUnitAtlas$Text;I)I"⟩
abbrev cX7_tellPairs : ByteArray := prog_9_method_7_code
def yX7_tellPairs : MethodName := ⟨RX7, "tellPairs", "(LUnitAtlas$Text;LUnitAtlas$Text;LUnitAtlas$Told;)V"⟩
abbrev cX7_measurePairs : ByteArray := prog_9_method_8_code
def yX7_measurePairs : MethodName := ⟨RX7, "measurePairs", "(LUnitAtlas$Text;LUnitAtlas$Text;)V"⟩
abbrev cX7_measurePairsFrom : ByteArray := prog_9_method_9_code
def yX7_measurePairsFrom : MethodName := ⟨RX7, "measurePairsFrom", "(IILUnitAtlas$Text;)V"⟩
def RX8 : String := "UnitAtlas$Suffixes"
def TX8 : u_T := fun k => match k with
  | 0 => ("UnitAtlas$Suffixes", "sign", "[I", true)
  | 1 => ("UnitAtlas$Suffixes", "owner", "[I", true)
  | 2 => ("UnitAtlas$Suffixes", "start", "[I", true)
  | 3 => ("UnitAtlas$Suffixes", "unitsEnd", "[I", true)
  | 4 => ("UnitAtlas$Suffixes", "mark", "[I", true)
  | 5 => ("UnitAtlas$Suffixes", "ordered", "[I", true)
  | 6 => ("UnitAtlas$Suffixes", "ranks", "[I", true)
  | 7 => ("UnitAtlas$Suffixes", "spare", "[I", true)
  | 8 => ("UnitAtlas$Suffixes", "tally", "[I", true)
  | 9 => ("UnitAtlas$Suffixes", "shared", "[I", true)
  | 10 => ("UnitAtlas$Suffixes", "size", "I", false)
  | 11 => ("UnitAtlas$Suffixes", "heldText", "I", false)
  | 12 => ("UnitAtlas$Suffixes", "heldStamp", "I", false)
  | 13 => ("UnitAtlas$Suffixes", "partFrom", "I", false)
  | _ => ("UnitAtlas$Suffixes", "partTo", "I", false)
def tyX8 : Nat → FieldType := fun k => match k with
  | 0 => .array .int
  | 1 => .array .int
  | 2 => .array .int
  | 3 => .array .int
  | 4 => .array .int
  | 5 => .array .int
  | 6 => .array .int
  | 7 => .array .int
  | 8 => .array .int
  | 9 => .array .int
  | 10 => .int
  | 11 => .int
  | 12 => .int
  | 13 => .int
  | _ => .int
theorem nmX8 : ∀ a, a < 15 → ∀ b, b < 15 → a ≠ b → (TX8 a).2.1 ≠ (TX8 b).2.1 := by decide +kernel
theorem tyX8_ok : ∀ k, k < 15 → parseFieldDescriptor (TX8 k).2.2.1 = some (tyX8 k) := by decide +kernel
abbrev cX8_init : ByteArray := prog_10_method_1_code
def yX8_init : MethodName := ⟨RX8, "<init>", "(I)V"⟩
abbrev cX8_holdOne : ByteArray := prog_10_method_2_code
def yX8_holdOne : MethodName := ⟨RX8, "holdOne", "(LUnitAtlas$Shelf;I)V"⟩
abbrev cX8_holdAll : ByteArray := prog_10_method_3_code
def yX8_holdAll : MethodName := ⟨RX8, "holdAll", "(LUnitAtlas$Shelf;)V"⟩
abbrev cX8_join : ByteArray := prog_10_method_4_code
def yX8_join : MethodName := ⟨RX8, "join", "(LUnitAtlas$Text;I)V"⟩
abbrev cX8_addSign : ByteArray := prog_10_method_5_code
def yX8_addSign : MethodName := ⟨RX8, "addSign", "(II)V"⟩
abbrev cX8_arrange : ByteArray := prog_10_method_6_code
def yX8_arrange : MethodName := ⟨RX8, "arrange", "()V"⟩
abbrev cX8_orderBySign : ByteArray := prog_10_method_7_code
def yX8_orderBySign : MethodName := ⟨RX8, "orderBySign", "()V"⟩
abbrev cX8_orderSpare : ByteArray := prog_10_method_8_code
def yX8_orderSpare : MethodName := ⟨RX8, "orderSpare", "([IIII)V"⟩
abbrev cX8_rankBySign : ByteArray := prog_10_method_9_code
def yX8_rankBySign : MethodName := ⟨RX8, "rankBySign", "()I"⟩
abbrev cX8_listBySecond : ByteArray := prog_10_method_10_code
def yX8_listBySecond : MethodName := ⟨RX8, "listBySecond", "(I)V"⟩
abbrev cX8_rankByTwo : ByteArray := prog_10_method_11_code
def yX8_rankByTwo : MethodName := ⟨RX8, "rankByTwo", "(I)I"⟩
abbrev cX8_measureShared : ByteArray := prog_10_method_12_code
def yX8_measureShared : MethodName := ⟨RX8, "measureShared", "()V"⟩
abbrev cX8_placeOf : ByteArray := prog_10_method_13_code
def yX8_placeOf : MethodName := ⟨RX8, "placeOf", "(I)I"⟩
abbrev cX8_rankOf : ByteArray := prog_10_method_14_code
def yX8_rankOf : MethodName := ⟨RX8, "rankOf", "(I)I"⟩
abbrev cX8_sharedAt : ByteArray := prog_10_method_15_code
def yX8_sharedAt : MethodName := ⟨RX8, "sharedAt", "(I)I"⟩
abbrev cX8_lyndonStart : ByteArray := prog_10_method_16_code
def yX8_lyndonStart : MethodName := ⟨RX8, "lyndonStart", "(I)I"⟩
abbrev cX8_freshParts : ByteArray := prog_10_method_17_code
def yX8_freshParts : MethodName := ⟨RX8, "freshParts", "(I)I"⟩
abbrev cX8_differentParts : ByteArray := prog_10_method_18_code
def yX8_differentParts : MethodName := ⟨RX8, "differentParts", "()I"⟩
abbrev cX8_choosePart : ByteArray := prog_10_method_19_code
def yX8_choosePart : MethodName := ⟨RX8, "choosePart", "(I)Z"⟩
abbrev cX8_aloneFrom : ByteArray := prog_10_method_20_code
def yX8_aloneFrom : MethodName := ⟨RX8, "aloneFrom", "(I)I"⟩
abbrev cX8_leastAlone : ByteArray := prog_10_method_21_code
def yX8_leastAlone : MethodName := ⟨RX8, "leastAlone", "()I"⟩
abbrev cX8_longestIn : ByteArray := prog_10_method_22_code
def yX8_longestIn : MethodName := ⟨RX8, "longestIn", "(I)I"⟩
abbrev cX8_stretchOf : ByteArray := prog_10_method_23_code
def yX8_stretchOf : MethodName := ⟨RX8, "stretchOf", "(II)I"⟩
abbrev cX8_firstOf : ByteArray := prog_10_method_24_code
def yX8_firstOf : MethodName := ⟨RX8, "firstOf", "(II)I"⟩
abbrev cX8_ownerOf : ByteArray := prog_10_method_25_code
def yX8_ownerOf : MethodName := ⟨RX8, "ownerOf", "(I)I"⟩
abbrev cX8_placeInOwner : ByteArray := prog_10_method_26_code
def yX8_placeInOwner : MethodName := ⟨RX8, "placeInOwner", "(I)I"⟩
def RX9 : String := "UnitAtlas$Text"
def TX9 : u_T := fun k => match k with
  | 0 => ("UnitAtlas$Text", "unit", "[I", true)
  | _ => ("UnitAtlas$Text", "size", "I", false)
def tyX9 : Nat → FieldType := fun k => match k with
  | 0 => .array .int
  | _ => .int
theorem nmX9 : ∀ a, a < 2 → ∀ b, b < 2 → a ≠ b → (TX9 a).2.1 ≠ (TX9 b).2.1 := by decide +kernel
theorem tyX9_ok : ∀ k, k < 2 → parseFieldDescriptor (TX9 k).2.2.1 = some (tyX9 k) := by decide +kernel
abbrev cX9_init : ByteArray := prog_11_method_1_code
def yX9_init : MethodName := ⟨RX9, "<init>", "(I)V"⟩
abbrev cX9_hasPlace : ByteArray := prog_11_method_2_code
def yX9_hasPlace : MethodName := ⟨RX9, "hasPlace", "(I)Z"⟩
abbrev cX9_hasPart : ByteArray := prog_11_method_3_code
def yX9_hasPart : MethodName := ⟨RX9, "hasPart", "(II)Z"⟩
abbrev cX9_hasSome : ByteArray := prog_11_method_4_code
def yX9_hasSome : MethodName := ⟨RX9, "hasSome", "(II)Z"⟩
abbrev cX9_room : ByteArray := prog_11_method_5_code
def yX9_room : MethodName := ⟨RX9, "room", "()I"⟩
abbrev cX9_put : ByteArray := prog_11_method_6_code
def yX9_put : MethodName := ⟨RX9, "put", "(I)V"⟩
abbrev cX9_putPoint : ByteArray := prog_11_method_7_code
def yX9_putPoint : MethodName := ⟨RX9, "putPoint", "(I)V"⟩
abbrev cX9_putPart : ByteArray := prog_11_method_8_code
def yX9_putPart : MethodName := ⟨RX9, "putPart", "(LUnitAtlas$Text;II)V"⟩
abbrev cX9_putAhead : ByteArray := prog_11_method_9_code
def yX9_putAhead : MethodName := ⟨RX9, "putAhead", "(II)V"⟩
abbrev cX9_drop : ByteArray := prog_11_method_10_code
def yX9_drop : MethodName := ⟨RX9, "drop", "(II)V"⟩
abbrev cX9_become : ByteArray := prog_11_method_11_code
def yX9_become : MethodName := ⟨RX9, "become", "(LUnitAtlas$Text;)V"⟩
abbrev cX9_isPair : ByteArray := prog_11_method_12_code
def yX9_isPair : MethodName := ⟨RX9, "isPair", "(I)Z"⟩
abbrev cX9_pointFrom : ByteArray := prog_11_method_13_code
def yX9_pointFrom : MethodName := ⟨RX9, "pointFrom", "(I)I"⟩
abbrev cX9_isHalf : ByteArray := prog_11_method_14_code
def yX9_isHalf : MethodName := ⟨RX9, "isHalf", "(I)Z"⟩
abbrev cX9_against : ByteArray := prog_11_method_15_code
def yX9_against : MethodName := ⟨RX9, "against", "(LUnitAtlas$Text;)I"⟩
abbrev cX9_againstByPoints : ByteArray := prog_11_method_16_code
def yX9_againstByPoints : MethodName := ⟨RX9, "againstByPoints", "(LUnitAtlas$Text;)I"⟩
abbrev cX9_bySize : ByteArray := prog_11_method_17_code
def yX9_bySize : MethodName := ⟨RX9, "bySize", "(LUnitAtlas$Text;)I"⟩
def RX10 : String := "UnitAtlas$Told"
def TX10 : u_T := fun k => match k with
  | 0 => ("UnitAtlas$Told", "cells", "[I", true)
  | 1 => ("UnitAtlas$Told", "width", "I", true)
  | 2 => ("UnitAtlas$Told", "most", "I", true)
  | _ => ("UnitAtlas$Told", "rows", "I", false)
def tyX10 : Nat → FieldType := fun k => match k with
  | 0 => .array .int
  | 1 => .int
  | 2 => .int
  | _ => .int
theorem nmX10 : ∀ a, a < 4 → ∀ b, b < 4 → a ≠ b → (TX10 a).2.1 ≠ (TX10 b).2.1 := by decide +kernel
theorem tyX10_ok : ∀ k, k < 4 → parseFieldDescriptor (TX10 k).2.2.1 = some (tyX10 k) := by decide +kernel
abbrev cX10_init : ByteArray := prog_12_method_1_code
def yX10_init : MethodName := ⟨RX10, "<init>", "(II)V"⟩
abbrev cX10_clear : ByteArray := prog_12_method_2_code
def yX10_clear : MethodName := ⟨RX10, "clear", "()V"⟩
abbrev cX10_answer : ByteArray := prog_12_method_3_code
def yX10_answer : MethodName := ⟨RX10, "answer", "(II)I"⟩
abbrev cX10_add : ByteArray := prog_12_method_4_code
def yX10_add : MethodName := ⟨RX10, "add", "(III)V"⟩
abbrev cX10_addByFirst : ByteArray := prog_12_method_5_code
def yX10_addByFirst : MethodName := ⟨RX10, "addByFirst", "(III)V"⟩
abbrev cX10_write : ByteArray := prog_12_method_6_code
def yX10_write : MethodName := ⟨RX10, "write", "(IIII)V"⟩
abbrev cX10_rowOf : ByteArray := prog_12_method_7_code
def yX10_rowOf : MethodName := ⟨RX10, "rowOf", "(II)I"⟩
def RX11 : String := "UnitAtlas"
def TX11 : u_T := fun k => match k with
  | 0 => ("UnitAtlas", "shelf", "LUnitAtlas$Shelf;", true)
  | 1 => ("UnitAtlas", "suffixesOfOne", "LUnitAtlas$Suffixes;", true)
  | 2 => ("UnitAtlas", "search", "LUnitAtlas$Search;", true)
  | 3 => ("UnitAtlas", "forms", "LUnitAtlas$Forms;", true)
  | 4 => ("UnitAtlas", "patterns", "LUnitAtlas$Patterns;", true)
  | 5 => ("UnitAtlas", "squeezer", "LUnitAtlas$Squeezer;", true)
  | 6 => ("UnitAtlas", "sorter", "LUnitAtlas$Sorter;", true)
  | 7 => ("UnitAtlas", "toldMatches", "LUnitAtlas$Told;", true)
  | 8 => ("UnitAtlas", "toldWords", "LUnitAtlas$Told;", true)
  | 9 => ("UnitAtlas", "toldRuns", "LUnitAtlas$Told;", true)
  | 10 => ("UnitAtlas", "toldSteps", "LUnitAtlas$Told;", true)
  | 11 => ("UnitAtlas", "toldPairs", "LUnitAtlas$Told;", true)
  | 12 => ("UnitAtlas", "suffixesOfAll", "LUnitAtlas$Suffixes;", false)
  | _ => ("UnitAtlas", "steps", "LUnitAtlas$Steps;", false)
def tyX11 : Nat → FieldType := fun k => match k with
  | 0 => .object "UnitAtlas$Shelf"
  | 1 => .object "UnitAtlas$Suffixes"
  | 2 => .object "UnitAtlas$Search"
  | 3 => .object "UnitAtlas$Forms"
  | 4 => .object "UnitAtlas$Patterns"
  | 5 => .object "UnitAtlas$Squeezer"
  | 6 => .object "UnitAtlas$Sorter"
  | 7 => .object "UnitAtlas$Told"
  | 8 => .object "UnitAtlas$Told"
  | 9 => .object "UnitAtlas$Told"
  | 10 => .object "UnitAtlas$Told"
  | 11 => .object "UnitAtlas$Told"
  | 12 => .object "UnitAtlas$Suffixes"
  | _ => .object "UnitAtlas$Steps"
theorem nmX11 : ∀ a, a < 14 → ∀ b, b < 14 → a ≠ b → (TX11 a).2.1 ≠ (TX11 b).2.1 := by decide +kernel
theorem tyX11_ok : ∀ k, k < 14 → parseFieldDescriptor (TX11 k).2.2.1 = some (tyX11 k) := by decide +kernel
abbrev cX11_init : ByteArray := prog_1_method_1_code
def yX11_init : MethodName := ⟨RX11, "<init>", "()V"⟩
abbrev cX11_text : ByteArray := prog_1_method_2_code
def yX11_text : MethodName := ⟨RX11, "text", "()I"⟩
abbrev cX11_units : ByteArray := prog_1_method_3_code
def yX11_units : MethodName := ⟨RX11, "units", "(IIJ)I"⟩
abbrev cX11_point : ByteArray := prog_1_method_4_code
def yX11_point : MethodName := ⟨RX11, "point", "(II)I"⟩
abbrev cX11_copy : ByteArray := prog_1_method_5_code
def yX11_copy : MethodName := ⟨RX11, "copy", "(III)I"⟩
abbrev cX11_append : ByteArray := prog_1_method_6_code
def yX11_append : MethodName := ⟨RX11, "append", "(IIII)I"⟩
abbrev cX11_reversed : ByteArray := prog_1_method_7_code
def yX11_reversed : MethodName := ⟨RX11, "reversed", "(I)I"⟩
abbrev cX11_insert : ByteArray := prog_1_method_8_code
def yX11_insert : MethodName := ⟨RX11, "insert", "(III)I"⟩
abbrev cX11_remove : ByteArray := prog_1_method_9_code
def yX11_remove : MethodName := ⟨RX11, "remove", "(III)I"⟩
abbrev cX11_undo : ByteArray := prog_1_method_10_code
def yX11_undo : MethodName := ⟨RX11, "undo", "()I"⟩
abbrev cX11_at : ByteArray := prog_1_method_11_code
def yX11_at : MethodName := ⟨RX11, "at", "(II)I"⟩
abbrev cX11_length : ByteArray := prog_1_method_12_code
def yX11_length : MethodName := ⟨RX11, "length", "(I)I"⟩
abbrev cX11_points : ByteArray := prog_1_method_13_code
def yX11_points : MethodName := ⟨RX11, "points", "(I)I"⟩
abbrev cX11_pointAt : ByteArray := prog_1_method_14_code
def yX11_pointAt : MethodName := ⟨RX11, "pointAt", "(II)I"⟩
abbrev cX11_half : ByteArray := prog_1_method_15_code
def yX11_half : MethodName := ⟨RX11, "half", "(II)I"⟩
abbrev cX11_order : ByteArray := prog_1_method_16_code
def yX11_order : MethodName := ⟨RX11, "order", "(IIZ)I"⟩
abbrev cX11_equalParts : ByteArray := prog_1_method_17_code
def yX11_equalParts : MethodName := ⟨RX11, "equalParts", "(IIIII)I"⟩
abbrev cX11_suffix : ByteArray := prog_1_method_18_code
def yX11_suffix : MethodName := ⟨RX11, "suffix", "(II)I"⟩
abbrev cX11_rank : ByteArray := prog_1_method_19_code
def yX11_rank : MethodName := ⟨RX11, "rank", "(II)I"⟩
abbrev cX11_common : ByteArray := prog_1_method_20_code
def yX11_common : MethodName := ⟨RX11, "common", "(III)I"⟩
abbrev cX11_border : ByteArray := prog_1_method_21_code
def yX11_border : MethodName := ⟨RX11, "border", "(II)I"⟩
abbrev cX11_find : ByteArray := prog_1_method_22_code
def yX11_find : MethodName := ⟨RX11, "find", "(III)I"⟩
abbrev cX11_countOf : ByteArray := prog_1_method_23_code
def yX11_countOf : MethodName := ⟨RX11, "countOf", "(II)I"⟩
abbrev cX11_wild : ByteArray := prog_1_method_24_code
def yX11_wild : MethodName := ⟨RX11, "wild", "(IIII)I"⟩
abbrev cX11_near : ByteArray := prog_1_method_25_code
def yX11_near : MethodName := ⟨RX11, "near", "(IIII)I"⟩
abbrev cX11_pattern : ByteArray := prog_1_method_26_code
def yX11_pattern : MethodName := ⟨RX11, "pattern", "(I)I"⟩
abbrev cX11_matches : ByteArray := prog_1_method_27_code
def yX11_matches : MethodName := ⟨RX11, "matches", "(I)I"⟩
abbrev cX11_match : ByteArray := prog_1_method_28_code
def yX11_match : MethodName := ⟨RX11, "match", "(II)I"⟩
abbrev cX11_longestCommon : ByteArray := prog_1_method_29_code
def yX11_longestCommon : MethodName := ⟨RX11, "longestCommon", "(III)I"⟩
abbrev cX11_ofMany : ByteArray := prog_1_method_30_code
def yX11_ofMany : MethodName := ⟨RX11, "ofMany", "(II)I"⟩
abbrev cX11_period : ByteArray := prog_1_method_31_code
def yX11_period : MethodName := ⟨RX11, "period", "(III)I"⟩
abbrev cX11_root : ByteArray := prog_1_method_32_code
def yX11_root : MethodName := ⟨RX11, "root", "(I)I"⟩
abbrev cX11_squares : ByteArray := prog_1_method_33_code
def yX11_squares : MethodName := ⟨RX11, "squares", "(I)I"⟩
abbrev cX11_runs : ByteArray := prog_1_method_34_code
def yX11_runs : MethodName := ⟨RX11, "runs", "(I)I"⟩
abbrev cX11_run : ByteArray := prog_1_method_35_code
def yX11_run : MethodName := ⟨RX11, "run", "(II)I"⟩
abbrev cX11_palindrome : ByteArray := prog_1_method_36_code
def yX11_palindrome : MethodName := ⟨RX11, "palindrome", "(II)I"⟩
abbrev cX11_palindromes : ByteArray := prog_1_method_37_code
def yX11_palindromes : MethodName := ⟨RX11, "palindromes", "(I)I"⟩
abbrev cX11_leastRotation : ByteArray := prog_1_method_38_code
def yX11_leastRotation : MethodName := ⟨RX11, "leastRotation", "(I)I"⟩
abbrev cX11_lyndon : ByteArray := prog_1_method_39_code
def yX11_lyndon : MethodName := ⟨RX11, "lyndon", "(II)I"⟩
abbrev cX11_parts : ByteArray := prog_1_method_40_code
def yX11_parts : MethodName := ⟨RX11, "parts", "(I)I"⟩
abbrev cX11_nthPart : ByteArray := prog_1_method_41_code
def yX11_nthPart : MethodName := ⟨RX11, "nthPart", "(II)I"⟩
abbrev cX11_unique : ByteArray := prog_1_method_42_code
def yX11_unique : MethodName := ⟨RX11, "unique", "(II)I"⟩
abbrev cX11_leastUnique : ByteArray := prog_1_method_43_code
def yX11_leastUnique : MethodName := ⟨RX11, "leastUnique", "(I)I"⟩
abbrev cX11_absent : ByteArray := prog_1_method_44_code
def yX11_absent : MethodName := ⟨RX11, "absent", "(I)I"⟩
abbrev cX11_cover : ByteArray := prog_1_method_45_code
def yX11_cover : MethodName := ⟨RX11, "cover", "(I)I"⟩
abbrev cX11_word : ByteArray := prog_1_method_46_code
def yX11_word : MethodName := ⟨RX11, "word", "(I)I"⟩
abbrev cX11_distance : ByteArray := prog_1_method_47_code
def yX11_distance : MethodName := ⟨RX11, "distance", "(II)I"⟩
abbrev cX11_script : ByteArray := prog_1_method_48_code
def yX11_script : MethodName := ⟨RX11, "script", "(II)I"⟩
abbrev cX11_subsequence : ByteArray := prog_1_method_49_code
def yX11_subsequence : MethodName := ⟨RX11, "subsequence", "(II)I"⟩
abbrev cX11_pair : ByteArray := prog_1_method_50_code
def yX11_pair : MethodName := ⟨RX11, "pair", "(II)I"⟩
abbrev cX11_squeeze : ByteArray := prog_1_method_51_code
def yX11_squeeze : MethodName := ⟨RX11, "squeeze", "(II)I"⟩
abbrev cX11_squeezed : ByteArray := prog_1_method_52_code
def yX11_squeezed : MethodName := ⟨RX11, "squeezed", "(II)I"⟩
abbrev cX11_expand : ByteArray := prog_1_method_53_code
def yX11_expand : MethodName := ⟨RX11, "expand", "()I"⟩
abbrev cX11_sort : ByteArray := prog_1_method_54_code
def yX11_sort : MethodName := ⟨RX11, "sort", "(I)I"⟩
abbrev cX11_sorted : ByteArray := prog_1_method_55_code
def yX11_sorted : MethodName := ⟨RX11, "sorted", "(I)I"⟩
abbrev cX11_unsort : ByteArray := prog_1_method_56_code
def yX11_unsort : MethodName := ⟨RX11, "unsort", "()I"⟩
abbrev cX11_count : ByteArray := prog_1_method_57_code
def yX11_count : MethodName := ⟨RX11, "count", "(I)I"⟩
abbrev cX11_forget : ByteArray := prog_1_method_58_code
def yX11_forget : MethodName := ⟨RX11, "forget", "()I"⟩
abbrev cX11_isUnit : ByteArray := prog_1_method_59_code
def yX11_isUnit : MethodName := ⟨RX11, "isUnit", "(I)Z"⟩
abbrev cX11_makePart : ByteArray := prog_1_method_60_code
def yX11_makePart : MethodName := ⟨RX11, "makePart", "(LUnitAtlas$Text;II)I"⟩
abbrev cX11_suffixesOf : ByteArray := prog_1_method_61_code
def yX11_suffixesOf : MethodName := ⟨RX11, "suffixesOf", "(I)LUnitAtlas$Suffixes;"⟩
abbrev cX11_stepsAtHand : ByteArray := prog_1_method_62_code
def yX11_stepsAtHand : MethodName := ⟨RX11, "stepsAtHand", "()LUnitAtlas$Steps;"⟩
def RX12 : String := "UnitAtlasModel"
def TX12 : u_T := fun k => match k with
  | 0 => ("UnitAtlasModel", "texts", "I", false)
  | 1 => ("UnitAtlasModel", "lengths", "[I", true)
  | 2 => ("UnitAtlasModel", "rows", "[I", true)
  | 3 => ("UnitAtlasModel", "kept", "I", false)
  | 4 => ("UnitAtlasModel", "keptText", "[I", true)
  | 5 => ("UnitAtlasModel", "keptNew", "[Z", true)
  | 6 => ("UnitAtlasModel", "keptLength", "[I", true)
  | 7 => ("UnitAtlasModel", "keptUnits", "[I", true)
  | 8 => ("UnitAtlasModel", "common", "[I", true)
  | 9 => ("UnitAtlasModel", "ordered", "[I", true)
  | 10 => ("UnitAtlasModel", "patterns", "I", false)
  | 11 => ("UnitAtlasModel", "patternLength", "[I", true)
  | 12 => ("UnitAtlasModel", "patternUnits", "[I", true)
  | 13 => ("UnitAtlasModel", "matchMany", "I", false)
  | 14 => ("UnitAtlasModel", "matchAt", "[I", true)
  | 15 => ("UnitAtlasModel", "matchOf", "[I", true)
  | 16 => ("UnitAtlasModel", "words", "I", false)
  | 17 => ("UnitAtlasModel", "word", "[I", true)
  | 18 => ("UnitAtlasModel", "least", "[I", true)
  | 19 => ("UnitAtlasModel", "places", "I", false)
  | 20 => ("UnitAtlasModel", "placeText", "[I", true)
  | 21 => ("UnitAtlasModel", "left", "[I", true)
  | 22 => ("UnitAtlasModel", "ranks", "[I", true)
  | 23 => ("UnitAtlasModel", "keyed", "[I", true)
  | 24 => ("UnitAtlasModel", "sortedA", "[I", true)
  | 25 => ("UnitAtlasModel", "sortedB", "[I", true)
  | 26 => ("UnitAtlasModel", "counts", "[I", true)
  | 27 => ("UnitAtlasModel", "runMany", "I", false)
  | 28 => ("UnitAtlasModel", "runFrom", "[I", true)
  | 29 => ("UnitAtlasModel", "runTo", "[I", true)
  | 30 => ("UnitAtlasModel", "runPeriod", "[I", true)
  | 31 => ("UnitAtlasModel", "signs", "I", false)
  | 32 => ("UnitAtlasModel", "sign", "[I", true)
  | 33 => ("UnitAtlasModel", "made", "[I", true)
  | 34 => ("UnitAtlasModel", "table", "[I", true)
  | 35 => ("UnitAtlasModel", "steps", "I", false)
  | 36 => ("UnitAtlasModel", "stepSort", "[I", true)
  | 37 => ("UnitAtlasModel", "stepAt", "[I", true)
  | 38 => ("UnitAtlasModel", "stepUnit", "[I", true)
  | 39 => ("UnitAtlasModel", "pairs", "I", false)
  | 40 => ("UnitAtlasModel", "pairA", "[I", true)
  | 41 => ("UnitAtlasModel", "pairB", "[I", true)
  | 42 => ("UnitAtlasModel", "items", "I", false)
  | 43 => ("UnitAtlasModel", "squeezedBy", "I", false)
  | 44 => ("UnitAtlasModel", "itemA", "[I", true)
  | 45 => ("UnitAtlasModel", "itemB", "[I", true)
  | 46 => ("UnitAtlasModel", "itemC", "[I", true)
  | 47 => ("UnitAtlasModel", "phraseOf", "[I", true)
  | 48 => ("UnitAtlasModel", "phraseUnit", "[I", true)
  | 49 => ("UnitAtlasModel", "sortedMany", "I", false)
  | 50 => ("UnitAtlasModel", "sortedUnit", "[I", true)
  | _ => ("UnitAtlasModel", "used", "[I", true)
def tyX12 : Nat → FieldType := fun k => match k with
  | 0 => .int
  | 1 => .array .int
  | 2 => .array .int
  | 3 => .int
  | 4 => .array .int
  | 5 => .array .boolean
  | 6 => .array .int
  | 7 => .array .int
  | 8 => .array .int
  | 9 => .array .int
  | 10 => .int
  | 11 => .array .int
  | 12 => .array .int
  | 13 => .int
  | 14 => .array .int
  | 15 => .array .int
  | 16 => .int
  | 17 => .array .int
  | 18 => .array .int
  | 19 => .int
  | 20 => .array .int
  | 21 => .array .int
  | 22 => .array .int
  | 23 => .array .int
  | 24 => .array .int
  | 25 => .array .int
  | 26 => .array .int
  | 27 => .int
  | 28 => .array .int
  | 29 => .array .int
  | 30 => .array .int
  | 31 => .int
  | 32 => .array .int
  | 33 => .array .int
  | 34 => .array .int
  | 35 => .int
  | 36 => .array .int
  | 37 => .array .int
  | 38 => .array .int
  | 39 => .int
  | 40 => .array .int
  | 41 => .array .int
  | 42 => .int
  | 43 => .int
  | 44 => .array .int
  | 45 => .array .int
  | 46 => .array .int
  | 47 => .array .int
  | 48 => .array .int
  | 49 => .int
  | 50 => .array .int
  | _ => .array .int
theorem nmX12 : ∀ a, a < 52 → ∀ b, b < 52 → a ≠ b → (TX12 a).2.1 ≠ (TX12 b).2.1 := by decide +kernel
theorem tyX12_ok : ∀ k, k < 52 → parseFieldDescriptor (TX12 k).2.2.1 = some (tyX12 k) := by decide +kernel
abbrev cX12_init : ByteArray := prog_14_method_1_code
def yX12_init : MethodName := ⟨RX12, "<init>", "()V"⟩
abbrev cX12_in : ByteArray := prog_14_method_3_code
def yX12_in : MethodName := ⟨RX12, "in", "(JJJ)Z"⟩
abbrev cX12_isText : ByteArray := prog_14_method_4_code
def yX12_isText : MethodName := ⟨RX12, "isText", "(I)Z"⟩
abbrev cX12_isPlace : ByteArray := prog_14_method_5_code
def yX12_isPlace : MethodName := ⟨RX12, "isPlace", "(II)Z"⟩
abbrev cX12_isPart : ByteArray := prog_14_method_6_code
def yX12_isPart : MethodName := ⟨RX12, "isPart", "(III)Z"⟩
abbrev cX12_unit : ByteArray := prog_14_method_7_code
def yX12_unit : MethodName := ⟨RX12, "unit", "(II)I"⟩
abbrev cX12_keep : ByteArray := prog_14_method_8_code
def yX12_keep : MethodName := ⟨RX12, "keep", "(IZ)V"⟩
abbrev cX12_newText : ByteArray := prog_14_method_9_code
def yX12_newText : MethodName := ⟨RX12, "newText", "()I"⟩
abbrev cX12_put : ByteArray := prog_14_method_10_code
def yX12_put : MethodName := ⟨RX12, "put", "(II)V"⟩
abbrev cX12_text : ByteArray := prog_14_method_11_code
def yX12_text : MethodName := ⟨RX12, "text", "()I"⟩
abbrev cX12_units : ByteArray := prog_14_method_12_code
def yX12_units : MethodName := ⟨RX12, "units", "(IIJ)I"⟩
abbrev cX12_point : ByteArray := prog_14_method_13_code
def yX12_point : MethodName := ⟨RX12, "point", "(II)I"⟩
abbrev cX12_copy : ByteArray := prog_14_method_14_code
def yX12_copy : MethodName := ⟨RX12, "copy", "(III)I"⟩
abbrev cX12_append : ByteArray := prog_14_method_15_code
def yX12_append : MethodName := ⟨RX12, "append", "(IIII)I"⟩
abbrev cX12_reversed : ByteArray := prog_14_method_16_code
def yX12_reversed : MethodName := ⟨RX12, "reversed", "(I)I"⟩
abbrev cX12_insert : ByteArray := prog_14_method_17_code
def yX12_insert : MethodName := ⟨RX12, "insert", "(III)I"⟩
abbrev cX12_remove : ByteArray := prog_14_method_18_code
def yX12_remove : MethodName := ⟨RX12, "remove", "(III)I"⟩
abbrev cX12_undo : ByteArray := prog_14_method_19_code
def yX12_undo : MethodName := ⟨RX12, "undo", "()I"⟩
abbrev cX12_at : ByteArray := prog_14_method_20_code
def yX12_at : MethodName := ⟨RX12, "at", "(II)I"⟩
abbrev cX12_length : ByteArray := prog_14_method_21_code
def yX12_length : MethodName := ⟨RX12, "length", "(I)I"⟩
abbrev cX12_isPair : ByteArray := prog_14_method_22_code
def yX12_isPair : MethodName := ⟨RX12, "isPair", "(II)Z"⟩
abbrev cX12_pointFrom : ByteArray := prog_14_method_23_code
def yX12_pointFrom : MethodName := ⟨RX12, "pointFrom", "(II)I"⟩
abbrev cX12_points : ByteArray := prog_14_method_24_code
def yX12_points : MethodName := ⟨RX12, "points", "(I)I"⟩
abbrev cX12_pointAt : ByteArray := prog_14_method_25_code
def yX12_pointAt : MethodName := ⟨RX12, "pointAt", "(II)I"⟩
abbrev cX12_half : ByteArray := prog_14_method_26_code
def yX12_half : MethodName := ⟨RX12, "half", "(II)I"⟩
abbrev cX12_order : ByteArray := prog_14_method_27_code
def yX12_order : MethodName := ⟨RX12, "order", "(IIZ)I"⟩
abbrev cX12_equalParts : ByteArray := prog_14_method_28_code
def yX12_equalParts : MethodName := ⟨RX12, "equalParts", "(IIIII)I"⟩
abbrev cX12_look : ByteArray := prog_14_method_29_code
def yX12_look : MethodName := ⟨RX12, "look", "(II)V"⟩
abbrev cX12_isLess : ByteArray := prog_14_method_30_code
def yX12_isLess : MethodName := ⟨RX12, "isLess", "(III)Z"⟩
abbrev cX12_orders : ByteArray := prog_14_method_31_code
def yX12_orders : MethodName := ⟨RX12, "orders", "(I)V"⟩
abbrev cX12_rankOf : ByteArray := prog_14_method_32_code
def yX12_rankOf : MethodName := ⟨RX12, "rankOf", "(II)I"⟩
abbrev cX12_suffix : ByteArray := prog_14_method_33_code
def yX12_suffix : MethodName := ⟨RX12, "suffix", "(II)I"⟩
abbrev cX12_rank : ByteArray := prog_14_method_34_code
def yX12_rank : MethodName := ⟨RX12, "rank", "(II)I"⟩
abbrev cX12_common : ByteArray := prog_14_method_35_code
def yX12_common : MethodName := ⟨RX12, "common", "(III)I"⟩
abbrev cX12_border : ByteArray := prog_14_method_36_code
def yX12_border : MethodName := ⟨RX12, "border", "(II)I"⟩
abbrev cX12_stands : ByteArray := prog_14_method_37_code
def yX12_stands : MethodName := ⟨RX12, "stands", "(IIIII)Z"⟩
abbrev cX12_place : ByteArray := prog_14_method_38_code
def yX12_place : MethodName := ⟨RX12, "place", "(IIIII)I"⟩
abbrev cX12_find : ByteArray := prog_14_method_39_code
def yX12_find : MethodName := ⟨RX12, "find", "(III)I"⟩
abbrev cX12_countOf : ByteArray := prog_14_method_40_code
def yX12_countOf : MethodName := ⟨RX12, "countOf", "(II)I"⟩
abbrev cX12_wild : ByteArray := prog_14_method_41_code
def yX12_wild : MethodName := ⟨RX12, "wild", "(IIII)I"⟩
abbrev cX12_near : ByteArray := prog_14_method_42_code
def yX12_near : MethodName := ⟨RX12, "near", "(IIII)I"⟩
abbrev cX12_pattern : ByteArray := prog_14_method_43_code
def yX12_pattern : MethodName := ⟨RX12, "pattern", "(I)I"⟩
abbrev cX12_occurs : ByteArray := prog_14_method_44_code
def yX12_occurs : MethodName := ⟨RX12, "occurs", "(III)Z"⟩
abbrev cX12_matches : ByteArray := prog_14_method_45_code
def yX12_matches : MethodName := ⟨RX12, "matches", "(I)I"⟩
abbrev cX12_match : ByteArray := prog_14_method_46_code
def yX12_match : MethodName := ⟨RX12, "match", "(II)I"⟩
abbrev cX12_forget : ByteArray := prog_14_method_47_code
def yX12_forget : MethodName := ⟨RX12, "forget", "()I"⟩
abbrev cX12_cover : ByteArray := prog_14_method_48_code
def yX12_cover : MethodName := ⟨RX12, "cover", "(I)I"⟩
abbrev cX12_word : ByteArray := prog_14_method_49_code
def yX12_word : MethodName := ⟨RX12, "word", "(I)I"⟩
abbrev cX12_longestCommon : ByteArray := prog_14_method_50_code
def yX12_longestCommon : MethodName := ⟨RX12, "longestCommon", "(III)I"⟩
abbrev cX12_byKey : ByteArray := prog_14_method_51_code
def yX12_byKey : MethodName := ⟨RX12, "byKey", "([I[III)V"⟩
abbrev cX12_bySize : ByteArray := prog_14_method_52_code
def yX12_bySize : MethodName := ⟨RX12, "bySize", "(II)I"⟩
abbrev cX12_isSame : ByteArray := prog_14_method_53_code
def yX12_isSame : MethodName := ⟨RX12, "isSame", "(IIII)Z"⟩
abbrev cX12_rankAll : ByteArray := prog_14_method_54_code
def yX12_rankAll : MethodName := ⟨RX12, "rankAll", "()V"⟩
abbrev cX12_manyOf : ByteArray := prog_14_method_55_code
def yX12_manyOf : MethodName := ⟨RX12, "manyOf", "(II)I"⟩
abbrev cX12_ofMany : ByteArray := prog_14_method_56_code
def yX12_ofMany : MethodName := ⟨RX12, "ofMany", "(II)I"⟩
abbrev cX12_periodOf : ByteArray := prog_14_method_57_code
def yX12_periodOf : MethodName := ⟨RX12, "periodOf", "(II)I"⟩
abbrev cX12_period : ByteArray := prog_14_method_58_code
def yX12_period : MethodName := ⟨RX12, "period", "(III)I"⟩
abbrev cX12_root : ByteArray := prog_14_method_59_code
def yX12_root : MethodName := ⟨RX12, "root", "(I)I"⟩
abbrev cX12_squares : ByteArray := prog_14_method_60_code
def yX12_squares : MethodName := ⟨RX12, "squares", "(I)I"⟩
abbrev cX12_runs : ByteArray := prog_14_method_61_code
def yX12_runs : MethodName := ⟨RX12, "runs", "(I)I"⟩
abbrev cX12_run : ByteArray := prog_14_method_62_code
def yX12_run : MethodName := ⟨RX12, "run", "(II)I"⟩
abbrev cX12_around : ByteArray := prog_14_method_63_code
def yX12_around : MethodName := ⟨RX12, "around", "(II)I"⟩
abbrev cX12_palindrome : ByteArray := prog_14_method_64_code
def yX12_palindrome : MethodName := ⟨RX12, "palindrome", "(II)I"⟩
abbrev cX12_palindromes : ByteArray := prog_14_method_65_code
def yX12_palindromes : MethodName := ⟨RX12, "palindromes", "(I)I"⟩
abbrev cX12_turned : ByteArray := prog_14_method_66_code
def yX12_turned : MethodName := ⟨RX12, "turned", "(II)I"⟩
abbrev cX12_leastRotation : ByteArray := prog_14_method_67_code
def yX12_leastRotation : MethodName := ⟨RX12, "leastRotation", "(I)I"⟩
abbrev cX12_lyndon : ByteArray := prog_14_method_68_code
def yX12_lyndon : MethodName := ⟨RX12, "lyndon", "(II)I"⟩
abbrev cX12_elsewhere : ByteArray := prog_14_method_69_code
def yX12_elsewhere : MethodName := ⟨RX12, "elsewhere", "(IIZ)I"⟩
abbrev cX12_parts : ByteArray := prog_14_method_70_code
def yX12_parts : MethodName := ⟨RX12, "parts", "(I)I"⟩
abbrev cX12_nthPart : ByteArray := prog_14_method_71_code
def yX12_nthPart : MethodName := ⟨RX12, "nthPart", "(II)I"⟩
abbrev cX12_uniqueFrom : ByteArray := prog_14_method_72_code
def yX12_uniqueFrom : MethodName := ⟨RX12, "uniqueFrom", "(II)I"⟩
abbrev cX12_unique : ByteArray := prog_14_method_73_code
def yX12_unique : MethodName := ⟨RX12, "unique", "(II)I"⟩
abbrev cX12_leastUnique : ByteArray := prog_14_method_74_code
def yX12_leastUnique : MethodName := ⟨RX12, "leastUnique", "(I)I"⟩
abbrev cX12_signsOf : ByteArray := prog_14_method_75_code
def yX12_signsOf : MethodName := ⟨RX12, "signsOf", "(I)V"⟩
abbrev cX12_beginning : ByteArray := prog_14_method_76_code
def yX12_beginning : MethodName := ⟨RX12, "beginning", "(III)I"⟩
abbrev cX12_power : ByteArray := prog_14_method_77_code
def yX12_power : MethodName := ⟨RX12, "power", "(I)I"⟩
abbrev cX12_absent : ByteArray := prog_14_method_78_code
def yX12_absent : MethodName := ⟨RX12, "absent", "(I)I"⟩
abbrev cX12_lesser : ByteArray := prog_14_method_79_code
def yX12_lesser : MethodName := ⟨RX12, "lesser", "(II)I"⟩
abbrev cX12_distance : ByteArray := prog_14_method_80_code
def yX12_distance : MethodName := ⟨RX12, "distance", "(II)I"⟩
abbrev cX12_script : ByteArray := prog_14_method_81_code
def yX12_script : MethodName := ⟨RX12, "script", "(II)I"⟩
abbrev cX12_subsequence : ByteArray := prog_14_method_82_code
def yX12_subsequence : MethodName := ⟨RX12, "subsequence", "(II)I"⟩
abbrev cX12_pair : ByteArray := prog_14_method_83_code
def yX12_pair : MethodName := ⟨RX12, "pair", "(II)I"⟩
abbrev cX12_item : ByteArray := prog_14_method_84_code
def yX12_item : MethodName := ⟨RX12, "item", "(III)V"⟩
abbrev cX12_squeezeCopies : ByteArray := prog_14_method_85_code
def yX12_squeezeCopies : MethodName := ⟨RX12, "squeezeCopies", "(I)V"⟩
abbrev cX12_squeezePhrases : ByteArray := prog_14_method_86_code
def yX12_squeezePhrases : MethodName := ⟨RX12, "squeezePhrases", "(I)V"⟩
abbrev cX12_squeeze : ByteArray := prog_14_method_87_code
def yX12_squeeze : MethodName := ⟨RX12, "squeeze", "(II)I"⟩
abbrev cX12_squeezed : ByteArray := prog_14_method_88_code
def yX12_squeezed : MethodName := ⟨RX12, "squeezed", "(II)I"⟩
abbrev cX12_putPhrase : ByteArray := prog_14_method_89_code
def yX12_putPhrase : MethodName := ⟨RX12, "putPhrase", "(II)V"⟩
abbrev cX12_expand : ByteArray := prog_14_method_90_code
def yX12_expand : MethodName := ⟨RX12, "expand", "()I"⟩
abbrev cX12_sort : ByteArray := prog_14_method_91_code
def yX12_sort : MethodName := ⟨RX12, "sort", "(I)I"⟩
abbrev cX12_sorted : ByteArray := prog_14_method_92_code
def yX12_sorted : MethodName := ⟨RX12, "sorted", "(I)I"⟩
abbrev cX12_unsort : ByteArray := prog_14_method_93_code
def yX12_unsort : MethodName := ⟨RX12, "unsort", "()I"⟩
abbrev cX12_count : ByteArray := prog_14_method_94_code
def yX12_count : MethodName := ⟨RX12, "count", "(I)I"⟩
def RL : String := "UnitAtlasLaw"
abbrev cL_law : ByteArray := code
def yL_law : MethodName := ⟨RL, "law", "([I)Z"⟩
abbrev vwCl : List vw_C := [(RX0, TX0, 2), (RX1, TX1, 3), (RX2, TX2, 3), (RX3, TX3, 8), (RX4, TX4, 6), (RX5, TX5, 2), (RX6, TX6, 4), (RX7, TX7, 1), (RX8, TX8, 15), (RX9, TX9, 2), (RX10, TX10, 4), (RX11, TX11, 14), (RX12, TX12, 52)]
end
section
/-! tables by number: made by wip/whole/gen2.py -/
def jnth {α : Type} (d : α) : List α → Nat → α
  | [], _ => d
  | a :: _, 0 => a
  | _ :: l, n + 1 => jnth d l n
abbrev JInf : Type := MethodName × ByteArray × Nat × Option FieldType × Nat × Nat × Nat
def jinf_0 : List JInf := [(yX0_init, prog_2_method_1_code, 1, (Option.none : Option Jvm.ClassFile.FieldType), 1, 20, 3), (yX0_edgeOf, prog_2_method_2_code, 7, (Option.some Jvm.ClassFile.FieldType.int), 1, 22, 0), (yX0_squaresIn, prog_2_method_3_code, 5, (Option.some Jvm.ClassFile.FieldType.int), 0, 0, 0), (yX0_tellRuns, prog_2_method_4_code, 5, (Option.none : Option Jvm.ClassFile.FieldType), 3, 73, 3), (yX0_tellIfRun, prog_2_method_5_code, 4, (Option.none : Option Jvm.ClassFile.FieldType), 2, 50, 3), (yX0_mirroredAround, prog_2_method_6_code, 4, (Option.some Jvm.ClassFile.FieldType.int), 0, 0, 0), (yX0_leastMirrored, prog_2_method_7_code, 5, (Option.some Jvm.ClassFile.FieldType.int), 1, 21, 0), (yX0_leastTurn, prog_2_method_8_code, 3, (Option.some Jvm.ClassFile.FieldType.int), 1, 26, 0), (yX0_turnIsLess, prog_2_method_9_code, 7, (Option.some Jvm.ClassFile.FieldType.boolean), 0, 0, 0), (yX1_init, prog_3_method_1_code, 1, (Option.none : Option Jvm.ClassFile.FieldType), 2, 42, 3), (yX2_init, prog_4_method_1_code, 2, (Option.none : Option Jvm.ClassFile.FieldType), 2, 42, 3), (yX2_take, prog_4_method_2_code, 2, (Option.some Jvm.ClassFile.FieldType.int), 3, 70, 0), (yX2_tellMatches, prog_4_method_3_code, 5, (Option.none : Option Jvm.ClassFile.FieldType), 2, 48, 3), (yX2_tellCover, prog_4_method_4_code, 6, (Option.some Jvm.ClassFile.FieldType.boolean), 2, 52, 0), (yX2_measureRests, prog_4_method_5_code, 5, (Option.none : Option Jvm.ClassFile.FieldType), 1, 28, 3), (yX2_firstOfLeast, prog_4_method_6_code, 4, (Option.some Jvm.ClassFile.FieldType.int), 1, 28, 0), (yX3_init, prog_5_method_1_code, 1, (Option.none : Option Jvm.ClassFile.FieldType), 2, 42, 3), (yX3_fits, prog_5_method_2_code, 9, (Option.some Jvm.ClassFile.FieldType.boolean), 0, 0, 0), (yX3_placeOf, prog_5_method_3_code, 7, (Option.some Jvm.ClassFile.FieldType.int), 1, 28, 0), (yX3_placesOf, prog_5_method_4_code, 4, (Option.some Jvm.ClassFile.FieldType.int), 1, 28, 0), (yX3_measureShared, prog_5_method_5_code, 7, (Option.none : Option Jvm.ClassFile.FieldType), 0, 0, 3), (yX3_missingIn, prog_5_method_6_code, 3, (Option.some (Jvm.ClassFile.FieldType.object "UnitAtlas$Text")), 3, 77, 1), (yX3_gatherLetters, prog_5_method_7_code, 5, (Option.none : Option Jvm.ClassFile.FieldType), 1, 26, 3), (yX3_findMissing, prog_5_method_8_code, 4, (Option.some Jvm.ClassFile.FieldType.boolean), 2, 54, 0), (yX3_spellChosen, prog_5_method_9_code, 3, (Option.none : Option Jvm.ClassFile.FieldType), 1, 21, 3), (yX3_chooseNext, prog_5_method_10_code, 3, (Option.some Jvm.ClassFile.FieldType.boolean), 0, 0, 0), (yX4_init, prog_6_method_1_code, 2, (Option.none : Option Jvm.ClassFile.FieldType), 3, 62, 3), (yX4_look, prog_6_method_2_code, 2, (Option.some (Jvm.ClassFile.FieldType.object "UnitAtlas$Text")), 0, 0, 1), (yX4_isFull, prog_6_method_3_code, 1, (Option.some Jvm.ClassFile.FieldType.boolean), 0, 0, 0), (yX4_newest, prog_6_method_4_code, 1, (Option.some Jvm.ClassFile.FieldType.int), 0, 0, 0), (yX4_open, prog_6_method_5_code, 3, (Option.some (Jvm.ClassFile.FieldType.object "UnitAtlas$Text")), 1, 20, 1), (yX4_keep, prog_6_method_6_code, 4, (Option.none : Option Jvm.ClassFile.FieldType), 3, 70, 3), (yX4_nextKept, prog_6_method_7_code, 1, (Option.some (Jvm.ClassFile.FieldType.object "UnitAtlas$Kept")), 0, 0, 1), (yX4_takeBack, prog_6_method_8_code, 3, (Option.some Jvm.ClassFile.FieldType.boolean), 3, 70, 0), (yX4_allUnits, prog_6_method_9_code, 3, (Option.some Jvm.ClassFile.FieldType.int), 0, 0, 0), (yX5_init, prog_7_method_1_code, 1, (Option.none : Option Jvm.ClassFile.FieldType), 2, 43, 3), (yX5_arrange, prog_7_method_2_code, 4, (Option.some Jvm.ClassFile.FieldType.int), 3, 70, 0), (yX5_addLast, prog_7_method_3_code, 3, (Option.none : Option Jvm.ClassFile.FieldType), 2, 48, 3), (yX5_restore, prog_7_method_4_code, 4, (Option.none : Option Jvm.ClassFile.FieldType), 1, 26, 3), (yX5_listTurned, prog_7_method_5_code, 7, (Option.none : Option Jvm.ClassFile.FieldType), 0, 0, 3)]
def jinf_1 : List JInf := [(yX6_init, prog_8_method_1_code, 1, (Option.none : Option Jvm.ClassFile.FieldType), 2, 43, 3), (yX6_press, prog_8_method_2_code, 3, (Option.none : Option Jvm.ClassFile.FieldType), 3, 74, 3), (yX6_pressByCopies, prog_8_method_3_code, 7, (Option.none : Option Jvm.ClassFile.FieldType), 2, 48, 3), (yX6_sameFrom, prog_8_method_4_code, 4, (Option.some Jvm.ClassFile.FieldType.int), 0, 0, 0), (yX6_pressByPhrases, prog_8_method_5_code, 6, (Option.none : Option Jvm.ClassFile.FieldType), 2, 48, 3), (yX6_unfold, prog_8_method_6_code, 3, (Option.none : Option Jvm.ClassFile.FieldType), 3, 74, 3), (yX6_unfoldCopy, prog_8_method_7_code, 5, (Option.none : Option Jvm.ClassFile.FieldType), 1, 22, 3), (yX6_unfoldPhrase, prog_8_method_8_code, 6, (Option.none : Option Jvm.ClassFile.FieldType), 2, 49, 3), (yX7_init, prog_9_method_1_code, 1, (Option.none : Option Jvm.ClassFile.FieldType), 1, 20, 3), (yX7_tellScript, prog_9_method_2_code, 7, (Option.none : Option Jvm.ClassFile.FieldType), 2, 49, 3), (yX7_isSame, prog_9_method_3_code, 4, (Option.some Jvm.ClassFile.FieldType.boolean), 0, 0, 0), (yX7_measureDistances, prog_9_method_4_code, 4, (Option.none : Option Jvm.ClassFile.FieldType), 1, 26, 3), (yX7_measureDistancesFrom, prog_9_method_5_code, 7, (Option.none : Option Jvm.ClassFile.FieldType), 0, 0, 3), (yX7_wayOn, prog_9_method_6_code, 7, (Option.some Jvm.ClassFile.FieldType.int), 0, 0, 0), (yX7_tellPairs, prog_9_method_7_code, 7, (Option.none : Option Jvm.ClassFile.FieldType), 3, 69, 3), (yX7_measurePairs, prog_9_method_8_code, 4, (Option.none : Option Jvm.ClassFile.FieldType), 2, 46, 3), (yX7_measurePairsFrom, prog_9_method_9_code, 6, (Option.none : Option Jvm.ClassFile.FieldType), 1, 21, 3), (yX8_init, prog_10_method_1_code, 3, (Option.none : Option Jvm.ClassFile.FieldType), 1, 21, 3), (yX8_holdOne, prog_10_method_2_code, 4, (Option.none : Option Jvm.ClassFile.FieldType), 3, 73, 3), (yX8_holdAll, prog_10_method_3_code, 3, (Option.none : Option Jvm.ClassFile.FieldType), 3, 73, 3), (yX8_join, prog_10_method_4_code, 4, (Option.none : Option Jvm.ClassFile.FieldType), 1, 22, 3), (yX8_addSign, prog_10_method_5_code, 3, (Option.none : Option Jvm.ClassFile.FieldType), 0, 0, 3), (yX8_arrange, prog_10_method_6_code, 3, (Option.none : Option Jvm.ClassFile.FieldType), 2, 51, 3), (yX8_orderBySign, prog_10_method_7_code, 2, (Option.none : Option Jvm.ClassFile.FieldType), 1, 27, 3), (yX8_orderSpare, prog_10_method_8_code, 8, (Option.none : Option Jvm.ClassFile.FieldType), 0, 0, 3), (yX8_rankBySign, prog_10_method_9_code, 3, (Option.some Jvm.ClassFile.FieldType.int), 0, 0, 0), (yX8_listBySecond, prog_10_method_10_code, 4, (Option.none : Option Jvm.ClassFile.FieldType), 1, 21, 3), (yX8_rankByTwo, prog_10_method_11_code, 6, (Option.some Jvm.ClassFile.FieldType.int), 1, 26, 0), (yX8_measureShared, prog_10_method_12_code, 5, (Option.none : Option Jvm.ClassFile.FieldType), 1, 21, 3), (yX8_placeOf, prog_10_method_13_code, 2, (Option.some Jvm.ClassFile.FieldType.int), 0, 0, 0), (yX8_rankOf, prog_10_method_14_code, 2, (Option.some Jvm.ClassFile.FieldType.int), 0, 0, 0), (yX8_sharedAt, prog_10_method_15_code, 2, (Option.some Jvm.ClassFile.FieldType.int), 0, 0, 0), (yX8_lyndonStart, prog_10_method_16_code, 5, (Option.some Jvm.ClassFile.FieldType.int), 0, 0, 0), (yX8_freshParts, prog_10_method_17_code, 2, (Option.some Jvm.ClassFile.FieldType.int), 0, 0, 0), (yX8_differentParts, prog_10_method_18_code, 3, (Option.some Jvm.ClassFile.FieldType.int), 1, 21, 0), (yX8_choosePart, prog_10_method_19_code, 5, (Option.some Jvm.ClassFile.FieldType.boolean), 1, 21, 0), (yX8_aloneFrom, prog_10_method_20_code, 4, (Option.some Jvm.ClassFile.FieldType.int), 1, 21, 0), (yX8_leastAlone, prog_10_method_21_code, 5, (Option.some Jvm.ClassFile.FieldType.int), 2, 44, 0), (yX8_longestIn, prog_10_method_22_code, 5, (Option.some Jvm.ClassFile.FieldType.int), 1, 26, 0), (yX8_stretchOf, prog_10_method_23_code, 7, (Option.some Jvm.ClassFile.FieldType.int), 0, 0, 0)]
def jinf_2 : List JInf := [(yX8_firstOf, prog_10_method_24_code, 6, (Option.some Jvm.ClassFile.FieldType.int), 1, 26, 0), (yX8_ownerOf, prog_10_method_25_code, 2, (Option.some Jvm.ClassFile.FieldType.int), 0, 0, 0), (yX8_placeInOwner, prog_10_method_26_code, 2, (Option.some Jvm.ClassFile.FieldType.int), 1, 21, 0), (yX9_init, prog_11_method_1_code, 2, (Option.none : Option Jvm.ClassFile.FieldType), 1, 21, 3), (yX9_hasPlace, prog_11_method_2_code, 2, (Option.some Jvm.ClassFile.FieldType.boolean), 0, 0, 0), (yX9_hasPart, prog_11_method_3_code, 3, (Option.some Jvm.ClassFile.FieldType.boolean), 0, 0, 0), (yX9_hasSome, prog_11_method_4_code, 3, (Option.some Jvm.ClassFile.FieldType.boolean), 0, 0, 0), (yX9_room, prog_11_method_5_code, 1, (Option.some Jvm.ClassFile.FieldType.int), 0, 0, 0), (yX9_put, prog_11_method_6_code, 2, (Option.none : Option Jvm.ClassFile.FieldType), 0, 0, 3), (yX9_putPoint, prog_11_method_7_code, 3, (Option.none : Option Jvm.ClassFile.FieldType), 1, 21, 3), (yX9_putPart, prog_11_method_8_code, 4, (Option.none : Option Jvm.ClassFile.FieldType), 1, 26, 3), (yX9_putAhead, prog_11_method_9_code, 3, (Option.none : Option Jvm.ClassFile.FieldType), 1, 26, 3), (yX9_drop, prog_11_method_10_code, 3, (Option.none : Option Jvm.ClassFile.FieldType), 1, 26, 3), (yX9_become, prog_11_method_11_code, 2, (Option.none : Option Jvm.ClassFile.FieldType), 2, 49, 3), (yX9_isPair, prog_11_method_12_code, 2, (Option.some Jvm.ClassFile.FieldType.boolean), 0, 0, 0), (yX9_pointFrom, prog_11_method_13_code, 2, (Option.some Jvm.ClassFile.FieldType.int), 1, 21, 0), (yX9_isHalf, prog_11_method_14_code, 2, (Option.some Jvm.ClassFile.FieldType.boolean), 1, 21, 0), (yX9_against, prog_11_method_15_code, 3, (Option.some Jvm.ClassFile.FieldType.int), 1, 21, 0), (yX9_againstByPoints, prog_11_method_16_code, 5, (Option.some Jvm.ClassFile.FieldType.int), 2, 42, 0), (yX9_bySize, prog_11_method_17_code, 2, (Option.some Jvm.ClassFile.FieldType.int), 0, 0, 0), (yX10_init, prog_12_method_1_code, 3, (Option.none : Option Jvm.ClassFile.FieldType), 1, 21, 3), (yX10_clear, prog_12_method_2_code, 1, (Option.none : Option Jvm.ClassFile.FieldType), 0, 0, 3), (yX10_answer, prog_12_method_3_code, 3, (Option.some Jvm.ClassFile.FieldType.int), 0, 0, 0), (yX10_add, prog_12_method_4_code, 4, (Option.none : Option Jvm.ClassFile.FieldType), 1, 25, 3), (yX10_addByFirst, prog_12_method_5_code, 5, (Option.none : Option Jvm.ClassFile.FieldType), 1, 26, 3), (yX10_write, prog_12_method_6_code, 6, (Option.none : Option Jvm.ClassFile.FieldType), 0, 0, 3), (yX10_rowOf, prog_12_method_7_code, 4, (Option.some Jvm.ClassFile.FieldType.int), 1, 22, 0), (yX11_init, prog_1_method_1_code, 1, (Option.none : Option Jvm.ClassFile.FieldType), 4, 83, 3), (yX11_text, prog_1_method_2_code, 1, (Option.some Jvm.ClassFile.FieldType.int), 2, 42, 0), (yX11_units, prog_1_method_3_code, 7, (Option.some Jvm.ClassFile.FieldType.int), 4, 93, 0), (yX11_point, prog_1_method_4_code, 4, (Option.some Jvm.ClassFile.FieldType.int), 4, 93, 0), (yX11_copy, prog_1_method_5_code, 5, (Option.some Jvm.ClassFile.FieldType.int), 3, 73, 0), (yX11_append, prog_1_method_6_code, 7, (Option.some Jvm.ClassFile.FieldType.int), 4, 93, 0), (yX11_reversed, prog_1_method_7_code, 5, (Option.some Jvm.ClassFile.FieldType.int), 2, 42, 0), (yX11_insert, prog_1_method_8_code, 5, (Option.some Jvm.ClassFile.FieldType.int), 4, 93, 0), (yX11_remove, prog_1_method_9_code, 5, (Option.some Jvm.ClassFile.FieldType.int), 4, 93, 0), (yX11_undo, prog_1_method_10_code, 1, (Option.some Jvm.ClassFile.FieldType.int), 4, 92, 0), (yX11_at, prog_1_method_11_code, 4, (Option.some Jvm.ClassFile.FieldType.int), 1, 21, 0), (yX11_length, prog_1_method_12_code, 3, (Option.some Jvm.ClassFile.FieldType.int), 1, 21, 0), (yX11_points, prog_1_method_13_code, 5, (Option.some Jvm.ClassFile.FieldType.int), 1, 21, 0)]
def jinf_3 : List JInf := [(yX11_pointAt, prog_1_method_14_code, 6, (Option.some Jvm.ClassFile.FieldType.int), 2, 42, 0), (yX11_half, prog_1_method_15_code, 6, (Option.some Jvm.ClassFile.FieldType.int), 2, 42, 0), (yX11_order, prog_1_method_16_code, 6, (Option.some Jvm.ClassFile.FieldType.int), 3, 66, 0), (yX11_equalParts, prog_1_method_17_code, 9, (Option.some Jvm.ClassFile.FieldType.int), 1, 22, 0), (yX11_suffix, prog_1_method_18_code, 3, (Option.some Jvm.ClassFile.FieldType.int), 5, 117, 0), (yX11_rank, prog_1_method_19_code, 4, (Option.some Jvm.ClassFile.FieldType.int), 5, 117, 0), (yX11_common, prog_1_method_20_code, 7, (Option.some Jvm.ClassFile.FieldType.int), 1, 21, 0), (yX11_border, prog_1_method_21_code, 4, (Option.some Jvm.ClassFile.FieldType.int), 2, 48, 0), (yX11_find, prog_1_method_22_code, 6, (Option.some Jvm.ClassFile.FieldType.int), 2, 54, 0), (yX11_countOf, prog_1_method_23_code, 5, (Option.some Jvm.ClassFile.FieldType.int), 2, 51, 0), (yX11_wild, prog_1_method_24_code, 7, (Option.some Jvm.ClassFile.FieldType.int), 2, 54, 0), (yX11_near, prog_1_method_25_code, 7, (Option.some Jvm.ClassFile.FieldType.int), 2, 54, 0), (yX11_pattern, prog_1_method_26_code, 3, (Option.some Jvm.ClassFile.FieldType.int), 4, 91, 0), (yX11_matches, prog_1_method_27_code, 3, (Option.some Jvm.ClassFile.FieldType.int), 3, 72, 0), (yX11_match, prog_1_method_28_code, 3, (Option.some Jvm.ClassFile.FieldType.int), 1, 22, 0), (yX11_longestCommon, prog_1_method_29_code, 6, (Option.some Jvm.ClassFile.FieldType.int), 1, 26, 0), (yX11_ofMany, prog_1_method_30_code, 5, (Option.some Jvm.ClassFile.FieldType.int), 4, 95, 0), (yX11_period, prog_1_method_31_code, 5, (Option.some Jvm.ClassFile.FieldType.int), 2, 48, 0), (yX11_root, prog_1_method_32_code, 4, (Option.some Jvm.ClassFile.FieldType.int), 2, 48, 0), (yX11_squares, prog_1_method_33_code, 3, (Option.some Jvm.ClassFile.FieldType.int), 1, 24, 0), (yX11_runs, prog_1_method_34_code, 3, (Option.some Jvm.ClassFile.FieldType.int), 4, 97, 0), (yX11_run, prog_1_method_35_code, 3, (Option.some Jvm.ClassFile.FieldType.int), 1, 22, 0), (yX11_palindrome, prog_1_method_36_code, 4, (Option.some Jvm.ClassFile.FieldType.int), 1, 23, 0), (yX11_palindromes, prog_1_method_37_code, 3, (Option.some Jvm.ClassFile.FieldType.int), 2, 45, 0), (yX11_leastRotation, prog_1_method_38_code, 3, (Option.some Jvm.ClassFile.FieldType.int), 2, 48, 0), (yX11_lyndon, prog_1_method_39_code, 3, (Option.some Jvm.ClassFile.FieldType.int), 5, 117, 0), (yX11_parts, prog_1_method_40_code, 2, (Option.some Jvm.ClassFile.FieldType.int), 5, 117, 0), (yX11_nthPart, prog_1_method_41_code, 5, (Option.some Jvm.ClassFile.FieldType.int), 5, 117, 0), (yX11_unique, prog_1_method_42_code, 4, (Option.some Jvm.ClassFile.FieldType.int), 5, 117, 0), (yX11_leastUnique, prog_1_method_43_code, 2, (Option.some Jvm.ClassFile.FieldType.int), 5, 117, 0), (yX11_absent, prog_1_method_44_code, 4, (Option.some Jvm.ClassFile.FieldType.int), 4, 99, 0), (yX11_cover, prog_1_method_45_code, 3, (Option.some Jvm.ClassFile.FieldType.int), 3, 77, 0), (yX11_word, prog_1_method_46_code, 2, (Option.some Jvm.ClassFile.FieldType.int), 1, 22, 0), (yX11_distance, prog_1_method_47_code, 5, (Option.some Jvm.ClassFile.FieldType.int), 3, 75, 0), (yX11_script, prog_1_method_48_code, 3, (Option.some Jvm.ClassFile.FieldType.int), 1, 22, 0), (yX11_subsequence, prog_1_method_49_code, 5, (Option.some Jvm.ClassFile.FieldType.int), 4, 95, 0), (yX11_pair, prog_1_method_50_code, 3, (Option.some Jvm.ClassFile.FieldType.int), 1, 22, 0), (yX11_squeeze, prog_1_method_51_code, 4, (Option.some Jvm.ClassFile.FieldType.int), 4, 96, 0), (yX11_squeezed, prog_1_method_52_code, 3, (Option.some Jvm.ClassFile.FieldType.int), 1, 22, 0), (yX11_expand, prog_1_method_53_code, 2, (Option.some Jvm.ClassFile.FieldType.int), 4, 96, 0)]
def jinf_4 : List JInf := [(yX11_sort, prog_1_method_54_code, 3, (Option.some Jvm.ClassFile.FieldType.int), 5, 117, 0), (yX11_sorted, prog_1_method_55_code, 3, (Option.some Jvm.ClassFile.FieldType.int), 1, 22, 0), (yX11_unsort, prog_1_method_56_code, 2, (Option.some Jvm.ClassFile.FieldType.int), 2, 49, 0), (yX11_count, prog_1_method_57_code, 2, (Option.some Jvm.ClassFile.FieldType.int), 1, 22, 0), (yX11_forget, prog_1_method_58_code, 2, (Option.some Jvm.ClassFile.FieldType.int), 0, 0, 0), (yX11_isUnit, prog_1_method_59_code, 1, (Option.some Jvm.ClassFile.FieldType.boolean), 0, 0, 0), (yX11_makePart, prog_1_method_60_code, 5, (Option.some Jvm.ClassFile.FieldType.int), 2, 49, 0), (yX11_suffixesOf, prog_1_method_61_code, 2, (Option.some (Jvm.ClassFile.FieldType.object "UnitAtlas$Suffixes")), 4, 96, 1), (yX11_stepsAtHand, prog_1_method_62_code, 1, (Option.some (Jvm.ClassFile.FieldType.object "UnitAtlas$Steps")), 2, 40, 1), (yX12_init, prog_14_method_1_code, 1, (Option.none : Option Jvm.ClassFile.FieldType), 1, 20, 3), (yX12_in, prog_14_method_3_code, 6, (Option.some Jvm.ClassFile.FieldType.boolean), 0, 0, 0), (yX12_isText, prog_14_method_4_code, 2, (Option.some Jvm.ClassFile.FieldType.boolean), 1, 25, 0), (yX12_isPlace, prog_14_method_5_code, 3, (Option.some Jvm.ClassFile.FieldType.boolean), 2, 46, 0), (yX12_isPart, prog_14_method_6_code, 4, (Option.some Jvm.ClassFile.FieldType.boolean), 2, 46, 0), (yX12_unit, prog_14_method_7_code, 3, (Option.some Jvm.ClassFile.FieldType.int), 0, 0, 0), (yX12_keep, prog_14_method_8_code, 4, (Option.none : Option Jvm.ClassFile.FieldType), 1, 22, 3), (yX12_newText, prog_14_method_9_code, 1, (Option.some Jvm.ClassFile.FieldType.int), 2, 45, 0), (yX12_put, prog_14_method_10_code, 3, (Option.none : Option Jvm.ClassFile.FieldType), 0, 0, 3), (yX12_text, prog_14_method_11_code, 1, (Option.some Jvm.ClassFile.FieldType.int), 3, 65, 0), (yX12_units, prog_14_method_12_code, 6, (Option.some Jvm.ClassFile.FieldType.int), 2, 46, 0), (yX12_point, prog_14_method_13_code, 4, (Option.some Jvm.ClassFile.FieldType.int), 2, 46, 0), (yX12_copy, prog_14_method_14_code, 6, (Option.some Jvm.ClassFile.FieldType.int), 3, 69, 0), (yX12_append, prog_14_method_15_code, 6, (Option.some Jvm.ClassFile.FieldType.int), 3, 69, 0), (yX12_reversed, prog_14_method_16_code, 4, (Option.some Jvm.ClassFile.FieldType.int), 3, 65, 0), (yX12_insert, prog_14_method_17_code, 5, (Option.some Jvm.ClassFile.FieldType.int), 2, 46, 0), (yX12_remove, prog_14_method_18_code, 5, (Option.some Jvm.ClassFile.FieldType.int), 2, 46, 0), (yX12_undo, prog_14_method_19_code, 3, (Option.some Jvm.ClassFile.FieldType.int), 0, 0, 0), (yX12_at, prog_14_method_20_code, 3, (Option.some Jvm.ClassFile.FieldType.int), 3, 68, 0), (yX12_length, prog_14_method_21_code, 2, (Option.some Jvm.ClassFile.FieldType.int), 2, 46, 0), (yX12_isPair, prog_14_method_22_code, 3, (Option.some Jvm.ClassFile.FieldType.boolean), 1, 25, 0), (yX12_pointFrom, prog_14_method_23_code, 3, (Option.some Jvm.ClassFile.FieldType.int), 2, 47, 0), (yX12_points, prog_14_method_24_code, 4, (Option.some Jvm.ClassFile.FieldType.int), 2, 47, 0), (yX12_pointAt, prog_14_method_25_code, 5, (Option.some Jvm.ClassFile.FieldType.int), 3, 69, 0), (yX12_half, prog_14_method_26_code, 5, (Option.some Jvm.ClassFile.FieldType.int), 2, 47, 0), (yX12_order, prog_14_method_27_code, 8, (Option.some Jvm.ClassFile.FieldType.int), 3, 69, 0), (yX12_equalParts, prog_14_method_28_code, 7, (Option.some Jvm.ClassFile.FieldType.int), 2, 46, 0), (yX12_look, prog_14_method_29_code, 7, (Option.none : Option Jvm.ClassFile.FieldType), 1, 22, 3), (yX12_isLess, prog_14_method_30_code, 5, (Option.some Jvm.ClassFile.FieldType.boolean), 1, 22, 0), (yX12_orders, prog_14_method_31_code, 3, (Option.none : Option Jvm.ClassFile.FieldType), 3, 70, 3), (yX12_rankOf, prog_14_method_32_code, 5, (Option.some Jvm.ClassFile.FieldType.int), 2, 46, 0)]
def jinf_5 : List JInf := [(yX12_suffix, prog_14_method_33_code, 3, (Option.some Jvm.ClassFile.FieldType.int), 4, 92, 0), (yX12_rank, prog_14_method_34_code, 3, (Option.some Jvm.ClassFile.FieldType.int), 3, 70, 0), (yX12_common, prog_14_method_35_code, 4, (Option.some Jvm.ClassFile.FieldType.int), 3, 68, 0), (yX12_border, prog_14_method_36_code, 4, (Option.some Jvm.ClassFile.FieldType.int), 2, 48, 0), (yX12_stands, prog_14_method_37_code, 10, (Option.some Jvm.ClassFile.FieldType.boolean), 1, 22, 0), (yX12_place, prog_14_method_38_code, 8, (Option.some Jvm.ClassFile.FieldType.int), 2, 51, 0), (yX12_find, prog_14_method_39_code, 4, (Option.some Jvm.ClassFile.FieldType.int), 3, 78, 0), (yX12_countOf, prog_14_method_40_code, 5, (Option.some Jvm.ClassFile.FieldType.int), 2, 51, 0), (yX12_wild, prog_14_method_41_code, 5, (Option.some Jvm.ClassFile.FieldType.int), 3, 78, 0), (yX12_near, prog_14_method_42_code, 5, (Option.some Jvm.ClassFile.FieldType.int), 3, 78, 0), (yX12_pattern, prog_14_method_43_code, 3, (Option.some Jvm.ClassFile.FieldType.int), 2, 46, 0), (yX12_occurs, prog_14_method_44_code, 5, (Option.some Jvm.ClassFile.FieldType.boolean), 1, 22, 0), (yX12_matches, prog_14_method_45_code, 4, (Option.some Jvm.ClassFile.FieldType.int), 2, 46, 0), (yX12_match, prog_14_method_46_code, 3, (Option.some Jvm.ClassFile.FieldType.int), 1, 25, 0), (yX12_forget, prog_14_method_47_code, 2, (Option.some Jvm.ClassFile.FieldType.int), 0, 0, 0), (yX12_cover, prog_14_method_48_code, 6, (Option.some Jvm.ClassFile.FieldType.int), 2, 46, 0), (yX12_word, prog_14_method_49_code, 2, (Option.some Jvm.ClassFile.FieldType.int), 1, 25, 0), (yX12_longestCommon, prog_14_method_50_code, 9, (Option.some Jvm.ClassFile.FieldType.int), 2, 48, 0), (yX12_byKey, prog_14_method_51_code, 6, (Option.none : Option Jvm.ClassFile.FieldType), 0, 0, 3), (yX12_bySize, prog_14_method_52_code, 7, (Option.some Jvm.ClassFile.FieldType.int), 1, 25, 0), (yX12_isSame, prog_14_method_53_code, 7, (Option.some Jvm.ClassFile.FieldType.boolean), 0, 0, 0), (yX12_rankAll, prog_14_method_54_code, 5, (Option.none : Option Jvm.ClassFile.FieldType), 2, 51, 3), (yX12_manyOf, prog_14_method_55_code, 9, (Option.some Jvm.ClassFile.FieldType.int), 2, 51, 0), (yX12_ofMany, prog_14_method_56_code, 8, (Option.some Jvm.ClassFile.FieldType.int), 3, 79, 0), (yX12_periodOf, prog_14_method_57_code, 4, (Option.some Jvm.ClassFile.FieldType.int), 0, 0, 0), (yX12_period, prog_14_method_58_code, 4, (Option.some Jvm.ClassFile.FieldType.int), 3, 69, 0), (yX12_root, prog_14_method_59_code, 4, (Option.some Jvm.ClassFile.FieldType.int), 2, 48, 0), (yX12_squares, prog_14_method_60_code, 5, (Option.some Jvm.ClassFile.FieldType.int), 2, 48, 0), (yX12_runs, prog_14_method_61_code, 6, (Option.some Jvm.ClassFile.FieldType.int), 2, 48, 0), (yX12_run, prog_14_method_62_code, 3, (Option.some Jvm.ClassFile.FieldType.int), 1, 25, 0), (yX12_around, prog_14_method_63_code, 5, (Option.some Jvm.ClassFile.FieldType.int), 1, 22, 0), (yX12_palindrome, prog_14_method_64_code, 3, (Option.some Jvm.ClassFile.FieldType.int), 2, 46, 0), (yX12_palindromes, prog_14_method_65_code, 6, (Option.some Jvm.ClassFile.FieldType.int), 2, 46, 0), (yX12_turned, prog_14_method_66_code, 3, (Option.some Jvm.ClassFile.FieldType.int), 1, 22, 0), (yX12_leastRotation, prog_14_method_67_code, 6, (Option.some Jvm.ClassFile.FieldType.int), 2, 46, 0), (yX12_lyndon, prog_14_method_68_code, 6, (Option.some Jvm.ClassFile.FieldType.int), 2, 48, 0), (yX12_elsewhere, prog_14_method_69_code, 6, (Option.some Jvm.ClassFile.FieldType.int), 0, 0, 0), (yX12_parts, prog_14_method_70_code, 4, (Option.some Jvm.ClassFile.FieldType.int), 2, 48, 0), (yX12_nthPart, prog_14_method_71_code, 10, (Option.some Jvm.ClassFile.FieldType.int), 4, 92, 0), (yX12_uniqueFrom, prog_14_method_72_code, 4, (Option.some Jvm.ClassFile.FieldType.int), 1, 25, 0)]
def jinf_6 : List JInf := [(yX12_unique, prog_14_method_73_code, 3, (Option.some Jvm.ClassFile.FieldType.int), 3, 68, 0), (yX12_leastUnique, prog_14_method_74_code, 6, (Option.some Jvm.ClassFile.FieldType.int), 2, 48, 0), (yX12_signsOf, prog_14_method_75_code, 6, (Option.none : Option Jvm.ClassFile.FieldType), 1, 22, 3), (yX12_beginning, prog_14_method_76_code, 8, (Option.some Jvm.ClassFile.FieldType.int), 1, 25, 0), (yX12_power, prog_14_method_77_code, 4, (Option.some Jvm.ClassFile.FieldType.int), 0, 0, 0), (yX12_absent, prog_14_method_78_code, 5, (Option.some Jvm.ClassFile.FieldType.int), 3, 65, 0), (yX12_lesser, prog_14_method_79_code, 2, (Option.some Jvm.ClassFile.FieldType.int), 0, 0, 0), (yX12_distance, prog_14_method_80_code, 10, (Option.some Jvm.ClassFile.FieldType.int), 2, 46, 0), (yX12_script, prog_14_method_81_code, 3, (Option.some Jvm.ClassFile.FieldType.int), 1, 25, 0), (yX12_subsequence, prog_14_method_82_code, 9, (Option.some Jvm.ClassFile.FieldType.int), 2, 46, 0), (yX12_pair, prog_14_method_83_code, 3, (Option.some Jvm.ClassFile.FieldType.int), 1, 25, 0), (yX12_item, prog_14_method_84_code, 4, (Option.none : Option Jvm.ClassFile.FieldType), 0, 0, 3), (yX12_squeezeCopies, prog_14_method_85_code, 6, (Option.none : Option Jvm.ClassFile.FieldType), 2, 48, 3), (yX12_squeezePhrases, prog_14_method_86_code, 7, (Option.none : Option Jvm.ClassFile.FieldType), 1, 23, 3), (yX12_squeeze, prog_14_method_87_code, 3, (Option.some Jvm.ClassFile.FieldType.int), 3, 73, 0), (yX12_squeezed, prog_14_method_88_code, 3, (Option.some Jvm.ClassFile.FieldType.int), 1, 25, 0), (yX12_putPhrase, prog_14_method_89_code, 6, (Option.none : Option Jvm.ClassFile.FieldType), 1, 22, 3), (yX12_expand, prog_14_method_90_code, 4, (Option.some Jvm.ClassFile.FieldType.int), 3, 65, 0), (yX12_sort, prog_14_method_91_code, 6, (Option.some Jvm.ClassFile.FieldType.int), 4, 92, 0), (yX12_sorted, prog_14_method_92_code, 2, (Option.some Jvm.ClassFile.FieldType.int), 1, 25, 0), (yX12_unsort, prog_14_method_93_code, 4, (Option.some Jvm.ClassFile.FieldType.int), 3, 65, 0), (yX12_count, prog_14_method_94_code, 4, (Option.some Jvm.ClassFile.FieldType.int), 0, 0, 0), (yL_law, code, 4, ret, 6, 141, 0)]
def jinf (n : Nat) : List JInf := match n with
  | 0 => jinf_0
  | 1 => jinf_1
  | 2 => jinf_2
  | 3 => jinf_3
  | 4 => jinf_4
  | 5 => jinf_5
  | 6 => jinf_6
  | _ => []
def jinf0 : JInf := (⟨"", "", ""⟩, ⟨#[]⟩, 0, none, 0, 0, 0)
def jget (x : Nat) : JInf := jnth jinf0 (jinf (x / 40)) (x % 40)
def jname (x : Nat) : MethodName := (jget x).1
def jcode (x : Nat) : ByteArray := (jget x).2.1
def jmaxl (x : Nat) : Nat := (jget x).2.2.1
def jret (x : Nat) : Option FieldType := (jget x).2.2.2.1
def jfr (x : Nat) : Nat := (jget x).2.2.2.2.1
def jlo (x : Nat) : Nat := (jget x).2.2.2.2.2.1
def jtag (x : Nat) : Nat := (jget x).2.2.2.2.2.2
def jnestw : Cond → Bool
  | .fieldLinkNest .. => true
  | .methodLinkNest .. => true
  | .arrayOver (.object _) => true
  | _ => false
def jkeepw (w : Cond) : Bool := goodWord w || jnestw w
def jtbl : List Cond := lw_tbl.filter jkeepw
def jgtbl : List Cond := lw_tbl.filter goodWord
def jNw (U : State) : Prop := ∀ w ∈ lw_tbl, jnestw w = true → va_Nw w U
theorem jmem {i : Nat} {w : Cond} (h : lw_tbl[i]? = some w) (hk : jkeepw w = true) : w ∈ jtbl := List.mem_filter.mpr ⟨List.mem_of_getElem? h, hk⟩
theorem jNw.warm {s U : State} (hW : s.WarmedH U.vm) (h : jNw s) : jNw U := by
  intro w hw hk
  have h := h w hw hk
  unfold jnestw at hk
  split at hk
  · exact va_Nw.warmF hW h
  · exact va_Nw.warmM hW h
  · exact va_AO.moved hW.alike h
  · cases hk
theorem jNw.same {s U : State} (hv : s.vm = U.vm) (h : jNw s) : jNw U := by
  intro w hw hk
  have h := h w hw hk
  unfold jnestw at hk
  split at hk
  · exact va_Nw.same rfl hv h
  · exact va_Nw.same rfl hv h
  · exact va_AO.moved (hv ▸ Vm.Alike.refl s.vm) h
  · cases hk
theorem jNw.of {s : State} {A : Array Value} (h : ∀ w ∈ jtbl, w.before A s = true) : jNw s := by
  intro w hw hk
  have h := h w (List.mem_filter.mpr ⟨hw, by unfold jkeepw; rw [hk, Bool.or_true]⟩)
  unfold jnestw at hk
  split at hk
  · exact va_Nw.of rfl h
  · exact va_Nw.of rfl h
  · exact va_AO.of h
  · cases hk
theorem jtbl_of {s : State} {A : Array Value} (h1 : ∀ w ∈ jgtbl, w.before A s = true) (h2 : jNw s) : ∀ w ∈ jtbl, w.before A s = true := by
  intro w hw
  obtain ⟨hm, hk⟩ := List.mem_filter.mp hw
  by_cases hg : goodWord w = true
  · exact h1 w (List.mem_filter.mpr ⟨hm, hg⟩)
  · have hk : jnestw w = true := by unfold jkeepw at hk; simpa [hg] using hk
    have h := h2 w hm hk
    unfold jnestw at hk
    split at hk
    · exact va_Nw.use rfl h
    · exact va_Nw.use rfl h
    · exact va_AO.use h
    · cases hk
def jkinds (ci : Nat) : List (Nat × Nat) := match ci with
  | 0 => [(1, 100), (1, 101)]
  | 1 => [(1, 200), (0, 2101), (5, 2102)]
  | 2 => [(1, 300), (1, 301), (0, 2202)]
  | 3 => [(1, 400), (1, 401), (1, 402), (1, 403), (0, 2304), (0, 2305), (0, 2306), (0, 2307)]
  | 4 => [(1, 500), (1, 501), (0, 2402), (0, 2403), (0, 2404), (0, 2405)]
  | 5 => [(1, 600), (1, 601)]
  | 6 => [(1, 700), (1, 701), (1, 702), (0, 2603)]
  | 7 => [(1, 800)]
  | 8 => [(1, 900), (1, 901), (1, 902), (1, 903), (1, 904), (1, 905), (1, 906), (1, 907), (1, 908), (1, 909), (0, 2810), (0, 2811), (0, 2812), (0, 2813), (0, 2814)]
  | 9 => [(1, 1000), (0, 2901)]
  | 10 => [(1, 1100), (0, 3001), (0, 3002), (0, 3003)]
  | 11 => [(1, 1200), (1, 1201), (1, 1202), (1, 1203), (1, 1204), (1, 1205), (1, 1206), (1, 1207), (1, 1208), (1, 1209), (1, 1210), (1, 1211), (1, 1212), (1, 1213)]
  | 12 => [(0, 3200), (1, 1301), (1, 1302), (0, 3203), (1, 1304), (1, 1305), (1, 1306), (1, 1307), (1, 1308), (1, 1309), (0, 3210), (1, 1311), (1, 1312), (0, 3213), (1, 1314), (1, 1315), (0, 3216), (1, 1317), (1, 1318), (0, 3219), (1, 1320), (1, 1321), (1, 1322), (1, 1323), (1, 1324), (1, 1325), (1, 1326), (0, 3227), (1, 1328), (1, 1329), (1, 1330), (0, 3231), (1, 1332), (1, 1333), (1, 1334), (0, 3235), (1, 1336), (1, 1337), (1, 1338), (0, 3239), (1, 1340), (1, 1341), (0, 3242), (0, 3243), (1, 1344), (1, 1345), (1, 1346), (1, 1347), (1, 1348), (0, 3249), (1, 1350), (1, 1351)]
  | _ => []
end
section
/-! J: a small logic over the machine. All numbers are Ints; a memory is a function of kind, address, place.
kinds: 0 what stands at an address (1 int array, 2 boolean array, 3 and 4 arrays of texts and of kept, 10 + n an object of number n), 1 an array's length, 2 its ints, 3 its references, 4 at 0 0 the next address, 100 and on reference fields, 2000 and on int fields -/
abbrev JM : Type := Nat → Int → Int → Int
abbrev JV : Type := Nat × Int
abbrev JL : Type := List (Nat × JV)
abbrev JG : Type := va_G × (Nat → ClassId) × Nat × Launch
def jR (x : Int) : Prop := -2147483648 ≤ x ∧ x ≤ 2147483647
def jset (M : JM) (k : Nat) (a j v : Int) : JM := fun k' a' j' => if k' = k ∧ a' = a ∧ j' = j then v else M k' a' j'
def jrf (x : Int) : Option Nat := if x ≤ 0 then none else some x.toNat
def jv (v : JV) : Value := match v with
  | (0, x) => .int (Int32.ofInt x)
  | (1, x) => va_rf (jrf x)
  | (5, x) => .int (Int32.ofInt x)
  | (_, x) => .long (Int64.ofInt x)
def jok (v : JV) : Prop := (v.1 = 0 → jR v.2) ∧ (v.1 = 2 → -9223372036854775808 ≤ v.2 ∧ v.2 ≤ 9223372036854775807)
def jokM (M : JM) : Prop := ∀ k a j, (k = 1 ∨ k = 2 ∨ 2000 ≤ k) → jR (M k a j)
def jfs (ci : Nat) (M : JM) (a : Int) : List Value := (jkinds ci).map fun q => jv (q.1, M q.2 a 0)
def jcell (G : JG) (M : JM) (a : Nat) : va_E :=
  if M 0 a 0 = 1 then .inl (G.2.1 0, (M 1 a 0).toNat, .inl (fun j => Int32.ofInt (M 2 a j)))
  else if M 0 a 0 = 2 then .inl (G.2.1 1, (M 1 a 0).toNat, .inl (fun j => Int32.ofInt (M 2 a j)))
  else if M 0 a 0 = 3 then .inl (G.2.1 2, (M 1 a 0).toNat, .inr (.inr (.inr (.inr (fun j => jrf (M 3 a j))))))
  else if M 0 a 0 = 4 then .inl (G.2.1 3, (M 1 a 0).toNat, .inr (.inr (.inr (.inr (fun j => jrf (M 3 a j))))))
  else .inr ((M 0 a 0).toNat - 10, jfs ((M 0 a 0).toNat - 10) M a)
def jtys (G : JG) : List (ClassId × FieldType) := [(G.2.1 0, .int), (G.2.1 1, .boolean), (G.2.1 2, .object "UnitAtlas$Text"), (G.2.1 3, .object "UnitAtlas$Kept")]
def jA (G : JG) : Nat → Prop := fun q => G.2.2.1 ≤ q
/-- the heap holds the memory -/
def JR (G : JG) (M : JM) (H : Heap) : Prop := (∀ a : Nat, G.2.2.1 ≤ a → a < H.size → va_at G.1 vwCl (a, jcell G M a) H) ∧ M 4 0 0 = (H.size : Int) ∧ G.2.2.1 ≤ H.size ∧ 1 ≤ G.2.2.1 ∧ (∀ a : Int, M 0 a 0 ≠ 0 → (G.2.2.1 : Int) ≤ a ∧ a < M 4 0 0) ∧ ∀ a : Int, M 0 a 0 = 1 ∨ M 0 a 0 = 2 ∨ M 0 a 0 = 3 ∨ M 0 a 0 = 4 → 0 ≤ M 1 a 0
def jretv (t : Nat) (r : Int) : Option Value := if t = 3 then none else some (jv (t, r))
/-- a method's end -/
def JQ (G : JG) (t : Nat) (Q : Int → JM → Prop) : Array Value → State → Outcome → State → Prop := fun _ st oc u => ∃ (r : Int) (M : JM), oc = .returned (jretv t r) ∧ Q r M ∧ jok (t, r) ∧ jokM M ∧ JR G M u.heap ∧ va_F (jA G) st u
/-- a method's start -/
def JP (G : JG) (as : List JV) (M : JM) : Array Value → State → Prop := fun v U => v = (as.map jv).toArray ∧ JR G M U.heap ∧ va_K G.1 vwCl (jtys G) U ∧ jNw U
def jroom (y mc ms : Nat) : Room := { frames := jfr y, cells := mc, slots := ms, locals := jlo y }
def jwords (y : Nat) : List Cond := Cond.code (jname y) (jcode y) (jmaxl y) (jret y) :: jgtbl
/-- method y, called with these values over this memory, comes to its end with Q; at most mc cells of ms slots are new -/
def Runs (G : JG) (y mc ms : Nat) (as : List JV) (M : JM) (Q : Int → JM → Prop) : Prop := jokM M → (∀ v ∈ as, jok v) → Met G.2.2.2 (jname y) (jwords y) (jroom y mc ms) (JP G as M) (JQ G (jtag y) Q) mc ms (jA G)
def JC (G : JG) (x mc ms : Nat) (p : Program) (e : Env) (R : Room) (s : State) (m : MethodId) (args : Array Value) (below : List Frame) (meth : Method) (c : Code) : Prop :=
  p.tables.exec = Jvm.exec ∧ c.code = jcode x ∧ meth.sig.returnType = jret x ∧ c.maxLocals = jmaxl x ∧ s.vm.findClass (jname x).cls = some m.cls ∧ (∀ w ∈ jtbl, w.before args s = true) ∧ meth.locks = false ∧ meth.name = (jname x).name ∧ va_K G.1 vwCl (jtys G) s ∧ G.2.2.1 ≤ s.heap.size ∧ R = jroom x mc ms
def JX (G : JG) (x mc ms : Nat) (lv : JL) (st : List JV) (M : JM) (p : Program) (e : Env) (R : Room) (s : State) (m : MethodId) (args : Array Value) (below : List Frame) (meth : Method) (c : Code) (H : Heap) (locs : List Loc) (ls : Array Slot) : Prop :=
  JC G x mc ms p e R s m args below meth c ∧ lv_has ls (jmaxl x) (lv.map fun q => (q.1, jv q.2)) ∧ JR G M H ∧ va_S (jA G) s.heap H locs ∧ (∀ q ∈ lv, jok q.2) ∧ (∀ v ∈ st, jok v) ∧ jokM M
/-- the machine, in method x at pc with these locals, this stack and this memory, comes to the method's end with Q -/
def J (G : JG) (x mc ms : Nat) (Q : Int → JM → Prop) (cells slots pc : Nat) (lv : JL) (st : List JV) (M : JM) : Prop :=
  cells ≤ mc → slots ≤ ms → ∀ p e R s m args below meth c H locs ls, JX G x mc ms lv st M p e R s m args below meth c H locs ls →
    W p G.2.2.2 e R s m args below meth c H locs cells slots (MQ below (JQ G (jtag x) Q) args s mc ms (jA G)) (F0 m pc ls (st.map jv))
theorem jv_cat (v : JV) : (jv v).category = if v.1 = 0 ∨ v.1 = 1 ∨ v.1 = 5 then 1 else 2 := by
  obtain ⟨t, x⟩ := v
  rcases t with _ | _ | _ | _ | _ | _ | t
  · rfl
  · show (va_rf (jrf x)).category = 1
    unfold jrf; split <;> rfl
  · rfl
  · rfl
  · rfl
  · rfl
  · show 2 = if _ then _ else _
    rw [if_neg (by simp)]
theorem jok_i {x : Int} (h : jR x) : jok (0, x) := ⟨fun _ => h, fun h => by cases h⟩
theorem jok_r (x : Int) : jok (1, x) := ⟨fun h => (by cases h), fun h => by cases h⟩
theorem jok_3 (x : Int) : jok (3, x) := ⟨fun h => (by cases h), fun h => by cases h⟩
theorem jok_c {v : JV} {st : List JV} (h : jok v) (hs : ∀ w ∈ st, jok w) : ∀ w ∈ v :: st, jok w := fun w hw => (List.mem_cons.mp hw).elim (fun e => e ▸ h) (hs w)
theorem jok_t {v : JV} {st : List JV} (hs : ∀ w ∈ v :: st, jok w) : ∀ w ∈ st, jok w := fun w hw => hs w (List.mem_cons_of_mem _ hw)
theorem jok_h {v : JV} {st : List JV} (hs : ∀ w ∈ v :: st, jok w) : jok v := hs v List.mem_cons_self
theorem jok_R {x : Int} (h : jok (0, x)) : jR x := h.1 rfl
theorem j32 {x : Int} (h : jR x) : (Int32.ofInt x).toInt = x := Int32.toInt_ofInt_of_le (by unfold jR at h; omega) (by unfold jR at h; omega)
theorem j32_lt {a b : Int} (ha : jR a) (hb : jR b) : Int32.ofInt a < Int32.ofInt b ↔ a < b := by rw [Int32.lt_iff_toInt_lt, j32 ha, j32 hb]
theorem j32_le {a b : Int} (ha : jR a) (hb : jR b) : Int32.ofInt a ≤ Int32.ofInt b ↔ a ≤ b := by rw [Int32.le_iff_toInt_le, j32 ha, j32 hb]
theorem j32_eq {a b : Int} (ha : jR a) (hb : jR b) : Int32.ofInt a = Int32.ofInt b ↔ a = b := by rw [← Int32.toInt_inj, j32 ha, j32 hb]
theorem j32_nat {a : Int} (ha : jR a) (h0 : 0 ≤ a) : (Int32.ofInt a).toNatClampNeg = a.toNat := by
  show (Int32.ofInt a).toInt.toNat = a.toNat
  rw [j32 ha]
theorem jR_0 : jR 0 := by unfold jR; omega
/-- locals -/
def jlg : JL → Nat → Option JV
  | [], _ => none
  | q :: l, i => if q.1 = i then some q.2 else jlg l i
theorem jlg_mem : ∀ {l : JL} {i : Nat} {v : JV}, jlg l i = some v → (i, v) ∈ l
  | [], _, _, h => by cases h
  | q :: l, i, v, h => by
    unfold jlg at h
    split at h
    · rename_i e
      cases h
      rw [← e]
      exact List.mem_cons_self
    · exact List.mem_cons_of_mem _ (jlg_mem h)
def jls (l : JL) (i : Nat) (v : JV) : JL := (i, v) :: l.filter (fun q => !(q.1 == i) && !(q.1 + 1 == i && !(q.2.1 == 0 || q.2.1 == 1 || q.2.1 == 5)))
theorem jls_map (l : JL) (i : Nat) (v : JV) : (i, jv v) :: (l.map fun q => (q.1, jv q.2)).filter (fun q => !(q.1 == i) && !(q.1 + 1 == i && q.2.category == 2)) = (jls l i v).map fun q => (q.1, jv q.2) := by
  unfold jls
  rw [List.map_cons, List.filter_map]
  congr 2
  apply List.filter_congr
  intro q _
  simp only [Function.comp, jv_cat]
  rcases q with ⟨a, t, x⟩
  by_cases h : t = 0 ∨ t = 1 ∨ t = 5
  · rw [if_pos h]
    rcases h with rfl | rfl | rfl <;> simp
  · rw [if_neg h]
    have h0 : ¬ t = 0 := fun e => h (Or.inl e)
    have h1 : ¬ t = 1 := fun e => h (Or.inr (Or.inl e))
    have h5 : ¬ t = 5 := fun e => h (Or.inr (Or.inr e))
    have e0 : (t == 0) = false := by simp [h0]
    have e1 : (t == 1) = false := by simp [h1]
    have e5 : (t == 5) = false := by simp [h5]
    simp [e0, e1, e5]
theorem jls_ok {l : JL} {i : Nat} {v : JV} (h : ∀ q ∈ l, jok q.2) (hv : jok v) : ∀ q ∈ jls l i v, jok q.2 := by
  intro q hq
  unfold jls at hq
  rcases List.mem_cons.mp hq with rfl | hq
  · exact hv
  · exact h q (List.mem_filter.mp hq).1
theorem lv_of {ls : Array Slot} {n : Nat} {lv : JL} {i : Nat} {v : JV} (h : lv_has ls n (lv.map fun q => (q.1, jv q.2))) (hg : jlg lv i = some v) : ls[i]? = some (.val (jv v)) :=
  h.2.2 (i, jv v) (List.mem_map.mpr ⟨(i, v), jlg_mem hg, rfl⟩)
end
section
/-! rules of J, an instruction each -/
def jand (a b : Int) : Int := (Int32.ofInt a &&& Int32.ofInt b).toInt
def jshl (a b : Int) : Int := (Int32.ofInt a <<< (Int32.ofInt b &&& 31)).toInt
def jshr (a b : Int) : Int := (Int32.ofInt a >>> (Int32.ofInt b &&& 31)).toInt
def jland (a b : Int) : Int := (Int64.ofInt a &&& Int64.ofInt b).toInt
def jlor (a b : Int) : Int := (Int64.ofInt a ||| Int64.ofInt b).toInt
def jlshl (a b : Int) : Int := (Int64.ofInt a <<< ((Int32.ofInt b).toInt64 &&& 63)).toInt
def jlshr (a b : Int) : Int := (Int64.ofInt a >>> ((Int32.ofInt b).toInt64 &&& 63)).toInt
def jlushr (a b : Int) : Int := ((Int64.ofInt a).toUInt64 >>> ((Int32.ofInt b).toInt64.toUInt64 &&& Int64.toUInt64 63)).toInt64.toInt
def jl2i (a : Int) : Int := (Int64.ofInt a).toInt32.toInt
def jlcmp (a b : Int) : Int := if b < a then 1 else if a = b then 0 else -1
theorem jR_32 (z : Int32) : jR z.toInt := by
  have h1 := Int32.le_toInt z
  have h2 := Int32.toInt_lt z
  unfold jR; omega
theorem jok_64 (z : Int64) : jok (2, z.toInt) := by
  have h1 := Int64.le_toInt z
  have h2 := Int64.toInt_lt z
  exact ⟨fun h => (by cases h), fun _ => (by show _ ≤ z.toInt ∧ z.toInt ≤ _; omega)⟩
theorem j64 {x : Int} (h : jok (2, x)) : (Int64.ofInt x).toInt = x := by
  have := h.2 rfl
  exact Int64.toInt_ofInt_of_le (by simp at this; omega) (by simp at this; omega)
theorem jn8 {n : Int} (h : -128 ≤ n ∧ n ≤ 127) : (Int8.ofInt n).toInt32 = Int32.ofInt n := by
  rw [← Int32.toInt_inj, Int8.toInt_toInt32, Int8.toInt_ofInt_of_le (by omega) (by omega), j32 (by unfold jR; omega)]
theorem jn16 {n : Int} (h : -32768 ≤ n ∧ n ≤ 32767) : (Int16.ofInt n).toInt32 = Int32.ofInt n := by
  rw [← Int32.toInt_inj, Int16.toInt_toInt32, Int16.toInt_ofInt_of_le (by omega) (by omega), j32 (by unfold jR; omega)]
theorem ji2l {a : Int} (h : jR a) : (Int32.ofInt a).toInt64 = Int64.ofInt a := by
  rw [← Int64.toInt_inj, Int32.toInt_toInt64, j32 h, Int64.toInt_ofInt_of_le (by unfold jR at h; omega) (by unfold jR at h; omega)]
theorem jnI (n : Nat) : Int32.ofInt (n : Int) = nI n := by
  unfold nI
  first | rfl | exact Int32.ofInt_natCast n | simp
theorem jdiv {a b : Int} (ha : jR a) (hb : jR b) (h0 : 0 ≤ a) (h1 : 0 < b) : Int32.ofInt a / Int32.ofInt b = Int32.ofInt (a / b) := by
  obtain ⟨n, rfl⟩ := Int.eq_ofNat_of_zero_le h0
  obtain ⟨d, rfl⟩ := Int.eq_ofNat_of_zero_le (Int.le_of_lt h1)
  unfold jR at ha hb
  rw [jnI, jnI, pk_div (by omega) (by omega) (by omega), ← Int.natCast_ediv, jnI]
theorem jrem {a b : Int} (ha : jR a) (hb : jR b) (h0 : 0 ≤ a) (h1 : 0 < b) : Int32.ofInt a - Int32.ofInt a / Int32.ofInt b * Int32.ofInt b = Int32.ofInt (a % b) := by
  obtain ⟨n, rfl⟩ := Int.eq_ofNat_of_zero_le h0
  obtain ⟨d, rfl⟩ := Int.eq_ofNat_of_zero_le (Int.le_of_lt h1)
  unfold jR at ha hb
  rw [jnI, jnI, pk_rem (by omega) (by omega) (by omega), ← Int.natCast_emod, jnI]
theorem jlc {a b : Int} (ha : jok (2, a)) (hb : jok (2, b)) : lg_cmp (Int64.ofInt a) (Int64.ofInt b) = Int32.ofInt (jlcmp a b) := by
  unfold lg_cmp jlcmp
  have e1 : (Int64.ofInt a > Int64.ofInt b) ↔ b < a := by rw [gt_iff_lt, Int64.lt_iff_toInt_lt, j64 ha, j64 hb]
  have e2 : (Int64.ofInt a = Int64.ofInt b) ↔ a = b := by rw [← Int64.toInt_inj, j64 ha, j64 hb]
  by_cases h1 : b < a
  · rw [if_pos (e1.mpr h1), if_pos h1]; rfl
  · rw [if_neg (fun h => h1 (e1.mp h)), if_neg h1]
    by_cases h2 : a = b
    · rw [if_pos (e2.mpr h2), if_pos h2]; rfl
    · rw [if_neg (fun h => h2 (e2.mp h)), if_neg h2]; rfl
def jcmp (c : ClassFile.Cond) (a b : Int) : Prop := match c with
  | .eq => a = b
  | .ne => ¬ a = b
  | .lt => a < b
  | .ge => b ≤ a
  | .gt => b < a
  | .le => a ≤ b
section JRULES
variable {G : JG} {x mc ms : Nat} {Q : Int → JM → Prop} {cells slots pc : Nat} {lv : JL} {st : List JV} {M : JM}

theorem jr_iconst {n : Int} (hd : decode (jcode x) pc = .ok (.iconst n, 1)) (hn : jR n) (k : J G x mc ms Q cells slots (pc + 1) (lv) ((0, n) :: st) M) : J G x mc ms Q cells slots (pc) (lv) (st) M := by
  intro hcm hsm p e R s m args below meth c H locs ls X
  obtain ⟨C, hl, hr, hS, ol, os, oM⟩ := X
  exact lv_iconst C.1 C.2.1 hd rfl (k hcm hsm p e R s m args below meth c H locs ls ⟨C, hl, hr, hS, ol, jok_c (jok_i hn) os, oM⟩)
theorem jr_bipush {n : Int} (hd : decode (jcode x) pc = .ok (.bipush n, 2)) (hn : -128 ≤ n ∧ n ≤ 127) (k : J G x mc ms Q cells slots (pc + 2) (lv) ((0, n) :: st) M) : J G x mc ms Q cells slots (pc) (lv) (st) M := by
  intro hcm hsm p e R s m args below meth c H locs ls X
  obtain ⟨C, hl, hr, hS, ol, os, oM⟩ := X
  exact lv_bipush C.1 C.2.1 hd (jn8 hn) (k hcm hsm p e R s m args below meth c H locs ls ⟨C, hl, hr, hS, ol, jok_c (jok_i (by unfold jR; omega)) os, oM⟩)
theorem jr_sipush {n : Int} (hd : decode (jcode x) pc = .ok (.sipush n, 3)) (hn : -32768 ≤ n ∧ n ≤ 32767) (k : J G x mc ms Q cells slots (pc + 3) (lv) ((0, n) :: st) M) : J G x mc ms Q cells slots (pc) (lv) (st) M := by
  intro hcm hsm p e R s m args below meth c H locs ls X
  obtain ⟨C, hl, hr, hS, ol, os, oM⟩ := X
  exact lv_sipush C.1 C.2.1 hd (jn16 hn) (k hcm hsm p e R s m args below meth c H locs ls ⟨C, hl, hr, hS, ol, jok_c (jok_i (by unfold jR; omega)) os, oM⟩)
theorem jr_ldc {i : Nat} {n : Int} (hd : decode (jcode x) pc = .ok (.ldc i, 2)) (hn : jR n) (hc : Cond.constant (jname x).cls i (Int32.ofInt n) ∈ jtbl) (k : J G x mc ms Q cells slots (pc + 2) (lv) ((0, n) :: st) M) : J G x mc ms Q cells slots (pc) (lv) (st) M := by
  intro hcm hsm p e R s m args below meth c H locs ls X
  obtain ⟨C, hl, hr, hS, ol, os, oM⟩ := X
  exact lv_ldc C.1 C.2.1 C.2.2.2.2.1 (C.2.2.2.2.2.1 _ hc) hd (k hcm hsm p e R s m args below meth c H locs ls ⟨C, hl, hr, hS, ol, jok_c (jok_i hn) os, oM⟩)
theorem jr_ldc2 {i : Nat} {n : Int} (hd : decode (jcode x) pc = .ok (.ldc2_w i, 3)) (hn : jok (2, n)) (hc : Cond.constantLong (jname x).cls i (Int64.ofInt n) ∈ jtbl) (k : J G x mc ms Q cells slots (pc + 3) (lv) ((2, n) :: st) M) : J G x mc ms Q cells slots (pc) (lv) (st) M := by
  intro hcm hsm p e R s m args below meth c H locs ls X
  obtain ⟨C, hl, hr, hS, ol, os, oM⟩ := X
  exact lv_ldc2 C.1 C.2.1 C.2.2.2.2.1 (C.2.2.2.2.2.1 _ hc) hd (k hcm hsm p e R s m args below meth c H locs ls ⟨C, hl, hr, hS, ol, jok_c hn os, oM⟩)
theorem jr_lconst {n : Fin 2} (hd : decode (jcode x) pc = .ok (.lconst n, 1)) (k : J G x mc ms Q cells slots (pc + 1) (lv) ((2, ((n : Nat) : Int)) :: st) M) : J G x mc ms Q cells slots (pc) (lv) (st) M := by
  intro hcm hsm p e R s m args below meth c H locs ls X
  obtain ⟨C, hl, hr, hS, ol, os, oM⟩ := X
  exact lv_lconst C.1 C.2.1 hd (by rw [← Int64.toInt_inj]; have := n.isLt; have h : (n : Nat) = 0 ∨ (n : Nat) = 1 := by omega
                                   rcases h with h | h <;> rw [h] <;> rfl) (k hcm hsm p e R s m args below meth c H locs ls ⟨C, hl, hr, hS, ol, jok_c ⟨fun h => (by cases h), fun _ => (by have := n.isLt; simp; omega)⟩ os, oM⟩)
theorem jr_null (hd : decode (jcode x) pc = .ok (.aconst_null, 1)) (k : J G x mc ms Q cells slots (pc + 1) (lv) ((1, 0) :: st) M) : J G x mc ms Q cells slots (pc) (lv) (st) M := by
  intro hcm hsm p e R s m args below meth c H locs ls X
  obtain ⟨C, hl, hr, hS, ol, os, oM⟩ := X
  exact lv_null C.1 C.2.1 hd (k hcm hsm p e R s m args below meth c H locs ls ⟨C, hl, hr, hS, ol, jok_c (jok_r 0) os, oM⟩)
theorem jr_iload {i : Nat} {v : Int} (hd : decode (jcode x) pc = .ok (.iload i, 2)) (hg : jlg lv i = some (0, v)) (k : J G x mc ms Q cells slots (pc + 2) (lv) ((0, v) :: st) M) : J G x mc ms Q cells slots (pc) (lv) (st) M := by
  intro hcm hsm p e R s m args below meth c H locs ls X
  obtain ⟨C, hl, hr, hS, ol, os, oM⟩ := X
  exact lv_iload C.1 C.2.1 hd (lv_of hl hg) (k hcm hsm p e R s m args below meth c H locs ls ⟨C, hl, hr, hS, ol, jok_c (ol _ (jlg_mem hg)) os, oM⟩)
theorem jr_iload_n {i : Fin 4} {v : Int} (hd : decode (jcode x) pc = .ok (.iload_n i, 1)) (hg : jlg lv i = some (0, v)) (k : J G x mc ms Q cells slots (pc + 1) (lv) ((0, v) :: st) M) : J G x mc ms Q cells slots (pc) (lv) (st) M := by
  intro hcm hsm p e R s m args below meth c H locs ls X
  obtain ⟨C, hl, hr, hS, ol, os, oM⟩ := X
  exact lv_iload_n C.1 C.2.1 hd rfl (lv_of hl hg) (k hcm hsm p e R s m args below meth c H locs ls ⟨C, hl, hr, hS, ol, jok_c (ol _ (jlg_mem hg)) os, oM⟩)
theorem jr_lload {i : Nat} {v : Int} (hd : decode (jcode x) pc = .ok (.lload i, 2)) (hg : jlg lv i = some (2, v)) (k : J G x mc ms Q cells slots (pc + 2) (lv) ((2, v) :: st) M) : J G x mc ms Q cells slots (pc) (lv) (st) M := by
  intro hcm hsm p e R s m args below meth c H locs ls X
  obtain ⟨C, hl, hr, hS, ol, os, oM⟩ := X
  exact lv_lload C.1 C.2.1 hd (lv_of hl hg) (k hcm hsm p e R s m args below meth c H locs ls ⟨C, hl, hr, hS, ol, jok_c (ol _ (jlg_mem hg)) os, oM⟩)
theorem jr_lload_n {i : Fin 4} {v : Int} (hd : decode (jcode x) pc = .ok (.lload_n i, 1)) (hg : jlg lv i = some (2, v)) (k : J G x mc ms Q cells slots (pc + 1) (lv) ((2, v) :: st) M) : J G x mc ms Q cells slots (pc) (lv) (st) M := by
  intro hcm hsm p e R s m args below meth c H locs ls X
  obtain ⟨C, hl, hr, hS, ol, os, oM⟩ := X
  exact lv_lload_n C.1 C.2.1 hd rfl (lv_of hl hg) (k hcm hsm p e R s m args below meth c H locs ls ⟨C, hl, hr, hS, ol, jok_c (ol _ (jlg_mem hg)) os, oM⟩)
theorem jr_aload {i : Nat} {v : Int} (hd : decode (jcode x) pc = .ok (.aload i, 2)) (hg : jlg lv i = some (1, v)) (k : J G x mc ms Q cells slots (pc + 2) (lv) ((1, v) :: st) M) : J G x mc ms Q cells slots (pc) (lv) (st) M := by
  intro hcm hsm p e R s m args below meth c H locs ls X
  obtain ⟨C, hl, hr, hS, ol, os, oM⟩ := X
  have k := k hcm hsm p e R s m args below meth c H locs ls ⟨C, hl, hr, hS, ol, jok_c (jok_r v) os, oM⟩
  have hg := lv_of hl hg
  have e : ∀ r : Option Nat, jv (1, v) = va_rf r → W p G.2.2.2 e R s m args below meth c H locs cells slots (MQ below (JQ G (jtag x) Q) args s mc ms (jA G)) (F0 m pc ls (st.map jv)) := by
    intro r hv
    rw [hv] at hg
    have k2 : W p G.2.2.2 e R s m args below meth c H locs cells slots (MQ below (JQ G (jtag x) Q) args s mc ms (jA G)) (F0 m (pc + 2) ls (va_rf r :: st.map jv)) := by rw [← hv]; exact k
    cases r with
    | none => exact lv_aloadN C.1 C.2.1 hd hg k2
    | some q => exact lv_aload C.1 C.2.1 hd hg k2
  exact e _ rfl
theorem jr_istore {i : Nat} {v : Int} (hd : decode (jcode x) pc = .ok (.istore i, 2)) (hi : (i : Nat) < jmaxl x) (k : J G x mc ms Q cells slots (pc + 2) (jls lv i (0, v)) (st) M) : J G x mc ms Q cells slots (pc) (lv) ((0, v) :: st) M := by
  intro hcm hsm p e R s m args below meth c H locs ls X
  obtain ⟨C, hl, hr, hS, ol, os, oM⟩ := X
  exact lv_istore C.1 C.2.1 hd hl hi (jls_map lv i (0, v)) (fun ls' hl' => k hcm hsm p e R s m args below meth c H locs ls' ⟨C, hl', hr, hS, jls_ok ol (jok_h os), jok_t os, oM⟩)
theorem jr_astore {i : Nat} {v : Int} (hd : decode (jcode x) pc = .ok (.astore i, 2)) (hi : (i : Nat) < jmaxl x) (k : J G x mc ms Q cells slots (pc + 2) (jls lv i (1, v)) (st) M) : J G x mc ms Q cells slots (pc) (lv) ((1, v) :: st) M := by
  intro hcm hsm p e R s m args below meth c H locs ls X
  obtain ⟨C, hl, hr, hS, ol, os, oM⟩ := X
  have k : ∀ ls', lv_has ls' (jmaxl x) ((jls lv i (1, v)).map fun q => (q.1, jv q.2)) → _ := fun ls' hl' => k hcm hsm p e R s m args below meth c H locs ls' ⟨C, hl', hr, hS, jls_ok ol (jok_h os), jok_t os, oM⟩
  rw [← jls_map] at k
  show W p G.2.2.2 e R s m args below meth c H locs cells slots _ (F0 m pc ls (jv (1, v) :: st.map jv))
  revert k
  show (∀ ls', lv_has ls' (jmaxl x) (((i : Nat), va_rf (jrf v)) :: _) → _) → W p G.2.2.2 e R s m args below meth c H locs cells slots _ (F0 m pc ls (va_rf (jrf v) :: st.map jv))
  cases jrf v with
  | none => exact fun k => lv_astoreN C.1 C.2.1 hd hl hi rfl k
  | some q => exact fun k => lv_astore C.1 C.2.1 hd hl hi rfl k
theorem jr_aload_n {i : Fin 4} {v : Int} (hd : decode (jcode x) pc = .ok (.aload_n i, 1)) (hg : jlg lv i = some (1, v)) (k : J G x mc ms Q cells slots (pc + 1) (lv) ((1, v) :: st) M) : J G x mc ms Q cells slots (pc) (lv) (st) M := by
  intro hcm hsm p e R s m args below meth c H locs ls X
  obtain ⟨C, hl, hr, hS, ol, os, oM⟩ := X
  have k := k hcm hsm p e R s m args below meth c H locs ls ⟨C, hl, hr, hS, ol, jok_c (jok_r v) os, oM⟩
  have hg := lv_of hl hg
  have e : ∀ r : Option Nat, jv (1, v) = va_rf r → W p G.2.2.2 e R s m args below meth c H locs cells slots (MQ below (JQ G (jtag x) Q) args s mc ms (jA G)) (F0 m pc ls (st.map jv)) := by
    intro r hv
    rw [hv] at hg
    have k2 : W p G.2.2.2 e R s m args below meth c H locs cells slots (MQ below (JQ G (jtag x) Q) args s mc ms (jA G)) (F0 m (pc + 1) ls (va_rf r :: st.map jv)) := by rw [← hv]; exact k
    cases r with
    | none => exact lv_aload_nN C.1 C.2.1 hd rfl hg k2
    | some q => exact lv_aload_n C.1 C.2.1 hd rfl hg k2
  exact e _ rfl
theorem jr_istore_n {i : Fin 4} {v : Int} (hd : decode (jcode x) pc = .ok (.istore_n i, 1)) (hi : (i : Nat) < jmaxl x) (k : J G x mc ms Q cells slots (pc + 1) (jls lv i (0, v)) (st) M) : J G x mc ms Q cells slots (pc) (lv) ((0, v) :: st) M := by
  intro hcm hsm p e R s m args below meth c H locs ls X
  obtain ⟨C, hl, hr, hS, ol, os, oM⟩ := X
  exact lv_istore_n C.1 C.2.1 hd rfl hl hi (jls_map lv i (0, v)) (fun ls' hl' => k hcm hsm p e R s m args below meth c H locs ls' ⟨C, hl', hr, hS, jls_ok ol (jok_h os), jok_t os, oM⟩)
theorem jr_astore_n {i : Fin 4} {v : Int} (hd : decode (jcode x) pc = .ok (.astore_n i, 1)) (hi : (i : Nat) < jmaxl x) (k : J G x mc ms Q cells slots (pc + 1) (jls lv i (1, v)) (st) M) : J G x mc ms Q cells slots (pc) (lv) ((1, v) :: st) M := by
  intro hcm hsm p e R s m args below meth c H locs ls X
  obtain ⟨C, hl, hr, hS, ol, os, oM⟩ := X
  have k : ∀ ls', lv_has ls' (jmaxl x) ((jls lv i (1, v)).map fun q => (q.1, jv q.2)) → _ := fun ls' hl' => k hcm hsm p e R s m args below meth c H locs ls' ⟨C, hl', hr, hS, jls_ok ol (jok_h os), jok_t os, oM⟩
  rw [← jls_map] at k
  show W p G.2.2.2 e R s m args below meth c H locs cells slots _ (F0 m pc ls (jv (1, v) :: st.map jv))
  revert k
  show (∀ ls', lv_has ls' (jmaxl x) (((i : Nat), va_rf (jrf v)) :: _) → _) → W p G.2.2.2 e R s m args below meth c H locs cells slots _ (F0 m pc ls (va_rf (jrf v) :: st.map jv))
  cases jrf v with
  | none => exact fun k => lv_astore_nN C.1 C.2.1 hd rfl hl hi rfl k
  | some q => exact fun k => lv_astore_n C.1 C.2.1 hd rfl hl hi rfl k
theorem jr_iinc {i : Nat} {n v : Int} (hd : decode (jcode x) pc = .ok (.iinc i n, 3)) (hg : jlg lv i = some (0, v)) (hi : i < jmaxl x) (hR : jR (v + n)) (k : J G x mc ms Q cells slots (pc + 3) (jls lv i (0, v + n)) (st) M) : J G x mc ms Q cells slots (pc) (lv) (st) M := by
  intro hcm hsm p e R s m args below meth c H locs ls X
  obtain ⟨C, hl, hr, hS, ol, os, oM⟩ := X
  obtain ⟨j, hj⟩ := List.getElem?_of_mem (List.mem_map.mpr ⟨(i, (0, v)), jlg_mem hg, rfl⟩ : (i, jv (0, v)) ∈ lv.map fun q => (q.1, jv q.2))
  exact lv_iinc C.1 C.2.1 hd hl hj (show _ = Int32.ofInt (v + n) from (Int32.ofInt_add v n).symm) hi (jls_map lv i (0, v + n)) (fun ls' hl' => k hcm hsm p e R s m args below meth c H locs ls' ⟨C, hl', hr, hS, jls_ok ol (jok_i hR), os, oM⟩)
theorem jr_iadd {a b : Int} (hd : decode (jcode x) pc = .ok (.iadd, 1)) (hR : jR (a + b)) (k : J G x mc ms Q cells slots (pc + 1) (lv) ((0, a + b) :: st) M) : J G x mc ms Q cells slots (pc) (lv) ((0, b) :: (0, a) :: st) M := by
  intro hcm hsm p e R s m args below meth c H locs ls X
  obtain ⟨C, hl, hr, hS, ol, os, oM⟩ := X
  have k := k hcm hsm p e R s m args below meth c H locs ls ⟨C, hl, hr, hS, ol, jok_c (jok_i hR) (jok_t (jok_t os)), oM⟩
  refine lv_iadd C.1 C.2.1 hd ?_
  rw [← Int32.ofInt_add]
  exact k
theorem jr_isub {a b : Int} (hd : decode (jcode x) pc = .ok (.isub, 1)) (hR : jR (a - b)) (k : J G x mc ms Q cells slots (pc + 1) (lv) ((0, a - b) :: st) M) : J G x mc ms Q cells slots (pc) (lv) ((0, b) :: (0, a) :: st) M := by
  intro hcm hsm p e R s m args below meth c H locs ls X
  obtain ⟨C, hl, hr, hS, ol, os, oM⟩ := X
  have k := k hcm hsm p e R s m args below meth c H locs ls ⟨C, hl, hr, hS, ol, jok_c (jok_i hR) (jok_t (jok_t os)), oM⟩
  refine lv_isub C.1 C.2.1 hd ?_
  rw [← Int32.ofInt_sub]
  exact k
theorem jr_imul {a b : Int} (hd : decode (jcode x) pc = .ok (.imul, 1)) (hR : jR (a * b)) (k : J G x mc ms Q cells slots (pc + 1) (lv) ((0, a * b) :: st) M) : J G x mc ms Q cells slots (pc) (lv) ((0, b) :: (0, a) :: st) M := by
  intro hcm hsm p e R s m args below meth c H locs ls X
  obtain ⟨C, hl, hr, hS, ol, os, oM⟩ := X
  have k := k hcm hsm p e R s m args below meth c H locs ls ⟨C, hl, hr, hS, ol, jok_c (jok_i hR) (jok_t (jok_t os)), oM⟩
  refine lv_imul C.1 C.2.1 hd ?_
  rw [← Int32.ofInt_mul]
  exact k
theorem jr_idiv {a b : Int} (hd : decode (jcode x) pc = .ok (.idiv, 1)) (h0 : 0 ≤ a) (h1 : 0 < b) (k : J G x mc ms Q cells slots (pc + 1) (lv) ((0, a / b) :: st) M) : J G x mc ms Q cells slots (pc) (lv) ((0, b) :: (0, a) :: st) M := by
  intro hcm hsm p e R s m args below meth c H locs ls X
  obtain ⟨C, hl, hr, hS, ol, os, oM⟩ := X
  have ra := jok_R (jok_h (jok_t os))
  have rb := jok_R (jok_h os)
  have hq : 0 ≤ a / b ∧ a / b ≤ a := ⟨Int.ediv_nonneg h0 (by omega), Int.ediv_le_self b h0⟩
  have hm : 0 ≤ a % b ∧ a % b < b := ⟨Int.emod_nonneg a (by omega), Int.emod_lt_of_pos a h1⟩
  have hR : jR (a / b) := by unfold jR at ra rb ⊢; omega
  have k := k hcm hsm p e R s m args below meth c H locs ls ⟨C, hl, hr, hS, ol, jok_c (jok_i hR) (jok_t (jok_t os)), oM⟩
  refine lv_idiv C.1 C.2.1 hd (fun h => ?_) ?_
  · rw [show (0 : Int32) = Int32.ofInt 0 from rfl, j32_eq rb jR_0] at h; omega
  rw [jdiv ra rb h0 h1]
  exact k
theorem jr_irem {a b : Int} (hd : decode (jcode x) pc = .ok (.irem, 1)) (h0 : 0 ≤ a) (h1 : 0 < b) (k : J G x mc ms Q cells slots (pc + 1) (lv) ((0, a % b) :: st) M) : J G x mc ms Q cells slots (pc) (lv) ((0, b) :: (0, a) :: st) M := by
  intro hcm hsm p e R s m args below meth c H locs ls X
  obtain ⟨C, hl, hr, hS, ol, os, oM⟩ := X
  have ra := jok_R (jok_h (jok_t os))
  have rb := jok_R (jok_h os)
  have hq : 0 ≤ a / b ∧ a / b ≤ a := ⟨Int.ediv_nonneg h0 (by omega), Int.ediv_le_self b h0⟩
  have hm : 0 ≤ a % b ∧ a % b < b := ⟨Int.emod_nonneg a (by omega), Int.emod_lt_of_pos a h1⟩
  have hR : jR (a % b) := by unfold jR at ra rb ⊢; omega
  have k := k hcm hsm p e R s m args below meth c H locs ls ⟨C, hl, hr, hS, ol, jok_c (jok_i hR) (jok_t (jok_t os)), oM⟩
  refine lv_irem C.1 C.2.1 hd (fun h => ?_) ?_
  · rw [show (0 : Int32) = Int32.ofInt 0 from rfl, j32_eq rb jR_0] at h; omega
  rw [jrem ra rb h0 h1]
  exact k
theorem jr_iand {a b : Int} (hd : decode (jcode x) pc = .ok (.iand, 1)) (k : J G x mc ms Q cells slots (pc + 1) (lv) ((0, jand a b) :: st) M) : J G x mc ms Q cells slots (pc) (lv) ((0, b) :: (0, a) :: st) M := by
  intro hcm hsm p e R s m args below meth c H locs ls X
  obtain ⟨C, hl, hr, hS, ol, os, oM⟩ := X
  have k := k hcm hsm p e R s m args below meth c H locs ls ⟨C, hl, hr, hS, ol, jok_c (jok_i (jR_32 _)) (jok_t (jok_t os)), oM⟩
  refine lv_iand C.1 C.2.1 hd ?_
  have e1 : jv (0, jand a b) = .int _ := congrArg Value.int (Int32.ofInt_toInt _)
  rw [List.map_cons, e1] at k
  exact k
theorem jr_ishl {a b : Int} (hd : decode (jcode x) pc = .ok (.ishl, 1)) (k : J G x mc ms Q cells slots (pc + 1) (lv) ((0, jshl a b) :: st) M) : J G x mc ms Q cells slots (pc) (lv) ((0, b) :: (0, a) :: st) M := by
  intro hcm hsm p e R s m args below meth c H locs ls X
  obtain ⟨C, hl, hr, hS, ol, os, oM⟩ := X
  have k := k hcm hsm p e R s m args below meth c H locs ls ⟨C, hl, hr, hS, ol, jok_c (jok_i (jR_32 _)) (jok_t (jok_t os)), oM⟩
  refine lv_ishl C.1 C.2.1 hd ?_
  have e1 : jv (0, jshl a b) = .int _ := congrArg Value.int (Int32.ofInt_toInt _)
  rw [List.map_cons, e1] at k
  exact k
theorem jr_ishr {a b : Int} (hd : decode (jcode x) pc = .ok (.ishr, 1)) (k : J G x mc ms Q cells slots (pc + 1) (lv) ((0, jshr a b) :: st) M) : J G x mc ms Q cells slots (pc) (lv) ((0, b) :: (0, a) :: st) M := by
  intro hcm hsm p e R s m args below meth c H locs ls X
  obtain ⟨C, hl, hr, hS, ol, os, oM⟩ := X
  have k := k hcm hsm p e R s m args below meth c H locs ls ⟨C, hl, hr, hS, ol, jok_c (jok_i (jR_32 _)) (jok_t (jok_t os)), oM⟩
  refine lv_ishr C.1 C.2.1 hd ?_
  have e1 : jv (0, jshr a b) = .int _ := congrArg Value.int (Int32.ofInt_toInt _)
  rw [List.map_cons, e1] at k
  exact k
theorem jr_land {a b : Int} (hd : decode (jcode x) pc = .ok (.land, 1)) (k : J G x mc ms Q cells slots (pc + 1) (lv) ((2, jland a b) :: st) M) : J G x mc ms Q cells slots (pc) (lv) ((2, b) :: (2, a) :: st) M := by
  intro hcm hsm p e R s m args below meth c H locs ls X
  obtain ⟨C, hl, hr, hS, ol, os, oM⟩ := X
  have k := k hcm hsm p e R s m args below meth c H locs ls ⟨C, hl, hr, hS, ol, jok_c (jok_64 _) (jok_t (jok_t os)), oM⟩
  have e1 : jv (2, jland a b) = .long _ := congrArg Value.long (Int64.ofInt_toInt _)
  rw [List.map_cons, e1] at k
  exact lv_land C.1 C.2.1 hd k
theorem jr_lor {a b : Int} (hd : decode (jcode x) pc = .ok (.lor, 1)) (k : J G x mc ms Q cells slots (pc + 1) (lv) ((2, jlor a b) :: st) M) : J G x mc ms Q cells slots (pc) (lv) ((2, b) :: (2, a) :: st) M := by
  intro hcm hsm p e R s m args below meth c H locs ls X
  obtain ⟨C, hl, hr, hS, ol, os, oM⟩ := X
  have k := k hcm hsm p e R s m args below meth c H locs ls ⟨C, hl, hr, hS, ol, jok_c (jok_64 _) (jok_t (jok_t os)), oM⟩
  have e1 : jv (2, jlor a b) = .long _ := congrArg Value.long (Int64.ofInt_toInt _)
  rw [List.map_cons, e1] at k
  exact lv_lor C.1 C.2.1 hd k
theorem jr_lshl {a b : Int} (hd : decode (jcode x) pc = .ok (.lshl, 1)) (k : J G x mc ms Q cells slots (pc + 1) (lv) ((2, jlshl a b) :: st) M) : J G x mc ms Q cells slots (pc) (lv) ((0, b) :: (2, a) :: st) M := by
  intro hcm hsm p e R s m args below meth c H locs ls X
  obtain ⟨C, hl, hr, hS, ol, os, oM⟩ := X
  have k := k hcm hsm p e R s m args below meth c H locs ls ⟨C, hl, hr, hS, ol, jok_c (jok_64 _) (jok_t (jok_t os)), oM⟩
  have e1 : jv (2, jlshl a b) = .long _ := congrArg Value.long (Int64.ofInt_toInt _)
  rw [List.map_cons, e1] at k
  exact lv_lshl C.1 C.2.1 hd rfl k
theorem jr_lshr {a b : Int} (hd : decode (jcode x) pc = .ok (.lshr, 1)) (k : J G x mc ms Q cells slots (pc + 1) (lv) ((2, jlshr a b) :: st) M) : J G x mc ms Q cells slots (pc) (lv) ((0, b) :: (2, a) :: st) M := by
  intro hcm hsm p e R s m args below meth c H locs ls X
  obtain ⟨C, hl, hr, hS, ol, os, oM⟩ := X
  have k := k hcm hsm p e R s m args below meth c H locs ls ⟨C, hl, hr, hS, ol, jok_c (jok_64 _) (jok_t (jok_t os)), oM⟩
  have e1 : jv (2, jlshr a b) = .long _ := congrArg Value.long (Int64.ofInt_toInt _)
  rw [List.map_cons, e1] at k
  exact lv_lshr C.1 C.2.1 hd rfl k
theorem jr_lushr {a b : Int} (hd : decode (jcode x) pc = .ok (.lushr, 1)) (k : J G x mc ms Q cells slots (pc + 1) (lv) ((2, jlushr a b) :: st) M) : J G x mc ms Q cells slots (pc) (lv) ((0, b) :: (2, a) :: st) M := by
  intro hcm hsm p e R s m args below meth c H locs ls X
  obtain ⟨C, hl, hr, hS, ol, os, oM⟩ := X
  have k := k hcm hsm p e R s m args below meth c H locs ls ⟨C, hl, hr, hS, ol, jok_c (jok_64 _) (jok_t (jok_t os)), oM⟩
  have e1 : jv (2, jlushr a b) = .long _ := congrArg Value.long (Int64.ofInt_toInt _)
  rw [List.map_cons, e1] at k
  exact lv_lushr C.1 C.2.1 hd rfl k
theorem jr_i2l {a : Int} (hd : decode (jcode x) pc = .ok (.i2l, 1)) (k : J G x mc ms Q cells slots (pc + 1) (lv) ((2, a) :: st) M) : J G x mc ms Q cells slots (pc) (lv) ((0, a) :: st) M := by
  intro hcm hsm p e R s m args below meth c H locs ls X
  obtain ⟨C, hl, hr, hS, ol, os, oM⟩ := X
  have ra := jok_R (jok_h os)
  exact lv_i2l C.1 C.2.1 hd (ji2l ra) (k hcm hsm p e R s m args below meth c H locs ls ⟨C, hl, hr, hS, ol, jok_c ⟨fun h => (by cases h), fun _ => (by unfold jR at ra; simp; omega)⟩ (jok_t os), oM⟩)
theorem jr_l2i {a : Int} (hd : decode (jcode x) pc = .ok (.l2i, 1)) (k : J G x mc ms Q cells slots (pc + 1) (lv) ((0, jl2i a) :: st) M) : J G x mc ms Q cells slots (pc) (lv) ((2, a) :: st) M := by
  intro hcm hsm p e R s m args below meth c H locs ls X
  obtain ⟨C, hl, hr, hS, ol, os, oM⟩ := X
  have k := k hcm hsm p e R s m args below meth c H locs ls ⟨C, hl, hr, hS, ol, jok_c (jok_i (jR_32 _)) (jok_t os), oM⟩
  have e1 : jv (0, jl2i a) = .int _ := congrArg Value.int (Int32.ofInt_toInt _)
  rw [List.map_cons, e1] at k
  exact lv_l2i C.1 C.2.1 hd rfl k
theorem jr_lcmp {a b : Int} (hd : decode (jcode x) pc = .ok (.lcmp, 1)) (k : J G x mc ms Q cells slots (pc + 1) (lv) ((0, jlcmp a b) :: st) M) : J G x mc ms Q cells slots (pc) (lv) ((2, b) :: (2, a) :: st) M := by
  intro hcm hsm p e R s m args below meth c H locs ls X
  obtain ⟨C, hl, hr, hS, ol, os, oM⟩ := X
  have k := k hcm hsm p e R s m args below meth c H locs ls ⟨C, hl, hr, hS, ol, jok_c (jok_i (by unfold jlcmp jR; split; omega; split <;> omega)) (jok_t (jok_t os)), oM⟩
  refine W.lcmp C.1 C.2.1 hd ?_
  rw [jlc (jok_h (jok_t os)) (jok_h os)]
  exact k
theorem jr_dup {v : JV} (hd : decode (jcode x) pc = .ok (.dup, 1)) (hv : v.1 = 0 ∨ v.1 = 1 ∨ v.1 = 5) (k : J G x mc ms Q cells slots (pc + 1) (lv) (v :: v :: st) M) : J G x mc ms Q cells slots (pc) (lv) (v :: st) M := by
  intro hcm hsm p e R s m args below meth c H locs ls X
  obtain ⟨C, hl, hr, hS, ol, os, oM⟩ := X
  exact lv_dup C.1 C.2.1 hd (by rw [jv_cat, if_pos hv]) (k hcm hsm p e R s m args below meth c H locs ls ⟨C, hl, hr, hS, ol, jok_c (jok_h os) os, oM⟩)
theorem jr_dup2 {v u : JV} (hd : decode (jcode x) pc = .ok (.dup2, 1)) (hv : v.1 = 0 ∨ v.1 = 1 ∨ v.1 = 5) (hu : u.1 = 0 ∨ u.1 = 1 ∨ u.1 = 5) (k : J G x mc ms Q cells slots (pc + 1) (lv) (v :: u :: v :: u :: st) M) : J G x mc ms Q cells slots (pc) (lv) (v :: u :: st) M := by
  intro hcm hsm p e R s m args below meth c H locs ls X
  obtain ⟨C, hl, hr, hS, ol, os, oM⟩ := X
  exact lv_dup2_11 C.1 C.2.1 hd (by rw [jv_cat, if_pos hv]) (by rw [jv_cat, if_pos hu]) (k hcm hsm p e R s m args below meth c H locs ls ⟨C, hl, hr, hS, ol, jok_c (jok_h os) (jok_c (jok_h (jok_t os)) os), oM⟩)
theorem jr_pop {v : JV} (hd : decode (jcode x) pc = .ok (.pop, 1)) (hv : v.1 = 0 ∨ v.1 = 1 ∨ v.1 = 5) (k : J G x mc ms Q cells slots (pc + 1) (lv) (st) M) : J G x mc ms Q cells slots (pc) (lv) (v :: st) M := by
  intro hcm hsm p e R s m args below meth c H locs ls X
  obtain ⟨C, hl, hr, hS, ol, os, oM⟩ := X
  exact lv_pop C.1 C.2.1 hd (by rw [jv_cat, if_pos hv]) (k hcm hsm p e R s m args below meth c H locs ls ⟨C, hl, hr, hS, ol, jok_t os, oM⟩)
theorem jr_goto {off : Int} {t : Nat} (hd : decode (jcode x) pc = .ok (.goto off, 3)) (ht : (pc : Int) + off = t) (k : J G x mc ms Q cells slots (t) (lv) (st) M) : J G x mc ms Q cells slots (pc) (lv) (st) M := by
  intro hcm hsm p e R s m args below meth c H locs ls X
  obtain ⟨C, hl, hr, hS, ol, os, oM⟩ := X
  exact lv_goto C.1 C.2.1 hd ht (k hcm hsm p e R s m args below meth c H locs ls ⟨C, hl, hr, hS, ol, os, oM⟩)

theorem jr_icmp {cd : ClassFile.Cond} {off : Int} {t : Nat} {a b : Int} (hd : decode (jcode x) pc = .ok (.if_icmp cd off, 3)) (ht : (pc : Int) + off = t) (kt : jcmp cd a b → J G x mc ms Q cells slots (t) (lv) (st) M) (kf : ¬ jcmp cd a b → J G x mc ms Q cells slots (pc + 3) (lv) (st) M) : J G x mc ms Q cells slots (pc) (lv) ((0, b) :: (0, a) :: st) M := by
  intro hcm hsm p e R s m args below meth c H locs ls X
  obtain ⟨C, hl, hr, hS, ol, os, oM⟩ := X
  have ra := jok_R (jok_h (jok_t os))
  have rb := jok_R (jok_h os)
  have os' := jok_t (jok_t os)
  cases cd with
  | eq => exact lv_icmp_eq C.1 C.2.1 hd ht (fun h => kt ((j32_eq ra rb).mp h) hcm hsm p e R s m args below meth c H locs ls ⟨C, hl, hr, hS, ol, os', oM⟩) (fun h => kf (fun q => h ((j32_eq ra rb).mpr q)) hcm hsm p e R s m args below meth c H locs ls ⟨C, hl, hr, hS, ol, os', oM⟩)
  | ne => exact lv_icmp_ne C.1 C.2.1 hd ht (fun h => kt (fun q => h ((j32_eq ra rb).mpr q)) hcm hsm p e R s m args below meth c H locs ls ⟨C, hl, hr, hS, ol, os', oM⟩) (fun h => kf (fun q => q ((j32_eq ra rb).mp h)) hcm hsm p e R s m args below meth c H locs ls ⟨C, hl, hr, hS, ol, os', oM⟩)
  | lt => exact lv_icmp_lt C.1 C.2.1 hd ht (fun h => kt ((j32_lt ra rb).mp h) hcm hsm p e R s m args below meth c H locs ls ⟨C, hl, hr, hS, ol, os', oM⟩) (fun h => kf (fun q => h ((j32_lt ra rb).mpr q)) hcm hsm p e R s m args below meth c H locs ls ⟨C, hl, hr, hS, ol, os', oM⟩)
  | ge => exact lv_icmp_ge C.1 C.2.1 hd ht (fun h => kt ((j32_le rb ra).mp h) hcm hsm p e R s m args below meth c H locs ls ⟨C, hl, hr, hS, ol, os', oM⟩) (fun h => kf (fun q => h ((j32_le rb ra).mpr q)) hcm hsm p e R s m args below meth c H locs ls ⟨C, hl, hr, hS, ol, os', oM⟩)
  | gt => exact lv_icmp_gt C.1 C.2.1 hd ht (fun h => kt ((j32_lt rb ra).mp h) hcm hsm p e R s m args below meth c H locs ls ⟨C, hl, hr, hS, ol, os', oM⟩) (fun h => kf (fun q => h ((j32_lt rb ra).mpr q)) hcm hsm p e R s m args below meth c H locs ls ⟨C, hl, hr, hS, ol, os', oM⟩)
  | le => exact lv_icmp_le C.1 C.2.1 hd ht (fun h => kt ((j32_le ra rb).mp h) hcm hsm p e R s m args below meth c H locs ls ⟨C, hl, hr, hS, ol, os', oM⟩) (fun h => kf (fun q => h ((j32_le ra rb).mpr q)) hcm hsm p e R s m args below meth c H locs ls ⟨C, hl, hr, hS, ol, os', oM⟩)
theorem jr_ifc {cd : ClassFile.Cond} {off : Int} {t : Nat} {a : Int} (hd : decode (jcode x) pc = .ok (.ifCond cd off, 3)) (ht : (pc : Int) + off = t) (kt : jcmp cd a 0 → J G x mc ms Q cells slots (t) (lv) (st) M) (kf : ¬ jcmp cd a 0 → J G x mc ms Q cells slots (pc + 3) (lv) (st) M) : J G x mc ms Q cells slots (pc) (lv) ((0, a) :: st) M := by
  intro hcm hsm p e R s m args below meth c H locs ls X
  obtain ⟨C, hl, hr, hS, ol, os, oM⟩ := X
  have ra := jok_R (jok_h os)
  have rb := jR_0
  have os' := jok_t os
  cases cd with
  | eq => exact lv_if_eq C.1 C.2.1 hd ht (fun h => kt ((j32_eq ra rb).mp h) hcm hsm p e R s m args below meth c H locs ls ⟨C, hl, hr, hS, ol, os', oM⟩) (fun h => kf (fun q => h ((j32_eq ra rb).mpr q)) hcm hsm p e R s m args below meth c H locs ls ⟨C, hl, hr, hS, ol, os', oM⟩)
  | ne => exact lv_if_ne C.1 C.2.1 hd ht (fun h => kt (fun q => h ((j32_eq ra rb).mpr q)) hcm hsm p e R s m args below meth c H locs ls ⟨C, hl, hr, hS, ol, os', oM⟩) (fun h => kf (fun q => q ((j32_eq ra rb).mp h)) hcm hsm p e R s m args below meth c H locs ls ⟨C, hl, hr, hS, ol, os', oM⟩)
  | lt => exact lv_if_lt C.1 C.2.1 hd ht (fun h => kt ((j32_lt ra rb).mp h) hcm hsm p e R s m args below meth c H locs ls ⟨C, hl, hr, hS, ol, os', oM⟩) (fun h => kf (fun q => h ((j32_lt ra rb).mpr q)) hcm hsm p e R s m args below meth c H locs ls ⟨C, hl, hr, hS, ol, os', oM⟩)
  | ge => exact lv_if_ge C.1 C.2.1 hd ht (fun h => kt ((j32_le rb ra).mp h) hcm hsm p e R s m args below meth c H locs ls ⟨C, hl, hr, hS, ol, os', oM⟩) (fun h => kf (fun q => h ((j32_le rb ra).mpr q)) hcm hsm p e R s m args below meth c H locs ls ⟨C, hl, hr, hS, ol, os', oM⟩)
  | gt => exact lv_if_gt C.1 C.2.1 hd ht (fun h => kt ((j32_lt rb ra).mp h) hcm hsm p e R s m args below meth c H locs ls ⟨C, hl, hr, hS, ol, os', oM⟩) (fun h => kf (fun q => h ((j32_lt rb ra).mpr q)) hcm hsm p e R s m args below meth c H locs ls ⟨C, hl, hr, hS, ol, os', oM⟩)
  | le => exact lv_if_le C.1 C.2.1 hd ht (fun h => kt ((j32_le ra rb).mp h) hcm hsm p e R s m args below meth c H locs ls ⟨C, hl, hr, hS, ol, os', oM⟩) (fun h => kf (fun q => h ((j32_le ra rb).mpr q)) hcm hsm p e R s m args below meth c H locs ls ⟨C, hl, hr, hS, ol, os', oM⟩)
theorem jr_ifnull {off : Int} {t : Nat} {a : Int} (hd : decode (jcode x) pc = .ok (.ifnull off, 3)) (ht : (pc : Int) + off = t) (kt : a ≤ 0 → J G x mc ms Q cells slots (t) (lv) (st) M) (kf : ¬ a ≤ 0 → J G x mc ms Q cells slots (pc + 3) (lv) (st) M) : J G x mc ms Q cells slots (pc) (lv) ((1, a) :: st) M := by
  intro hcm hsm p e R s m args below meth c H locs ls X
  obtain ⟨C, hl, hr, hS, ol, os, oM⟩ := X
  have os' := jok_t os
  show W p G.2.2.2 e R s m args below meth c H locs cells slots _ (F0 m pc ls (va_rf (jrf a) :: st.map jv))
  by_cases h : a ≤ 0
  · rw [show jrf a = none from if_pos h]
    exact lv_ifnullN C.1 C.2.1 hd ht (kt h hcm hsm p e R s m args below meth c H locs ls ⟨C, hl, hr, hS, ol, os', oM⟩)
  · rw [show jrf a = some a.toNat from if_neg h]
    exact lv_ifnull C.1 C.2.1 hd (kf h hcm hsm p e R s m args below meth c H locs ls ⟨C, hl, hr, hS, ol, os', oM⟩)
theorem jr_ifnonnull {off : Int} {t : Nat} {a : Int} (hd : decode (jcode x) pc = .ok (.ifnonnull off, 3)) (ht : (pc : Int) + off = t) (kt : a ≤ 0 → J G x mc ms Q cells slots (pc + 3) (lv) (st) M) (kf : ¬ a ≤ 0 → J G x mc ms Q cells slots (t) (lv) (st) M) : J G x mc ms Q cells slots (pc) (lv) ((1, a) :: st) M := by
  intro hcm hsm p e R s m args below meth c H locs ls X
  obtain ⟨C, hl, hr, hS, ol, os, oM⟩ := X
  have os' := jok_t os
  show W p G.2.2.2 e R s m args below meth c H locs cells slots _ (F0 m pc ls (va_rf (jrf a) :: st.map jv))
  by_cases h : a ≤ 0
  · rw [show jrf a = none from if_pos h]
    exact lv_ifnonnullN C.1 C.2.1 hd (kt h hcm hsm p e R s m args below meth c H locs ls ⟨C, hl, hr, hS, ol, os', oM⟩)
  · rw [show jrf a = some a.toNat from if_neg h]
    exact lv_ifnonnull C.1 C.2.1 hd ht (kf h hcm hsm p e R s m args below meth c H locs ls ⟨C, hl, hr, hS, ol, os', oM⟩)
end JRULES
end
section
/-! what the tables say of each class, by its number -/
def jkty : Nat → FieldType → Bool
  | 0, .int => true
  | 5, .boolean => true
  | 1, .object _ => true
  | 1, .array _ => true
  | _, _ => false
def jfok (q : Nat × Nat) : Bool := (q.1 == 0 && Nat.ble 2000 q.2) || (q.1 == 5 && Nat.ble 2000 q.2) || (q.1 == 1 && Nat.ble 100 q.2 && Nat.blt q.2 2000)
def jclass (ci : Nat) (C : String) (T : u_T) (N : Nat) : Prop :=
  vwCl[ci]? = some (C, T, N) ∧ (∀ w ∈ u_ws C T N, w ∈ jtbl) ∧ (∃ ty : Nat → FieldType, (∀ k, k < N → parseFieldDescriptor (T k).2.2.1 = some (ty k)) ∧ ∀ k, k < N → jkty (jnth (0, 0) (jkinds ci) k).1 (ty k) = true) ∧ (∀ a, a < N → ∀ b, b < N → a ≠ b → (T a).2.1 ≠ (T b).2.1) ∧ (jkinds ci).length = N ∧ ((jkinds ci).map (fun q => q.2)).Nodup ∧ (jkinds ci).all jfok = true
set_option maxRecDepth 100000 in
theorem jin_0 : ∀ w ∈ u_ws RX0 TX0 2, w ∈ jtbl := by
  have e : u_ws RX0 TX0 2 = [275, 277].filterMap (fun i => lw_tbl[i]?) := by decide +kernel
  intro w hw
  obtain ⟨k, -, hk⟩ := List.mem_map.mp hw
  have hg : jkeepw w = true := by rw [← hk]; unfold u_lay; split <;> rfl
  rw [e] at hw
  obtain ⟨i, -, hi⟩ := List.mem_filterMap.mp hw
  exact jmem hi hg
theorem jcl_0 : jclass 0 RX0 TX0 2 := ⟨rfl, jin_0, ⟨tyX0, tyX0_ok, by decide +kernel⟩, nmX0, by decide +kernel, by decide +kernel, by decide +kernel⟩
set_option maxRecDepth 100000 in
theorem jin_1 : ∀ w ∈ u_ws RX1 TX1 3, w ∈ jtbl := by
  have e : u_ws RX1 TX1 3 = [145, 147, 149].filterMap (fun i => lw_tbl[i]?) := by decide +kernel
  intro w hw
  obtain ⟨k, -, hk⟩ := List.mem_map.mp hw
  have hg : jkeepw w = true := by rw [← hk]; unfold u_lay; split <;> rfl
  rw [e] at hw
  obtain ⟨i, -, hi⟩ := List.mem_filterMap.mp hw
  exact jmem hi hg
theorem jcl_1 : jclass 1 RX1 TX1 3 := ⟨rfl, jin_1, ⟨tyX1, tyX1_ok, by decide +kernel⟩, nmX1, by decide +kernel, by decide +kernel, by decide +kernel⟩
set_option maxRecDepth 100000 in
theorem jin_2 : ∀ w ∈ u_ws RX2 TX2 3, w ∈ jtbl := by
  have e : u_ws RX2 TX2 3 = [292, 294, 296].filterMap (fun i => lw_tbl[i]?) := by decide +kernel
  intro w hw
  obtain ⟨k, -, hk⟩ := List.mem_map.mp hw
  have hg : jkeepw w = true := by rw [← hk]; unfold u_lay; split <;> rfl
  rw [e] at hw
  obtain ⟨i, -, hi⟩ := List.mem_filterMap.mp hw
  exact jmem hi hg
theorem jcl_2 : jclass 2 RX2 TX2 3 := ⟨rfl, jin_2, ⟨tyX2, tyX2_ok, by decide +kernel⟩, nmX2, by decide +kernel, by decide +kernel, by decide +kernel⟩
set_option maxRecDepth 100000 in
theorem jin_3 : ∀ w ∈ u_ws RX3 TX3 8, w ∈ jtbl := by
  have e : u_ws RX3 TX3 8 = [250, 252, 254, 256, 258, 260, 262, 264].filterMap (fun i => lw_tbl[i]?) := by decide +kernel
  intro w hw
  obtain ⟨k, -, hk⟩ := List.mem_map.mp hw
  have hg : jkeepw w = true := by rw [← hk]; unfold u_lay; split <;> rfl
  rw [e] at hw
  obtain ⟨i, -, hi⟩ := List.mem_filterMap.mp hw
  exact jmem hi hg
theorem jcl_3 : jclass 3 RX3 TX3 8 := ⟨rfl, jin_3, ⟨tyX3, tyX3_ok, by decide +kernel⟩, nmX3, by decide +kernel, by decide +kernel, by decide +kernel⟩
set_option maxRecDepth 100000 in
theorem jin_4 : ∀ w ∈ u_ws RX4 TX4 6, w ∈ jtbl := by
  have e : u_ws RX4 TX4 6 = [163, 165, 167, 169, 171, 173].filterMap (fun i => lw_tbl[i]?) := by decide +kernel
  intro w hw
  obtain ⟨k, -, hk⟩ := List.mem_map.mp hw
  have hg : jkeepw w = true := by rw [← hk]; unfold u_lay; split <;> rfl
  rw [e] at hw
  obtain ⟨i, -, hi⟩ := List.mem_filterMap.mp hw
  exact jmem hi hg
theorem jcl_4 : jclass 4 RX4 TX4 6 := ⟨rfl, jin_4, ⟨tyX4, tyX4_ok, by decide +kernel⟩, nmX4, by decide +kernel, by decide +kernel, by decide +kernel⟩
set_option maxRecDepth 100000 in
theorem jin_5 : ∀ w ∈ u_ws RX5 TX5 2, w ∈ jtbl := by
  have e : u_ws RX5 TX5 2 = [355, 357].filterMap (fun i => lw_tbl[i]?) := by decide +kernel
  intro w hw
  obtain ⟨k, -, hk⟩ := List.mem_map.mp hw
  have hg : jkeepw w = true := by rw [← hk]; unfold u_lay; split <;> rfl
  rw [e] at hw
  obtain ⟨i, -, hi⟩ := List.mem_filterMap.mp hw
  exact jmem hi hg
theorem jcl_5 : jclass 5 RX5 TX5 2 := ⟨rfl, jin_5, ⟨tyX5, tyX5_ok, by decide +kernel⟩, nmX5, by decide +kernel, by decide +kernel, by decide +kernel⟩
set_option maxRecDepth 100000 in
theorem jin_6 : ∀ w ∈ u_ws RX6 TX6 4, w ∈ jtbl := by
  have e : u_ws RX6 TX6 4 = [335, 337, 339, 341].filterMap (fun i => lw_tbl[i]?) := by decide +kernel
  intro w hw
  obtain ⟨k, -, hk⟩ := List.mem_map.mp hw
  have hg : jkeepw w = true := by rw [← hk]; unfold u_lay; split <;> rfl
  rw [e] at hw
  obtain ⟨i, -, hi⟩ := List.mem_filterMap.mp hw
  exact jmem hi hg
theorem jcl_6 : jclass 6 RX6 TX6 4 := ⟨rfl, jin_6, ⟨tyX6, tyX6_ok, by decide +kernel⟩, nmX6, by decide +kernel, by decide +kernel, by decide +kernel⟩
set_option maxRecDepth 100000 in
theorem jin_7 : ∀ w ∈ u_ws RX7 TX7 1, w ∈ jtbl := by
  have e : u_ws RX7 TX7 1 = [946].filterMap (fun i => lw_tbl[i]?) := by decide +kernel
  intro w hw
  obtain ⟨k, -, hk⟩ := List.mem_map.mp hw
  have hg : jkeepw w = true := by rw [← hk]; unfold u_lay; split <;> rfl
  rw [e] at hw
  obtain ⟨i, -, hi⟩ := List.mem_filterMap.mp hw
  exact jmem hi hg
theorem jcl_7 : jclass 7 RX7 TX7 1 := ⟨rfl, jin_7, ⟨tyX7, tyX7_ok, by decide +kernel⟩, nmX7, by decide +kernel, by decide +kernel, by decide +kernel⟩
set_option maxRecDepth 100000 in
theorem jin_8 : ∀ w ∈ u_ws RX8 TX8 15, w ∈ jtbl := by
  have e : u_ws RX8 TX8 15 = [200, 202, 204, 206, 208, 210, 212, 214, 216, 218, 220, 222, 224, 226, 228].filterMap (fun i => lw_tbl[i]?) := by decide +kernel
  intro w hw
  obtain ⟨k, -, hk⟩ := List.mem_map.mp hw
  have hg : jkeepw w = true := by rw [← hk]; unfold u_lay; split <;> rfl
  rw [e] at hw
  obtain ⟨i, -, hi⟩ := List.mem_filterMap.mp hw
  exact jmem hi hg
theorem jcl_8 : jclass 8 RX8 TX8 15 := ⟨rfl, jin_8, ⟨tyX8, tyX8_ok, by decide +kernel⟩, nmX8, by decide +kernel, by decide +kernel, by decide +kernel⟩
set_option maxRecDepth 100000 in
theorem jin_9 : ∀ w ∈ u_ws RX9 TX9 2, w ∈ jtbl := by
  have e : u_ws RX9 TX9 2 = [128, 130].filterMap (fun i => lw_tbl[i]?) := by decide +kernel
  intro w hw
  obtain ⟨k, -, hk⟩ := List.mem_map.mp hw
  have hg : jkeepw w = true := by rw [← hk]; unfold u_lay; split <;> rfl
  rw [e] at hw
  obtain ⟨i, -, hi⟩ := List.mem_filterMap.mp hw
  exact jmem hi hg
theorem jcl_9 : jclass 9 RX9 TX9 2 := ⟨rfl, jin_9, ⟨tyX9, tyX9_ok, by decide +kernel⟩, nmX9, by decide +kernel, by decide +kernel, by decide +kernel⟩
set_option maxRecDepth 100000 in
theorem jin_10 : ∀ w ∈ u_ws RX10 TX10 4, w ∈ jtbl := by
  have e : u_ws RX10 TX10 4 = [320, 322, 324, 326].filterMap (fun i => lw_tbl[i]?) := by decide +kernel
  intro w hw
  obtain ⟨k, -, hk⟩ := List.mem_map.mp hw
  have hg : jkeepw w = true := by rw [← hk]; unfold u_lay; split <;> rfl
  rw [e] at hw
  obtain ⟨i, -, hi⟩ := List.mem_filterMap.mp hw
  exact jmem hi hg
theorem jcl_10 : jclass 10 RX10 TX10 4 := ⟨rfl, jin_10, ⟨tyX10, tyX10_ok, by decide +kernel⟩, nmX10, by decide +kernel, by decide +kernel, by decide +kernel⟩
set_option maxRecDepth 100000 in
theorem jin_11 : ∀ w ∈ u_ws RX11 TX11 14, w ∈ jtbl := by
  have e : u_ws RX11 TX11 14 = [376, 378, 380, 382, 384, 386, 388, 390, 392, 394, 396, 398, 400, 402].filterMap (fun i => lw_tbl[i]?) := by decide +kernel
  intro w hw
  obtain ⟨k, -, hk⟩ := List.mem_map.mp hw
  have hg : jkeepw w = true := by rw [← hk]; unfold u_lay; split <;> rfl
  rw [e] at hw
  obtain ⟨i, -, hi⟩ := List.mem_filterMap.mp hw
  exact jmem hi hg
theorem jcl_11 : jclass 11 RX11 TX11 14 := ⟨rfl, jin_11, ⟨tyX11, tyX11_ok, by decide +kernel⟩, nmX11, by decide +kernel, by decide +kernel, by decide +kernel⟩
set_option maxRecDepth 100000 in
theorem jin_12 : ∀ w ∈ u_ws RX12 TX12 52, w ∈ jtbl := by
  have e : u_ws RX12 TX12 52 = [1149, 1151, 1153, 1155, 1157, 1159, 1161, 1163, 1165, 1167, 1169, 1171, 1173, 1175, 1177, 1179, 1181, 1183, 1185, 1187, 1189, 1191, 1193, 1195, 1197, 1199, 1201, 1203, 1205, 1207, 1209, 1211, 1213, 1215, 1217, 1219, 1221, 1223, 1225, 1227, 1229, 1231, 1233, 1235, 1237, 1239, 1241, 1243, 1245, 1247, 1249, 1251].filterMap (fun i => lw_tbl[i]?) := by decide +kernel
  intro w hw
  obtain ⟨k, -, hk⟩ := List.mem_map.mp hw
  have hg : jkeepw w = true := by rw [← hk]; unfold u_lay; split <;> rfl
  rw [e] at hw
  obtain ⟨i, -, hi⟩ := List.mem_filterMap.mp hw
  exact jmem hi hg
theorem jcl_12 : jclass 12 RX12 TX12 52 := ⟨rfl, jin_12, ⟨tyX12, tyX12_ok, by decide +kernel⟩, nmX12, by decide +kernel, by decide +kernel, by decide +kernel⟩
theorem jclass_all : ∀ (ci : Nat) (q : vw_C), vwCl[ci]? = some q → jclass ci q.1 q.2.1 q.2.2
  | 0, _, h => by cases h; exact jcl_0
  | 1, _, h => by cases h; exact jcl_1
  | 2, _, h => by cases h; exact jcl_2
  | 3, _, h => by cases h; exact jcl_3
  | 4, _, h => by cases h; exact jcl_4
  | 5, _, h => by cases h; exact jcl_5
  | 6, _, h => by cases h; exact jcl_6
  | 7, _, h => by cases h; exact jcl_7
  | 8, _, h => by cases h; exact jcl_8
  | 9, _, h => by cases h; exact jcl_9
  | 10, _, h => by cases h; exact jcl_10
  | 11, _, h => by cases h; exact jcl_11
  | 12, _, h => by cases h; exact jcl_12
  | n + 13, _, h => by cases h
end
section
/-! rules of J over the heap -/
theorem jset_k {M : JM} {k : Nat} {a j v : Int} {k' : Nat} (h : k' ≠ k) (a' j' : Int) : jset M k a j v k' a' j' = M k' a' j' := if_neg fun e => h e.1
theorem jset_a {M : JM} {k : Nat} {a j v : Int} {a' : Int} (h : a' ≠ a) (k' : Nat) (j' : Int) : jset M k a j v k' a' j' = M k' a' j' := if_neg fun e => h e.2.1
theorem jset_s {M : JM} {k : Nat} {a j v : Int} : jset M k a j v k a j = v := if_pos ⟨rfl, rfl, rfl⟩
theorem jset_j {M : JM} {k : Nat} {a j v : Int} {j' : Int} (h : j' ≠ j) (k' : Nat) (a' : Int) : jset M k a j v k' a' j' = M k' a' j' := if_neg fun e => h e.2.2
theorem jokM_set {M : JM} {k : Nat} {a j v : Int} (h : jokM M) (hv : (k = 1 ∨ k = 2 ∨ 2000 ≤ k) → jR v) : jokM (jset M k a j v) := by
  intro k' a' j' hk
  unfold jset
  split
  · rename_i e
    exact hv (e.1 ▸ hk)
  · exact h k' a' j' hk
theorem jcell_obj {G : JG} {M : JM} {a ci : Nat} (h : M 0 a 0 = 10 + (ci : Int)) : jcell G M a = .inr (ci, jfs ci M a) := by
  unfold jcell
  rw [if_neg (by omega), if_neg (by omega), if_neg (by omega), if_neg (by omega), h, show (10 + (ci : Int)).toNat - 10 = ci by omega]
theorem jcell_1 {G : JG} {M : JM} {a : Nat} (h : M 0 a 0 = 1) : jcell G M a = .inl (G.2.1 0, (M 1 a 0).toNat, .inl (fun j => Int32.ofInt (M 2 a j))) := if_pos h
theorem jcell_2 {G : JG} {M : JM} {a : Nat} (h : M 0 a 0 = 2) : jcell G M a = .inl (G.2.1 1, (M 1 a 0).toNat, .inl (fun j => Int32.ofInt (M 2 a j))) := by
  unfold jcell
  rw [if_neg (by omega), if_pos h]
theorem jcell_3 {G : JG} {M : JM} {a : Nat} (h : M 0 a 0 = 3) : jcell G M a = .inl (G.2.1 2, (M 1 a 0).toNat, .inr (.inr (.inr (.inr (fun j => jrf (M 3 a j)))))) := by
  unfold jcell
  rw [if_neg (by omega), if_neg (by omega), if_pos h]
theorem jcell_4 {G : JG} {M : JM} {a : Nat} (h : M 0 a 0 = 4) : jcell G M a = .inl (G.2.1 3, (M 1 a 0).toNat, .inr (.inr (.inr (.inr (fun j => jrf (M 3 a j)))))) := by
  unfold jcell
  rw [if_neg (by omega), if_neg (by omega), if_neg (by omega), if_pos h]
theorem jcell_same {G : JG} {M M' : JM} {a : Nat} (h0 : M' 0 a 0 = M 0 a 0) (h1 : M' 1 a 0 = M 1 a 0) (h2 : ∀ j, M' 2 a j = M 2 a j) (h3 : ∀ j, M' 3 a j = M 3 a j) (hf : ∀ k, 100 ≤ k → M' k a 0 = M k a 0) : jcell G M' a = jcell G M a := by
  have e : ∀ ci, jfs ci M' a = jfs ci M a := by
    intro ci
    unfold jfs
    apply List.map_congr_left
    intro q hq
    have h100 : 100 ≤ q.2 := by
      have h13 : ci < 13 := by
        apply Classical.byContradiction
        intro h
        have : jkinds ci = [] := by
          unfold jkinds
          split <;> first | omega | rfl
        rw [this] at hq
        cases hq
      have hv : ∃ r, vwCl[ci]? = some r := ⟨vwCl[ci]'h13, List.getElem?_eq_getElem h13⟩
      obtain ⟨r, hr⟩ := hv
      have := List.all_eq_true.mp (jclass_all ci r hr).2.2.2.2.2.2 q hq
      unfold jfok at this
      simp only [Bool.or_eq_true, Bool.and_eq_true, Nat.ble_eq] at this
      omega
    rw [hf q.2 h100]
  unfold jcell
  rw [h0, h1]
  simp only [h2, h3, e]
/-- where something stands -/
theorem JR.at {G : JG} {M : JM} {H : Heap} (h : JR G M H) {a : Int} (ha : M 0 a 0 ≠ 0) : ∃ q : Nat, a = (q : Int) ∧ G.2.2.1 ≤ q ∧ q < H.size ∧ 0 < q ∧ va_at G.1 vwCl (q, jcell G M q) H := by
  obtain ⟨h1, h2, h3, h4, h5, -⟩ := h
  have h6 := h5 a ha
  rw [h2] at h6
  refine ⟨a.toNat, by omega, by omega, by omega, by omega, h1 a.toNat (by omega) (by omega)⟩
theorem JR.upd {G : JG} {M M' : JM} {H H1 : Heap} {a : Nat} (h : JR G M H) (hz : H1.size = H.size) (ho : ∀ q, q ≠ a → H1[q]? = H[q]?) (hc : ∀ q : Nat, q ≠ a → jcell G M' q = jcell G M q) (he : va_at G.1 vwCl (a, jcell G M' a) H1) (h0 : ∀ q, M' 0 q 0 = M 0 q 0) (h1 : ∀ q, M' 1 q 0 = M 1 q 0) (h4 : M' 4 0 0 = M 4 0 0) : JR G M' H1 := by
  obtain ⟨g1, g2, g3, g4, g5, g6⟩ := h
  refine ⟨fun q hq1 hq2 => ?_, by rw [h4, hz]; exact g2, by omega, g4, fun q hq => ?_, fun q hq => ?_⟩
  · by_cases hqa : q = a
    · subst hqa; exact he
    · rw [hc q hqa]
      exact (g1 q hq1 (by omega)).kept (ho q hqa)
  · rw [h0] at hq; rw [h4]; exact g5 q hq
  · rw [h0] at hq; rw [h1]; exact g6 q hq
theorem va_P1 {D : va_G} {cl : List vw_C} {q : Nat × va_E} {H : Heap} (h : va_at D cl q H) : va_P D cl [q] H := by
  intro k r hk
  cases k with
  | zero => cases hk; exact h
  | succ k => cases hk
theorem jfs_get {ci k tag fid : Nat} {M : JM} {a : Int} (hk : (jkinds ci)[k]? = some (tag, fid)) : (jfs ci M a)[k]? = some (jv (tag, M fid a 0)) := by
  unfold jfs
  rw [List.getElem?_map, hk]; rfl
theorem jfs_set {ci k tag fid : Nat} {M : JM} {a v : Int} (hk : (jkinds ci)[k]? = some (tag, fid)) (hn : ((jkinds ci).map (fun q => q.2)).Nodup) : jfs ci (jset M fid a 0 v) a = (jfs ci M a).set k (jv (tag, v)) := by
  have hlt := (List.getElem?_eq_some_iff.mp hk).1
  apply List.ext_getElem?
  intro i
  by_cases hi : i = k
  · subst hi
    rw [jfs_get hk, jset_s, List.getElem?_set_self (by unfold jfs; rw [List.length_map]; exact hlt)]
  · rw [List.getElem?_set_ne (Ne.symm hi)]
    unfold jfs
    rw [List.getElem?_map, List.getElem?_map]
    cases hq : (jkinds ci)[i]? with
    | none => rfl
    | some q =>
      have hne : q.2 ≠ fid := by
        intro e
        apply hi
        have h1 : ((jkinds ci).map (fun q => q.2))[i]? = some fid := by rw [List.getElem?_map, hq, ← e]; rfl
        have h2 : ((jkinds ci).map (fun q => q.2))[k]? = some fid := by rw [List.getElem?_map, hk]; rfl
        have hl1 := (List.getElem?_eq_some_iff.mp h1).1
        exact (List.getElem?_inj hl1 hn).mp (h1.trans h2.symm)
      simp only [Option.map_some, jset_k hne]
theorem jnth_get {α : Type} {d : α} : ∀ {l : List α} {k : Nat} {v : α}, l[k]? = some v → jnth d l k = v
  | [], _, _, h => by cases h
  | a :: l, 0, v, h => by cases h; rfl
  | a :: l, k + 1, v, h => jnth_get (l := l) (k := k) h
def jt (tag : Nat) : Nat := if tag = 5 then 0 else tag
theorem jv_jt (tag : Nat) (v : Int) : jv (jt tag, v) = jv (tag, v) := by
  unfold jt
  split
  · rename_i h; subst h; rfl
  · rfl
theorem jfok_of {ci k tag fid : Nat} {C : String} {T : u_T} {N : Nat} (hc : jclass ci C T N) (hk : (jkinds ci)[k]? = some (tag, fid)) : (tag = 0 ∧ 2000 ≤ fid) ∨ (tag = 5 ∧ 2000 ≤ fid) ∨ (tag = 1 ∧ 100 ≤ fid ∧ fid < 2000) := by
  have := List.all_eq_true.mp hc.2.2.2.2.2.2 _ (List.mem_of_getElem? hk)
  unfold jfok at this
  simp only [Bool.or_eq_true, Bool.and_eq_true, Nat.ble_eq, beq_iff_eq, Nat.blt_eq] at this
  omega
theorem jty_of {ci k tag fid : Nat} {C : String} {T : u_T} {N : Nat} (hc : jclass ci C T N) (hk : (jkinds ci)[k]? = some (tag, fid)) : k < N ∧ ∃ ty, parseFieldDescriptor (T k).2.2.1 = some ty ∧ jkty tag ty = true := by
  have hl := (List.getElem?_eq_some_iff.mp hk).1
  obtain ⟨-, -, ⟨ty, h1, h2⟩, -, h4, -, -⟩ := hc
  rw [h4] at hl
  refine ⟨hl, ty k, h1 k hl, ?_⟩
  have := h2 k hl
  rw [jnth_get hk] at this
  exact this
section JHEAP
variable {G : JG} {x mc ms : Nat} {Q : Int → JM → Prop} {cells slots pc : Nat} {lv : JL} {st : List JV} {M : JM}
def jlinked (x i : Nat) (T : u_T) (k : Nat) : Prop := Cond.fieldLink (jname x).cls i (T k).1 (T k).2.1 (T k).2.2.1 ∈ jtbl ∨ Cond.fieldLinkNest (jname x).cls i (T k).1 (T k).2.1 (T k).2.2.1 "UnitAtlas" ∈ jtbl
theorem jr_get {i k tag fid ci : Nat} {a : Int} {C0 : String} {T : u_T} {N : Nat} (hd : decode (jcode x) pc = .ok (.getfield i, 3)) (hc : jclass ci C0 T N) (hk : (jkinds ci)[k]? = some (tag, fid)) (hlk : jlinked x i T k) (ha : M 0 a 0 = 10 + (ci : Int)) (kk : J G x mc ms Q cells slots (pc + 3) lv ((jt tag, M fid a 0) :: st) M) : J G x mc ms Q cells slots pc lv ((1, a) :: st) M := by
  intro hcm hsm p e R s m args below meth c H locs ls X
  obtain ⟨C, hl, hr, hS, ol, os, oM⟩ := X
  have hf := jfok_of hc hk
  have hok : jok (jt tag, M fid a 0) := by
    rcases hf with ⟨rfl, h⟩ | ⟨rfl, h⟩ | ⟨rfl, h⟩
    · exact jok_i (oM fid a 0 (Or.inr (Or.inr h)))
    · exact jok_i (oM fid a 0 (Or.inr (Or.inr h)))
    · exact jok_r _
  have kk := kk hcm hsm p e R s m args below meth c H locs ls ⟨C, hl, hr, hS, ol, jok_c hok (jok_t os), oM⟩
  rw [List.map_cons, jv_jt] at kk
  obtain ⟨q, rfl, -, -, hq0, hat⟩ := hr.at (a := a) (by omega)
  rw [jcell_obj ha] at hat
  have hkn := (jty_of hc hk).1
  rw [List.map_cons, show jv (1, (q : Int)) = .ref q from by show va_rf (jrf (q : Int)) = _; rw [show jrf (q : Int) = some q from by unfold jrf; rw [if_neg (by omega)]; simp]; rfl]
  rcases hlk with hlk | hlk
  · exact va_get (D := G.1) C.1 C.2.1 C.2.2.2.2.2.1 hc.2.1 C.2.2.2.2.1 C.2.2.2.2.2.2.2.2.1 (va_P1 hat) 0 rfl hc.1 k hkn (C.2.2.2.2.2.1 _ hlk) (fun _ h => h) (jfs_get hk) hd kk
  · exact va_getN (D := G.1) C.1 C.2.1 C.2.2.2.2.2.1 hc.2.1 C.2.2.2.2.1 C.2.2.2.2.2.2.2.2.1 (va_P1 hat) 0 rfl hc.1 k hkn (C.2.2.2.2.2.1 _ hlk) (fun _ h => h) (jfs_get hk) hd kk
theorem jv_ref {q : Nat} (h : 0 < q) : jv (1, (q : Int)) = .ref q := by
  show va_rf (jrf (q : Int)) = _
  rw [show jrf (q : Int) = some q from by unfold jrf; rw [if_neg (by omega)]; simp]; rfl
def jputl (x i : Nat) (T : u_T) (k : Nat) : Prop := ((T k).2.2.2 = false ∧ jlinked x i T k) ∨ ((T k).2.2.2 = true ∧ Cond.fieldLink (jname x).cls i (T k).1 (T k).2.1 (T k).2.2.1 ∈ jtbl ∧ (T k).1 = (jname x).cls ∧ (jname x).name = "<init>")
theorem j01 {v : Int} (h : v = 0 ∨ v = 1) : narrow .boolean (.int (Int32.ofInt v)) = .int (Int32.ofInt v) ∧ fits .boolean (.int (Int32.ofInt v)) = true := by
  rcases h with rfl | rfl <;> exact ⟨by decide +kernel, by decide +kernel⟩
theorem jfit {tag : Nat} {ty : FieldType} {v : Int} (h : jkty tag ty = true) (hb : tag = 5 → v = 0 ∨ v = 1) : narrow ty (jv (tag, v)) = jv (tag, v) ∧ fits ty (jv (tag, v)) = true := by
  unfold jkty at h
  split at h
  · exact ⟨rfl, rfl⟩
  · exact j01 (hb rfl)
  · show narrow _ (va_rf (jrf v)) = va_rf (jrf v) ∧ fits _ (va_rf (jrf v)) = true
    cases jrf v <;> exact ⟨rfl, rfl⟩
  · show narrow _ (va_rf (jrf v)) = va_rf (jrf v) ∧ fits _ (va_rf (jrf v)) = true
    cases jrf v <;> exact ⟨rfl, rfl⟩
  · cases h
theorem jr_put {i k tag fid ci : Nat} {a v : Int} {C0 : String} {T : u_T} {N : Nat} (hd : decode (jcode x) pc = .ok (.putfield i, 3)) (hc : jclass ci C0 T N) (hk : (jkinds ci)[k]? = some (tag, fid)) (hlk : jputl x i T k) (ha : M 0 a 0 = 10 + (ci : Int)) (hb : tag = 5 → v = 0 ∨ v = 1) (kk : J G x mc ms Q cells slots (pc + 3) lv st (jset M fid a 0 v)) : J G x mc ms Q cells slots pc lv ((jt tag, v) :: (1, a) :: st) M := by
  intro hcm hsm p e R s m args below meth c H locs ls X
  obtain ⟨C, hl, hr, hS, ol, os, oM⟩ := X
  have hf := jfok_of hc hk
  have h100 : 100 ≤ fid := by omega
  have hoM : jokM (jset M fid a 0 v) := jokM_set oM (fun hk2 => by
    rcases hf with ⟨rfl, h⟩ | ⟨rfl, h⟩ | ⟨rfl, h⟩
    · exact jok_R (jok_h os)
    · exact jok_R (jok_h os)
    · omega)
  obtain ⟨q, rfl, hqb, hqs, hq0, hat⟩ := hr.at (a := a) (by omega)
  rw [List.map_cons, List.map_cons, jv_jt, jv_ref hq0]
  have kk : ∀ H1 locs1, JR G (jset M fid q 0 v) H1 → va_S (jA G) s.heap H1 locs1 → W p G.2.2.2 e R s m args below meth c H1 locs1 cells slots (MQ below (JQ G (jtag x) Q) args s mc ms (jA G)) (F0 m (pc + 3) ls (st.map jv)) := fun H1 locs1 h1 h2 => kk hcm hsm p e R s m args below meth c H1 locs1 ls ⟨C, hl, h1, h2, ol, jok_t (jok_t os), hoM⟩
  rw [jcell_obj ha] at hat
  obtain ⟨hkn, ty, hpt, hkt⟩ := jty_of hc hk
  obtain ⟨hn, hfit⟩ := jfit (v := v) hkt hb
  obtain ⟨hx, hcb, -, -, hown, hts, -, hname, hK, -, -⟩ := C
  obtain ⟨hv, hin, ⟨ty0, hty, -⟩, hnm, hlen, hnd, -⟩ := hc
  have hap := va_apart (own := (jname x).cls) hts hin ty0 hty hnm hK hv
  obtain ⟨r, h1, cell, q1, q2, q3, q4⟩ := hat
  have hr' : r = (C0, T, N) := Option.some.inj (h1.symm.trans hv)
  subst hr'
  obtain ⟨hSl, hfc, kC, hkC, hkind⟩ := hK.1 ci _ hv
  obtain ⟨cf, kf, fi, f, hi, hsl⟩ := hSl k hkn
  have hst := (u_facts hfc hkC (u_lays hts hin hkn) hi).1
  have hlay := hts _ (hin _ (u_in_lay hkn))
  unfold u_lay at hlay
  have fin : ∀ H' : Heap, H'[q]? = some (cell.setSlot f.slot (jv (tag, v))) → H'.size = H.size → (∀ z, z ≠ q → H'[z]? = H[z]?) → W p G.2.2.2 e R s m args below meth c H' (locs ++ [⟨q, f.slot⟩]) cells slots (MQ below (JQ G (jtag x) Q) args s mc ms (jA G)) (F0 m (pc + 3) ls (st.map jv)) := by
    intro H' e1 e2 e3
    refine kk H' _ (hr.upd e2 e3 (fun z hz => jcell_same (jset_k (by omega) _ _) (jset_k (by omega) _ _) (fun j => jset_k (by omega) _ _) (fun j => jset_k (by omega) _ _) (fun k _ => jset_a (by omega) _ _)) ?_ (fun z => jset_k (by omega) _ _) (fun z => jset_k (by omega) _ _) (jset_k (by omega) _ _)) (hS.put e2 e3 hqb)
    rw [jcell_obj (by rw [jset_k (by omega)]; exact ha), jfs_set hk hnd]
    rw [hsl] at e1
    refine ⟨_, hv, t_OB.to (V := updV (vp_V (jfs ci M q)) k (jv (tag, v))) ⟨_, e1, q2, q3, t_set q4 hap hkn _⟩ (fun j _ => vp_updV_set (by unfold jfs; rw [List.length_map, hlen]; exact hkn) _ j)⟩
  rcases hlk with ⟨hfin, hlk⟩ | ⟨hfin, hlk, hdecl, hini⟩
  · rw [if_neg (by rw [hfin]; decide)] at hlay
    have h6 := u_store hfc hkC hkind hlay hi hpt hn hfit
    rcases hlk with hlk | hlk
    · exact W.putK hx hcb (f := f) ⟨hown, hts _ hlk, ⟨_, _, _, hi⟩, hst⟩ (by rw [q2]; exact h6) q1 q3 (by rw [hsl]; exact k2_hasslot (q4 k hkn)) rfl rfl hd fin
    · exact va_WputK hx hcb (f := f) hown (hts _ hlk) hi hst (by rw [q2]; exact h6) q1 q3 (by rw [hsl]; exact k2_hasslot (q4 k hkn)) rfl rfl hd fin
  · rw [if_pos hfin] at hlay
    have hcf : m.cls = cf := by
      obtain ⟨_, _, c', _, _, _, -, -, hf', -, -, -, hown2, -⟩ := Cond.laysFinal_spec hlay
      have e1 : c' = cf := by have := hi.symm.trans hf'; simp at this; exact this.1.symm
      rw [hdecl] at hown2
      rw [← e1]; exact Option.some.inj (hown.symm.trans hown2)
    have h6 := u_fits hfc hkC hkind (Or.inr hlay) hi hpt hn hfit
    exact W.putFinK hx hcb hown (hts _ hlk) hi hst hcf (hname.trans hini) (by rw [q2]; exact h6) q1 q3 (by rw [hsl]; exact k2_hasslot (q4 k hkn)) rfl rfl hd fin
end JHEAP
end
section
/-! rules of J: arrays -/
theorem jin {i n : Int} (hi : jR i) (h0 : 0 ≤ i) (h1 : i < n) : vp_in (Int32.ofInt i) n.toNat := by
  unfold vp_in
  rw [show (0 : Int32) = Int32.ofInt 0 from rfl, j32_lt hi jR_0, j32_nat hi h0]
  omega
theorem jix {i : Int} (hi : jR i) (h0 : 0 ≤ i) : (((Int32.ofInt i).toNatClampNeg : Nat) : Int) = i := by
  rw [j32_nat hi h0]; omega
section JARR
variable {G : JG} {x mc ms : Nat} {Q : Int → JM → Prop} {cells slots pc : Nat} {lv : JL} {st : List JV} {M : JM}
theorem jr_iaload {a i : Int} (hd : decode (jcode x) pc = .ok (.iaload, 1)) (ha : M 0 a 0 = 1) (h0 : 0 ≤ i) (h1 : i < M 1 a 0) (k : J G x mc ms Q cells slots (pc + 1) lv ((0, M 2 a i) :: st) M) : J G x mc ms Q cells slots pc lv ((0, i) :: (1, a) :: st) M := by
  intro hcm hsm p e R s m args below meth c H locs ls X
  obtain ⟨C, hl, hr, hS, ol, os, oM⟩ := X
  have ri := jok_R (jok_h os)
  have k := k hcm hsm p e R s m args below meth c H locs ls ⟨C, hl, hr, hS, ol, jok_c (jok_i (oM 2 a i (Or.inr (Or.inl rfl)))) (jok_t (jok_t os)), oM⟩
  obtain ⟨q, rfl, -, -, hq0, hat⟩ := hr.at (a := a) (by omega)
  rw [jcell_1 ha] at hat
  rw [List.map_cons, List.map_cons, jv_ref hq0]
  refine va_iald (D := G.1) C.1 C.2.1 C.2.2.2.2.2.2.2.2.1 (va_P1 hat) 0 0 rfl rfl (jin ri h0 h1) hd ?_
  rw [jix ri h0]
  exact k
theorem jr_baload {a i : Int} (hd : decode (jcode x) pc = .ok (.baload, 1)) (ha : M 0 a 0 = 2) (h0 : 0 ≤ i) (h1 : i < M 1 a 0) (k : J G x mc ms Q cells slots (pc + 1) lv ((0, M 2 a i) :: st) M) : J G x mc ms Q cells slots pc lv ((0, i) :: (1, a) :: st) M := by
  intro hcm hsm p e R s m args below meth c H locs ls X
  obtain ⟨C, hl, hr, hS, ol, os, oM⟩ := X
  have ri := jok_R (jok_h os)
  have k := k hcm hsm p e R s m args below meth c H locs ls ⟨C, hl, hr, hS, ol, jok_c (jok_i (oM 2 a i (Or.inr (Or.inl rfl)))) (jok_t (jok_t os)), oM⟩
  obtain ⟨q, rfl, -, -, hq0, hat⟩ := hr.at (a := a) (by omega)
  rw [jcell_2 ha] at hat
  rw [List.map_cons, List.map_cons, jv_ref hq0]
  refine va_zald (D := G.1) C.1 C.2.1 C.2.2.2.2.2.2.2.2.1 (va_P1 hat) 0 1 rfl rfl (jin ri h0 h1) hd ?_
  rw [jix ri h0]
  exact k
theorem jr_aaload {a i : Int} (hd : decode (jcode x) pc = .ok (.aaload, 1)) (ha : M 0 a 0 = 3 ∨ M 0 a 0 = 4) (h0 : 0 ≤ i) (h1 : i < M 1 a 0) (k : J G x mc ms Q cells slots (pc + 1) lv ((1, M 3 a i) :: st) M) : J G x mc ms Q cells slots pc lv ((0, i) :: (1, a) :: st) M := by
  intro hcm hsm p e R s m args below meth c H locs ls X
  obtain ⟨C, hl, hr, hS, ol, os, oM⟩ := X
  have ri := jok_R (jok_h os)
  have k := k hcm hsm p e R s m args below meth c H locs ls ⟨C, hl, hr, hS, ol, jok_c (jok_r _) (jok_t (jok_t os)), oM⟩
  obtain ⟨q, rfl, -, -, hq0, hat⟩ := hr.at (a := a) (by omega)
  rw [List.map_cons, List.map_cons, jv_ref hq0]
  rcases ha with ha | ha
  · rw [jcell_3 ha] at hat
    refine va_aldq (D := G.1) C.1 C.2.1 C.2.2.2.2.2.2.2.2.1 (va_P1 hat) 0 2 rfl rfl (jin ri h0 h1) hd ?_
    rw [jix ri h0]
    exact k
  · rw [jcell_4 ha] at hat
    refine va_aldq (D := G.1) C.1 C.2.1 C.2.2.2.2.2.2.2.2.1 (va_P1 hat) 0 3 rfl rfl (jin ri h0 h1) hd ?_
    rw [jix ri h0]
    exact k
theorem jr_alen {a : Int} (hd : decode (jcode x) pc = .ok (.arraylength, 1)) (ha : M 0 a 0 = 1 ∨ M 0 a 0 = 2 ∨ M 0 a 0 = 3 ∨ M 0 a 0 = 4) (k : J G x mc ms Q cells slots (pc + 1) lv ((0, M 1 a 0) :: st) M) : J G x mc ms Q cells slots pc lv ((1, a) :: st) M := by
  intro hcm hsm p e R s m args below meth c H locs ls X
  obtain ⟨C, hl, hr, hS, ol, os, oM⟩ := X
  have k := k hcm hsm p e R s m args below meth c H locs ls ⟨C, hl, hr, hS, ol, jok_c (jok_i (oM 1 a 0 (Or.inl rfl))) (jok_t os), oM⟩
  have hn := hr.2.2.2.2.2 a ha
  obtain ⟨q, rfl, -, -, hq0, hat⟩ := hr.at (a := a) (by omega)
  rw [List.map_cons, jv_ref hq0]
  have e1 : Int32.ofNat (M 1 q 0).toNat = Int32.ofInt (M 1 q 0) := by
    have : Int32.ofInt ((M 1 q 0).toNat : Int) = nI (M 1 q 0).toNat := jnI _
    rw [show ((M 1 q 0).toNat : Int) = M 1 q 0 by omega] at this
    exact this.symm
  rcases ha with ha | ha | ha | ha
  · rw [jcell_1 ha] at hat
    exact va_alen (D := G.1) C.1 C.2.1 C.2.2.2.2.2.2.2.2.1 (va_P1 hat) 0 0 rfl rfl e1 hd k
  · rw [jcell_2 ha] at hat
    exact va_alen (D := G.1) C.1 C.2.1 C.2.2.2.2.2.2.2.2.1 (va_P1 hat) 0 1 rfl rfl e1 hd k
  · rw [jcell_3 ha] at hat
    exact va_alen (D := G.1) C.1 C.2.1 C.2.2.2.2.2.2.2.2.1 (va_P1 hat) 0 2 rfl rfl e1 hd k
  · rw [jcell_4 ha] at hat
    exact va_alen (D := G.1) C.1 C.2.1 C.2.2.2.2.2.2.2.2.1 (va_P1 hat) 0 3 rfl rfl e1 hd k
theorem jr_iastore {a i v : Int} (hd : decode (jcode x) pc = .ok (.iastore, 1)) (ha : M 0 a 0 = 1) (h0 : 0 ≤ i) (h1 : i < M 1 a 0) (kk : J G x mc ms Q cells slots (pc + 1) lv st (jset M 2 a i v)) : J G x mc ms Q cells slots pc lv ((0, v) :: (0, i) :: (1, a) :: st) M := by
  intro hcm hsm p e R s m args below meth c H locs ls X
  obtain ⟨C, hl, hr, hS, ol, os, oM⟩ := X
  have ri := jok_R (jok_h (jok_t os))
  have hoM : jokM (jset M 2 a i v) := jokM_set oM (fun _ => jok_R (jok_h os))
  obtain ⟨q, rfl, hqb, hqs, hq0, hat⟩ := hr.at (a := a) (by omega)
  rw [jcell_1 ha] at hat
  rw [List.map_cons, List.map_cons, List.map_cons, jv_ref hq0]
  have hin := jin ri h0 h1
  refine W.iast C.1 C.2.1 hat ((C.2.2.2.2.2.2.2.2.1.2 0 _ rfl).1 (M 1 q 0).toNat (fun j => .int (Int32.ofInt (M 2 q j)))) (fun q => by cases q) (by show ¬ (_ < 0 ∨ (arrV _ _ _).slots.size ≤ _); rw [arrV_size]; exact hin) rfl rfl hd fun H1 e1 z oq => ?_
  refine kk hcm hsm p e R s m args below meth c H1 _ ls ⟨C, hl, hr.upd z oq (fun z hz => jcell_same (jset_k (by omega) _ _) (jset_k (by omega) _ _) (fun j => jset_a (by omega) _ _) (fun j => jset_k (by omega) _ _) (fun k hk => jset_k (by omega) _ _)) ?_ (fun z => jset_k (by omega) _ _) (fun z => jset_k (by omega) _ _) (jset_k (by omega) _ _), hS.put z oq hqb, ol, jok_t (jok_t (jok_t os)), hoM⟩
  rw [jcell_1 (by rw [jset_k (by omega)]; exact ha)]
  show H1[q]? = some (vp_cell _ _)
  rw [e1, vp_cell_i, vp_cell_i, arrV_store, jset_k (show (1 : Nat) ≠ 2 by omega)]
  congr 2
  funext j
  by_cases hq : j = (Int32.ofInt i).toNatClampNeg
  · subst hq
    rw [jix ri h0, jset_s]
    simp [updV]
  · rw [jset_j (by have := jix ri h0; omega)]
    simp [updV, hq]
theorem jr_bastore {a i v : Int} (hd : decode (jcode x) pc = .ok (.bastore, 1)) (ha : M 0 a 0 = 2) (h0 : 0 ≤ i) (h1 : i < M 1 a 0) (hb : v = 0 ∨ v = 1) (kk : J G x mc ms Q cells slots (pc + 1) lv st (jset M 2 a i v)) : J G x mc ms Q cells slots pc lv ((0, v) :: (0, i) :: (1, a) :: st) M := by
  intro hcm hsm p e R s m args below meth c H locs ls X
  obtain ⟨C, hl, hr, hS, ol, os, oM⟩ := X
  have ri := jok_R (jok_h (jok_t os))
  have hoM : jokM (jset M 2 a i v) := jokM_set oM (fun _ => jok_R (jok_h os))
  obtain ⟨q, rfl, hqb, hqs, hq0, hat⟩ := hr.at (a := a) (by omega)
  rw [jcell_2 ha] at hat
  rw [List.map_cons, List.map_cons, List.map_cons, jv_ref hq0]
  have hin := jin ri h0 h1
  refine W.zast C.1 C.2.1 hat ((C.2.2.2.2.2.2.2.2.1.2 1 _ rfl).1 (M 1 q 0).toNat (fun j => .int (Int32.ofInt (M 2 q j)))) (fun q => by cases q) (by show ¬ (_ < 0 ∨ (arrV _ _ _).slots.size ≤ _); rw [arrV_size]; exact hin) rfl rfl hd fun H1 e1 z oq => ?_
  refine kk hcm hsm p e R s m args below meth c H1 _ ls ⟨C, hl, hr.upd z oq (fun z hz => jcell_same (jset_k (by omega) _ _) (jset_k (by omega) _ _) (fun j => jset_a (by omega) _ _) (fun j => jset_k (by omega) _ _) (fun k hk => jset_k (by omega) _ _)) ?_ (fun z => jset_k (by omega) _ _) (fun z => jset_k (by omega) _ _) (jset_k (by omega) _ _), hS.put z oq hqb, ol, jok_t (jok_t (jok_t os)), hoM⟩
  rw [jcell_2 (by rw [jset_k (by omega)]; exact ha)]
  show H1[q]? = some (vp_cell _ _)
  rw [e1, (j01 hb).1, vp_cell_i, vp_cell_i, arrV_store, jset_k (show (1 : Nat) ≠ 2 by omega)]
  congr 2
  funext j
  by_cases hq : j = (Int32.ofInt i).toNatClampNeg
  · subst hq
    rw [jix ri h0, jset_s]
    simp [updV]
  · rw [jset_j (by have := jix ri h0; omega)]
    simp [updV, hq]
theorem jr_aastore {a i v : Int} (hd : decode (jcode x) pc = .ok (.aastore, 1)) (ha : (M 0 a 0 = 3 ∧ M 0 v 0 = 19) ∨ (M 0 a 0 = 4 ∧ M 0 v 0 = 11)) (h0 : 0 ≤ i) (h1 : i < M 1 a 0) (kk : J G x mc ms Q cells slots (pc + 1) lv st (jset M 3 a i v)) : J G x mc ms Q cells slots pc lv ((1, v) :: (0, i) :: (1, a) :: st) M := by
  intro hcm hsm p e R s m args below meth c H locs ls X
  obtain ⟨C, hl, hr, hS, ol, os, oM⟩ := X
  have ri := jok_R (jok_h (jok_t os))
  have hoM : jokM (jset M 3 a i v) := jokM_set oM (fun h => by omega)
  obtain ⟨q, rfl, hqb, hqs, hq0, hat⟩ := hr.at (a := a) (by omega)
  obtain ⟨w, rfl, hwb, hws, hw0, hvt⟩ := hr.at (a := v) (by omega)
  rw [List.map_cons, List.map_cons, List.map_cons, jv_ref hq0, jv_ref hw0]
  have hin := jin ri h0 h1
  have hlt : (Int32.ofInt i).toNatClampNeg < (M 1 q 0).toNat := Nat.not_le.mp fun q => hin (Or.inr q)
  have hng : ¬ Int32.ofInt i < 0 := fun q => hin (Or.inl q)
  have key : ∀ (t ci : Nat) (cA : ClassId) (nm : String) (r : vw_C), vwCl[ci]? = some r → (jtys G)[t]? = some (cA, .object r.1) → M 0 w 0 = 10 + (ci : Int) → (∀ M' : JM, M' 0 q 0 = M 0 q 0 → jcell G M' q = .inl (cA, (M' 1 q 0).toNat, .inr (.inr (.inr (.inr (fun j => jrf (M' 3 q j))))))) → W p G.2.2.2 e R s m args below meth c H locs cells slots (MQ below (JQ G (jtag x) Q) args s mc ms (jA G)) (F0 m pc ls (.ref w :: jv (0, i) :: .ref q :: st.map jv)) := by
    intro t ci cA nm r hc ht hw hcell
    rw [hcell M rfl] at hat
    rw [jcell_obj hw] at hvt
    obtain ⟨r', hr', cellV, g1, g2, g3, -⟩ := hvt
    have hK := C.2.2.2.2.2.2.2.2.1
    have hcls := (hK.1 ci r hc).2
    obtain ⟨kA, comp, k1, k2, k3, -⟩ := (hK.2 t _ ht).2
    have hcomp : comp = G.1.1 ci := Option.some.inj (k3.symm.trans hcls.1)
    subst hcomp
    obtain ⟨kC, hkC, -⟩ := hcls.2
    refine W.aast C.1 C.2.1 hat (fun q h => by cases h) (fun h => by cases h) k1 k2 rfl hkC ⟨hng, by show _ < (arrV _ _ _).slots.size; rw [arrV_size]; exact hlt⟩ g1 (fun q h => by rw [g3] at h; cases h) (by rw [g2]; exact hkC) (by rw [g2]; exact va_assign hcls) rfl rfl hd fun H1 e1 z oq => ?_
    refine kk hcm hsm p e R s m args below meth c H1 _ ls ⟨C, hl, hr.upd z oq (fun z hz => jcell_same (jset_k (by omega) _ _) (jset_k (by omega) _ _) (fun j => jset_k (by omega) _ _) (fun j => jset_a (by omega) _ _) (fun k hk => jset_k (by omega) _ _)) ?_ (fun z => jset_k (by omega) _ _) (fun z => jset_k (by omega) _ _) (jset_k (by omega) _ _), hS.put z oq hqb, ol, jok_t (jok_t (jok_t os)), hoM⟩
    rw [hcell _ (by rw [jset_k (by omega)])]
    show H1[q]? = some (vp_cell _ _)
    rw [e1, vp_cell_q, vp_cell_q, arrV_store, jset_k (show (1 : Nat) ≠ 3 by omega)]
    congr 2
    funext j
    by_cases hq : j = (Int32.ofInt i).toNatClampNeg
    · subst hq
      rw [jix ri h0, jset_s]
      have e2 : va_rf (jrf (w : Int)) = .ref w := jv_ref hw0
      rw [e2]
      simp [updV]
    · rw [jset_j (by have := jix ri h0; omega)]
      simp [updV, hq]
  rcases ha with ⟨ha, hv⟩ | ⟨ha, hv⟩
  · exact key 2 9 _ "" _ rfl rfl hv (fun M' h => jcell_3 (by rw [h]; exact ha))
  · exact key 3 1 _ "" _ rfl rfl hv (fun M' h => jcell_4 (by rw [h]; exact ha))
end JARR
end
section
/-! rules of J: what is made; the machine's own methods; ends -/
def jnew (M : JM) (t n : Int) : JM := fun k a j => if k = 4 ∧ a = 0 ∧ j = 0 then M 4 0 0 + 1 else if a = M 4 0 0 then (if k = 0 ∧ j = 0 then t else if k = 1 ∧ j = 0 then n else 0) else M k a j
theorem jnew_nx (M : JM) (t n : Int) : jnew M t n 4 0 0 = M 4 0 0 + 1 := if_pos ⟨rfl, rfl, rfl⟩
theorem jnew_old {M : JM} {t n a : Int} (h : a ≠ M 4 0 0) {k : Nat} {j : Int} (h4 : k ≠ 4) : jnew M t n k a j = M k a j := by
  unfold jnew
  rw [if_neg (fun e => h4 e.1), if_neg h]
theorem jnew_0 {M : JM} {t n : Int} : jnew M t n 0 (M 4 0 0) 0 = t := by
  unfold jnew
  rw [if_neg (by simp), if_pos rfl, if_pos ⟨rfl, rfl⟩]
theorem jnew_1 {M : JM} {t n : Int} : jnew M t n 1 (M 4 0 0) 0 = n := by
  unfold jnew
  rw [if_neg (by simp), if_pos rfl, if_neg (by simp), if_pos ⟨rfl, rfl⟩]
theorem jnew_z {M : JM} {t n j : Int} {k : Nat} (h : k = 2 ∨ k = 3 ∨ 100 ≤ k) : jnew M t n k (M 4 0 0) j = 0 := by
  unfold jnew
  rw [if_neg (by omega), if_pos rfl, if_neg (by omega), if_neg (by omega)]
theorem jokM_new {M : JM} {t n : Int} (h : jokM M) (hn : jR n) : jokM (jnew M t n) := by
  intro k a j hk
  unfold jnew
  split
  · omega
  · split
    · split
      · omega
      · split
        · exact hn
        · exact jR_0
    · exact h k a j hk
theorem JR.new {G : JG} {M : JM} {H H1 : Heap} {t n : Int} (h : JR G M H) (hz : H1.size = H.size + 1) (ho : ∀ q, q < H.size → H1[q]? = H[q]?) (hn : t = 1 ∨ t = 2 ∨ t = 3 ∨ t = 4 → 0 ≤ n) (he : va_at G.1 vwCl (H.size, jcell G (jnew M t n) H.size) H1) : JR G (jnew M t n) H1 := by
  obtain ⟨g1, g2, g3, g4, g5, g6⟩ := h
  refine ⟨fun q hq1 hq2 => ?_, by rw [jnew_nx, g2, hz]; omega, by omega, g4, fun q hq => ?_, fun q hq => ?_⟩
  · by_cases hqa : q = H.size
    · subst hqa; exact he
    · have hne : (q : Int) ≠ M 4 0 0 := by rw [g2]; omega
      rw [jcell_same (M := M) (jnew_old hne (by omega)) (jnew_old hne (by omega)) (fun j => jnew_old hne (by omega)) (fun j => jnew_old hne (by omega)) (fun k hk => jnew_old hne (by omega))]
      exact (g1 q hq1 (by omega)).kept (ho q (by omega))
  · rw [jnew_nx]
    by_cases hqa : q = M 4 0 0
    · omega
    · rw [jnew_old hqa (by omega)] at hq
      have := g5 q hq
      omega
  · by_cases hqa : q = M 4 0 0
    · subst hqa
      rw [jnew_1]
      rw [jnew_0] at hq
      exact hn hq
    · rw [jnew_old hqa (by omega)] at hq ⊢
      exact g6 q hq
theorem va_S.grow {A : Nat → Prop} {H0 H H1 : Heap} {locs : List Loc} (hS : va_S A H0 H locs) (hz : H1.size = H.size + 1) (ho : ∀ q, q < H.size → H1[q]? = H[q]?) : va_S A H0 H1 locs :=
  ⟨Nat.le_trans hS.1 (by omega), fun x h1 h2 => (ho x (Nat.lt_of_lt_of_le h1 hS.1)).trans (hS.2.1 x h1 h2), hS.2.2⟩
section JNEW
variable {G : JG} {x mc ms : Nat} {Q : Int → JM → Prop} {cells slots pc : Nat} {lv : JL} {st : List JV} {M : JM}
theorem jdef {tag : Nat} {ty : FieldType} (h : jkty tag ty = true) : defaultValue ty = jv (tag, 0) := by
  unfold jkty at h
  split at h
  · rfl
  · rfl
  · rfl
  · rfl
  · cases h
theorem jr_new {i ci N : Nat} {C0 : String} {T : u_T} (hd : decode (jcode x) pc = .ok (.new i, 3)) (hc : jclass ci C0 T N) (hlk : Cond.classLink (jname x).cls i C0 ∈ jtbl) (hinst : Cond.instantiable C0 N ∈ jtbl) (hini : Cond.initialized C0 ∈ jtbl) (h1 : cells + 1 ≤ mc) (h2 : slots + N ≤ ms) (kk : J G x mc ms Q (cells + 1) (slots + N) (pc + 3) lv ((1, M 4 0 0) :: st) (jnew M (10 + (ci : Int)) 0)) : J G x mc ms Q cells slots pc lv st M := by
  intro hcm hsm p e R s m args below meth c H locs ls X
  obtain ⟨C, hl, hr, hS, ol, os, oM⟩ := X
  have hts := C.2.2.2.2.2.1
  have hK := C.2.2.2.2.2.2.2.2.1
  have hR := C.2.2.2.2.2.2.2.2.2.2
  obtain ⟨hv, hin, ⟨ty, hty, hkt⟩, hnm, hlen, hnd, -⟩ := hc
  have hKn := hK.1 ci _ hv
  have hsz := hr.2.1
  have h0 : 0 < H.size := by have := hr.2.2.1; have := hr.2.2.2.1; omega
  refine W.newcK C.1 C.2.1 C.2.2.2.2.1 (hts _ hlk) (hts _ hinst) (hts _ hini) rfl hd (by rw [hR]; exact h1) (by rw [hR]; exact h2) hKn.2.1 rfl fun H1 kC hkC e1 z1 o1 => ?_
  have kk := kk h1 h2 p e R s m args below meth c H1 locs ls ⟨C, hl, hr.new z1 o1 (fun h => by omega) ?_, hS.grow z1 o1, ol, jok_c (jok_r _) os, jokM_new oM jR_0⟩
  · rw [hsz, List.map_cons, jv_ref h0] at kk
    exact kk
  · have e0 : jnew M (10 + (ci : Int)) 0 0 ((H.size : Nat) : Int) 0 = 10 + (ci : Int) := by rw [← hsz]; exact jnew_0
    rw [jcell_obj e0]
    refine ⟨_, hv, (u_born ty hts hin hKn hkC e1 hty).to (fun j hj => ?_)⟩
    have hj' : j < (jkinds ci).length := by rw [hlen]; exact hj
    obtain ⟨⟨tag, fid⟩, hq⟩ : ∃ q, (jkinds ci)[j]? = some q := ⟨_, List.getElem?_eq_getElem hj'⟩
    have hk2 := hkt j hj
    rw [jnth_get hq] at hk2
    have h3 : 100 ≤ fid := by
      have := List.all_eq_true.mp (jclass_all ci _ hv).2.2.2.2.2.2 _ (List.mem_of_getElem? hq)
      unfold jfok at this
      simp only [Bool.or_eq_true, Bool.and_eq_true, Nat.ble_eq] at this
      omega
    have e4 : jnew M (10 + (ci : Int)) 0 fid ((H.size : Nat) : Int) 0 = 0 := by rw [← hsz]; exact jnew_z (Or.inr (Or.inr h3))
    show defaultValue (ty j) = (jfs ci _ _).getD j .null
    rw [List.getD_eq_getElem?_getD, jfs_get hq, e4]
    exact jdef hk2
theorem jlen {n : Int} (hn : jR n) (h0 : 0 ≤ n) : ¬ Int32.ofInt n < 0 := by
  rw [show (0 : Int32) = Int32.ofInt 0 from rfl, j32_lt hn jR_0]; omega
theorem jr_newarray {atype : ArrayType} {n t : Int} {j : Nat} {ty : FieldType} (hd : decode (jcode x) pc = .ok (.newarray atype, 2)) (hty : newarray.typeOf atype = ty) (ht : (t = 1 ∧ j = 0 ∧ ty = .int) ∨ (t = 2 ∧ j = 1 ∧ ty = .boolean)) (hac : Cond.arrayClass ty ∈ jtbl) (h0 : 0 ≤ n) (hb : n ≤ 100000000) (h1 : cells + 1 ≤ mc) (h2 : slots + n.toNat ≤ ms) (kk : J G x mc ms Q (cells + 1) (slots + n.toNat) (pc + 2) lv ((1, M 4 0 0) :: st) (jnew M t n)) : J G x mc ms Q cells slots pc lv ((0, n) :: st) M := by
  intro hcm hsm p e R s m args below meth c H locs ls X
  obtain ⟨C, hl, hr, hS, ol, os, oM⟩ := X
  have hts := C.2.2.2.2.2.1
  have hK := C.2.2.2.2.2.2.2.2.1
  have hR := C.2.2.2.2.2.2.2.2.2.2
  have rn := jok_R (jok_h os)
  have hsz := hr.2.1
  have hp : 0 < H.size := by have := hr.2.2.1; have := hr.2.2.2.1; omega
  subst hty
  refine va_newaK C.1 C.2.1 (hts _ hac) rfl hd rfl (jlen rn h0) (j32_nat rn h0) ?_ (by rw [hR]; exact h1) (by rw [hR]; exact h2) rfl fun H1 cA e1 z1 o1 hAr hNm => ?_
  · have : componentBytes (newarray.typeOf atype) ≤ 4 := by
      rcases ht with ⟨-, -, h⟩ | ⟨-, -, h⟩ <;> rw [h] <;> decide
    have := Nat.mul_le_mul_left n.toNat this
    omega
  have hcA : cA = G.2.1 j := by
    rcases ht with ⟨-, rfl, h⟩ | ⟨-, rfl, h⟩
    · rw [h] at hNm
      exact Option.some.inj (hNm.symm.trans (hK.2 0 _ rfl).2)
    · rw [h] at hNm
      exact Option.some.inj (hNm.symm.trans (hK.2 1 _ rfl).2)
  subst hcA
  have kk := kk h1 h2 p e R s m args below meth c H1 locs ls ⟨C, hl, hr.new z1 o1 (fun _ => h0) ?_, hS.grow z1 o1, ol, jok_c (jok_r _) (jok_t os), jokM_new oM rn⟩
  · rw [hsz, List.map_cons, jv_ref hp] at kk
    exact kk
  · have e0 : jnew M t n 0 ((H.size : Nat) : Int) 0 = t := by rw [← hsz]; exact jnew_0
    have e2 : jnew M t n 1 ((H.size : Nat) : Int) 0 = n := by rw [← hsz]; exact jnew_1
    have e3 : ∀ i : Int, jnew M t n 2 ((H.size : Nat) : Int) i = 0 := fun i => by rw [← hsz]; exact jnew_z (Or.inl rfl)
    rcases ht with ⟨rfl, rfl, h⟩ | ⟨rfl, rfl, h⟩
    · rw [jcell_1 e0]
      show H1[H.size]? = some (vp_cell _ _)
      rw [e1, vp_cell_i, e2, h]
      simp only [e3]
      rfl
    · rw [jcell_2 e0]
      show H1[H.size]? = some (vp_cell _ _)
      rw [e1, vp_cell_i, e2, h]
      simp only [e3]
      rfl
theorem jr_anewarray {i : Nat} {n t : Int} {j : Nat} {C0 : String} (hd : decode (jcode x) pc = .ok (.anewarray i, 3)) (ht : (t = 3 ∧ j = 2 ∧ C0 = "UnitAtlas$Text") ∨ (t = 4 ∧ j = 3 ∧ C0 = "UnitAtlas$Kept")) (hlk : Cond.classLink (jname x).cls i C0 ∈ jtbl) (hov : Cond.arrayOver (.object C0) ∈ jtbl) (h0 : 0 ≤ n) (hb : n ≤ 100000000) (h1 : cells + 1 ≤ mc) (h2 : slots + n.toNat ≤ ms) (kk : J G x mc ms Q (cells + 1) (slots + n.toNat) (pc + 3) lv ((1, M 4 0 0) :: st) (jnew M t n)) : J G x mc ms Q cells slots pc lv ((0, n) :: st) M := by
  intro hcm hsm p e R s m args below meth c H locs ls X
  obtain ⟨C, hl, hr, hS, ol, os, oM⟩ := X
  have hts := C.2.2.2.2.2.1
  have hK := C.2.2.2.2.2.2.2.2.1
  have hR := C.2.2.2.2.2.2.2.2.2.2
  have rn := jok_R (jok_h os)
  have hsz := hr.2.1
  have hp : 0 < H.size := by have := hr.2.2.1; have := hr.2.2.2.1; omega
  have hnat := j32_nat rn h0
  refine W.anew C.1 C.2.1 C.2.2.2.2.1 (hts _ hlk) (hts _ hov) rfl hd rfl (jlen rn h0) (by rw [hnat]; omega) (by rw [hR]; exact h1) (by rw [hR, hnat]; exact h2) fun cA kA comp f1 f2 f3 f4 => ?_
  rw [hnat]
  generalize hH1 : H.push ({ cls := cA, slots := Array.replicate n.toNat .null, vm := .none } : Cell) = H1
  have z1 : H1.size = H.size + 1 := by rw [← hH1, Array.size_push]
  have e1 : H1[H.size]? = some (arrV cA n.toNat (fun _ => .null)) := by rw [← hH1, Array.getElem?_push_size, ← arrV_new]
  have o1 : ∀ q : Nat, q < H.size → H1[q]? = H[q]? := fun q hq => by rw [← hH1, Array.getElem?_push, if_neg (Nat.ne_of_lt hq)]
  have hcA : cA = G.2.1 j := by
    rcases ht with ⟨-, rfl, rfl⟩ | ⟨-, rfl, rfl⟩
    · obtain ⟨kA', comp', g1, g2, g3, g4⟩ := (hK.2 2 _ rfl).2
      exact Option.some.inj (f1.symm.trans g4)
    · obtain ⟨kA', comp', g1, g2, g3, g4⟩ := (hK.2 3 _ rfl).2
      exact Option.some.inj (f1.symm.trans g4)
  subst hcA
  have kk := kk h1 h2 p e R s m args below meth c H1 locs ls ⟨C, hl, hr.new z1 o1 (fun _ => h0) ?_, hS.grow z1 o1, ol, jok_c (jok_r _) (jok_t os), jokM_new oM rn⟩
  · rw [hsz, List.map_cons, jv_ref hp] at kk
    exact kk
  · have e0 : jnew M t n 0 ((H.size : Nat) : Int) 0 = t := by rw [← hsz]; exact jnew_0
    have e2 : jnew M t n 1 ((H.size : Nat) : Int) 0 = n := by rw [← hsz]; exact jnew_1
    have e3 : ∀ i : Int, jnew M t n 3 ((H.size : Nat) : Int) i = 0 := fun i => by rw [← hsz]; exact jnew_z (Or.inr (Or.inl rfl))
    rcases ht with ⟨rfl, rfl, h⟩ | ⟨rfl, rfl, h⟩
    · rw [jcell_3 e0]
      show H1[H.size]? = some (vp_cell _ _)
      rw [e1, vp_cell_q, e2]
      simp only [e3]
      rfl
    · rw [jcell_4 e0]
      show H1[H.size]? = some (vp_cell _ _)
      rw [e1, vp_cell_q, e2]
      simp only [e3]
      rfl
def jwd (st : List JV) : Nat := match st with
  | [] => 0
  | v :: st => (if v.1 = 0 ∨ v.1 = 1 ∨ v.1 = 5 then 1 else 2) + jwd st
theorem jwd_eq : ∀ st : List JV, ((st.map jv).map fun v => v.category).sum = jwd st
  | [] => rfl
  | v :: st => by
    rw [List.map_cons, List.map_cons, List.sum_cons, jwd_eq st, jv_cat]; rfl
theorem jr_ret {v : Int} (hd : decode (jcode x) pc = .ok (.ireturn, 1)) (hr0 : jret x = some .int) (ht : jtag x = 0) (hq : Q v M) : J G x mc ms Q cells slots pc lv [(0, v)] M := by
  intro hcm hsm p e R s m args below meth c H locs ls X
  obtain ⟨C, hl, hr, hS, ol, os, oM⟩ := X
  refine W.widen hcm hsm (W.iret C.1 C.2.1 (C.2.2.1.trans hr0) (fun t h1 _ => ?_) hS.2.2 hd (hlocks := C.2.2.2.2.2.2.1))
  refine ⟨v, M, ?_, hq, ?_, oM, by rw [h1]; exact hr, hS.F h1⟩
  · rw [ht]; rfl
  · rw [ht]; exact jok_h os
theorem jr_retz {v : Int} (hd : decode (jcode x) pc = .ok (.ireturn, 1)) (hr0 : jret x = some .boolean) (ht : jtag x = 0) (hb : v = 0 ∨ v = 1) (hq : Q v M) : J G x mc ms Q cells slots pc lv [(0, v)] M := by
  intro hcm hsm p e R s m args below meth c H locs ls X
  obtain ⟨C, hl, hr, hS, ol, os, oM⟩ := X
  refine W.widen hcm hsm (W.zret C.1 C.2.1 (C.2.2.1.trans hr0) (j01 hb).1 (fun t h1 _ => ?_) hS.2.2 hd (hlocks := C.2.2.2.2.2.2.1))
  refine ⟨v, M, ?_, hq, ?_, oM, by rw [h1]; exact hr, hS.F h1⟩
  · rw [ht]; rfl
  · rw [ht]; exact jok_h os
theorem jr_retv (hd : decode (jcode x) pc = .ok (.return_, 1)) (hr0 : jret x = none) (ht : jtag x = 3) (hq : Q 0 M) : J G x mc ms Q cells slots pc lv [] M := by
  intro hcm hsm p e R s m args below meth c H locs ls X
  obtain ⟨C, hl, hr, hS, ol, os, oM⟩ := X
  refine W.widen hcm hsm (W.vret C.1 C.2.1 (C.2.2.1.trans hr0) (fun t h1 _ => ?_) hS.2.2 hd (hlocks := C.2.2.2.2.2.2.1))
  refine ⟨0, M, ?_, hq, ?_, oM, by rw [h1]; exact hr, hS.F h1⟩
  · rw [ht]; rfl
  · rw [ht]; exact jok_3 _
theorem jr_reta {v : Int} {nm : String} (hd : decode (jcode x) pc = .ok (.areturn, 1)) (hr0 : jret x = some (.object nm)) (ht : jtag x = 1) (hq : Q v M) : J G x mc ms Q cells slots pc lv [(1, v)] M := by
  intro hcm hsm p e R s m args below meth c H locs ls X
  obtain ⟨C, hl, hr, hS, ol, os, oM⟩ := X
  have hv : jv (1, v) = .null ∨ ∃ a, jv (1, v) = .ref a := va_rf_or (jrf v)
  refine W.widen hcm hsm (W.aret C.1 C.2.1 (C.2.2.1.trans hr0) (Or.inl ⟨_, rfl⟩) hv (fun t h1 _ => ?_) hS.2.2 hd (hlocks := C.2.2.2.2.2.2.1))
  refine ⟨v, M, ?_, hq, ?_, oM, by rw [h1]; exact hr, hS.F h1⟩
  · rw [ht]; rfl
  · rw [ht]; exact jok_h os
end JNEW
end
section
def jmp_0 : List (Nat × Nat × Nat × Nat) := [(271, 76, 270, 2000), (662, 76, 660, 662), (781, 76, 780, 0), (788, 76, 787, 0), (792, 76, 791, 0), (813, 76, 812, 0), (821, 76, 819, 821), (829, 76, 828, 0), (832, 76, 831, 0), (137, 73, 136, 2000), (284, 77, 283, 2000), (696, 77, 694, 696), (705, 77, 703, 705), (917, 77, 915, 917), (921, 77, 920, 22), (925, 77, 924, 23), (235, 75, 234, 2000), (673, 75, 672, 0), (670, 75, 669, 0), (680, 75, 679, 0), (734, 75, 732, 734), (890, 75, 888, 890), (894, 75, 893, 18), (899, 75, 898, 19), (903, 75, 902, 20), (909, 75, 908, 21), (96, 70, 95, 2000), (432, 70, 430, 432), (416, 70, 414, 416), (424, 70, 422, 424), (412, 70, 410, 412), (440, 70, 438, 440), (420, 70, 419, 1), (526, 70, 524, 526), (1083, 70, 1081, 1083), (348, 80, 347, 2000), (1048, 80, 1046, 1048), (1053, 80, 1052, 34), (1069, 80, 1067, 1069), (1073, 80, 1072, 35)]
def jmp_1 : List (Nat × Nat × Nat × Nat) := [(303, 78, 302, 2000), (1002, 78, 1000, 1002), (1007, 78, 1006, 30), (1010, 78, 1009, 0), (1015, 78, 1014, 31), (1028, 78, 1026, 1028), (1032, 78, 1031, 32), (1039, 78, 1038, 33), (942, 83, 941, 2000), (952, 83, 950, 952), (964, 83, 963, 0), (956, 83, 955, 25), (960, 83, 959, 26), (968, 83, 967, 27), (981, 83, 979, 981), (985, 83, 984, 28), (989, 83, 988, 29), (180, 74, 179, 2000), (599, 74, 597, 599), (742, 74, 740, 742), (604, 74, 603, 5), (608, 74, 607, 6), (612, 74, 611, 7), (616, 74, 615, 8), (620, 74, 619, 9), (625, 74, 624, 10), (629, 74, 628, 11), (633, 74, 632, 12), (641, 74, 640, 13), (645, 74, 643, 645), (637, 74, 635, 637), (873, 74, 872, 17), (840, 74, 838, 840), (852, 74, 851, 16), (848, 74, 846, 848), (861, 74, 859, 861), (869, 74, 867, 869), (881, 74, 879, 881), (746, 74, 744, 746), (750, 74, 749, 15)]
def jmp_2 : List (Nat × Nat × Nat × Nat) := [(754, 74, 752, 754), (761, 74, 759, 761), (765, 74, 763, 765), (105, 71, 104, 2000), (534, 71, 532, 534), (453, 71, 451, 453), (513, 71, 511, 513), (436, 71, 434, 436), (462, 71, 460, 462), (471, 71, 469, 471), (449, 71, 447, 449), (505, 71, 503, 505), (517, 71, 515, 517), (445, 71, 443, 445), (546, 71, 544, 546), (556, 71, 554, 556), (566, 71, 564, 566), (583, 71, 581, 583), (574, 71, 572, 574), (579, 71, 578, 3), (309, 79, 308, 2000), (709, 79, 707, 709), (726, 79, 724, 726), (714, 79, 712, 714), (801, 79, 799, 801), (718, 79, 717, 14), (796, 79, 794, 796), (88, 69, 87, 2000), (408, 69, 406, 408), (428, 69, 426, 428), (466, 69, 464, 466), (480, 69, 478, 480), (490, 69, 488, 490), (494, 69, 492, 494), (498, 69, 496, 498), (509, 69, 507, 509), (522, 69, 520, 522), (530, 69, 528, 530), (538, 69, 536, 538), (542, 69, 540, 542)]
def jmp_3 : List (Nat × Nat × Nat × Nat) := [(552, 69, 550, 552), (562, 69, 560, 562), (570, 69, 568, 570), (587, 69, 585, 587), (591, 69, 589, 591), (649, 69, 647, 649), (654, 69, 652, 654), (658, 69, 656, 658), (667, 69, 665, 667), (677, 69, 675, 677), (684, 69, 682, 684), (688, 69, 686, 688), (692, 69, 690, 692), (701, 69, 699, 701), (722, 69, 720, 722), (730, 69, 728, 730), (738, 69, 736, 738), (770, 69, 768, 770), (774, 69, 772, 774), (778, 69, 776, 778), (785, 69, 783, 785), (806, 69, 804, 806), (810, 69, 808, 810), (817, 69, 815, 817), (826, 69, 824, 826), (836, 69, 834, 836), (844, 69, 842, 844), (856, 69, 854, 856), (865, 69, 863, 865), (877, 69, 875, 877), (886, 69, 884, 886), (913, 69, 911, 913), (929, 69, 927, 929), (933, 69, 931, 933), (973, 69, 971, 973), (977, 69, 975, 977), (994, 69, 992, 994), (998, 69, 996, 998), (1020, 69, 1018, 1020), (1024, 69, 1022, 1024)]
def jmp_4 : List (Nat × Nat × Nat × Nat) := [(1044, 69, 1042, 1044), (1061, 69, 1059, 1061), (1065, 69, 1063, 1065), (1079, 69, 1077, 1079), (1087, 69, 1085, 1087), (501, 69, 500, 0), (485, 69, 484, 2), (595, 69, 594, 4), (937, 69, 936, 24), (1092, 81, 1091, 2000), (1281, 81, 1280, 0), (1278, 81, 1277, 39), (1332, 81, 1331, 42), (1304, 81, 1303, 41), (1270, 81, 1269, 38), (1266, 81, 1265, 37), (1262, 81, 1261, 36), (1287, 81, 1286, 40), (1258, 81, 1256, 1258), (1274, 81, 1272, 1274), (1291, 81, 1289, 1291), (1300, 81, 1298, 1300), (1308, 81, 1306, 1308), (1312, 81, 1310, 1312), (1316, 81, 1314, 1316), (1320, 81, 1318, 1320), (1324, 81, 1322, 1324), (1328, 81, 1326, 1328), (1336, 81, 1334, 1336), (1344, 81, 1343, 43), (1356, 81, 1355, 44), (1340, 81, 1338, 1340), (1352, 81, 1350, 1352), (1360, 81, 1358, 1360), (1364, 81, 1362, 1364), (1368, 81, 1366, 1368), (1380, 81, 1379, 46), (1388, 81, 1387, 48), (1376, 81, 1375, 45), (1384, 81, 1383, 47)]
def jmp_5 : List (Nat × Nat × Nat × Nat) := [(1372, 81, 1370, 1372), (1392, 81, 1390, 1392), (1396, 81, 1394, 1396), (1400, 81, 1398, 1400), (1412, 81, 1411, 50), (1408, 81, 1407, 49), (1404, 81, 1402, 1404), (1416, 81, 1414, 1416), (1420, 81, 1418, 1420), (1424, 81, 1422, 1424), (1429, 81, 1427, 1429), (1438, 81, 1437, 51), (1434, 81, 1432, 1434), (1442, 81, 1440, 1442), (1446, 81, 1444, 1446), (1450, 81, 1448, 1450), (1454, 81, 1452, 1454), (1458, 81, 1456, 1458), (1471, 81, 1470, 53), (1475, 81, 1474, 54), (1479, 81, 1478, 55), (1467, 81, 1466, 52), (1483, 81, 1482, 56), (1463, 81, 1461, 1463), (1491, 81, 1490, 57), (1487, 81, 1485, 1487), (1495, 81, 1493, 1495), (1499, 81, 1497, 1499), (1503, 81, 1501, 1503), (1507, 81, 1505, 1507), (1515, 81, 1514, 58), (1511, 81, 1509, 1511), (1519, 81, 1517, 1519), (1527, 81, 1526, 59), (1523, 81, 1521, 1523), (1531, 81, 1529, 1531), (1539, 81, 1538, 60), (1535, 81, 1533, 1535), (1543, 81, 1541, 1543), (1551, 81, 1550, 61)]
def jmp_6 : List (Nat × Nat × Nat × Nat) := [(1547, 81, 1545, 1547), (1555, 81, 1553, 1555), (1563, 81, 1562, 62), (1567, 81, 1566, 63), (1571, 81, 1570, 64), (1559, 81, 1557, 1559), (1578, 81, 1577, 0), (1575, 81, 1573, 1575), (1582, 81, 1580, 1582), (1586, 81, 1584, 1586), (1590, 81, 1588, 1590), (1602, 81, 1601, 66), (1598, 81, 1597, 65), (1606, 81, 1605, 67), (1594, 81, 1592, 1594), (1610, 81, 1608, 1610), (1618, 81, 1617, 68), (1614, 81, 1612, 1614), (1622, 81, 1620, 1622), (1626, 81, 1624, 1626), (1630, 81, 1628, 1630), (1634, 81, 1632, 1634), (0, 0, 0, 0)]
def jmp (n : Nat) : List (Nat × Nat × Nat × Nat) := match n with
  | 0 => jmp_0
  | 1 => jmp_1
  | 2 => jmp_2
  | 3 => jmp_3
  | 4 => jmp_4
  | 5 => jmp_5
  | 6 => jmp_6
  | _ => []
def jmq (y : Nat) : Nat × Nat × Nat × Nat := jnth (0, 0, 0, 0) (jmp (y / 40)) (y % 40)
def jtagok (t : Nat) (r : Option FieldType) : Bool := match t, r with
  | 3, none => true
  | 0, some .int => true
  | 0, some .boolean => true
  | 1, some (.object _) => true
  | _, _ => false
def jbq : List UInt8 → List UInt8 → Bool
  | [], [] => true
  | a :: as, b :: bs => (a.toNat == b.toNat) && jbq as bs
  | _, _ => false
theorem jbq_eq : ∀ {a b : List UInt8}, jbq a b = true → a = b
  | [], [], _ => rfl
  | [], _ :: _, h => by cases h
  | _ :: _, [], h => by cases h
  | a :: as, b :: bs, h => by
    simp only [jbq, Bool.and_eq_true, beq_iff_eq] at h
    rw [UInt8.toNat_inj.mp h.1, jbq_eq h.2]
def jcdk (w : Option Cond) (n : MethodName) (b : ByteArray) (m : Nat) (r : Option FieldType) : Bool := match w with
  | some (.code n' b' m' r') => decide (n' = n) && jbq b'.data.toList b.data.toList && decide (m' = m) && decide (r' = r)
  | _ => false
theorem jcdk_eq {w : Option Cond} {n : MethodName} {b : ByteArray} {m : Nat} {r : Option FieldType} (h : jcdk w n b m r = true) : w = some (.code n b m r) := by
  unfold jcdk at h
  split at h
  · rename_i n' b' m' r'
    simp only [Bool.and_eq_true, decide_eq_true_eq] at h
    obtain ⟨⟨⟨rfl, hb⟩, rfl⟩, rfl⟩ := h
    have := jbq_eq hb
    have e : b' = b := by
      cases b'; cases b
      simp only [ByteArray.mk.injEq]
      exact Array.toList_inj.mp this
    rw [e]
  · cases h
def jmok (y : Nat) : Bool := jcdk lw_tbl[(jmq y).1]? (jname y) (jcode y) (jmaxl y) (jret y) && decide (lw_tbl[(jmq y).2.1]? = some (Cond.initialized (jname y).cls)) && decide ((jname y).cls ≠ "java/lang/invoke/MethodHandle") && decide ((jname y).cls ≠ "java/lang/invoke/VarHandle") && plainName (jname y).cls && jtagok (jtag y) (jret y) &&
  (if (jmq y).2.2.2 = 0 then decide (lw_tbl[(jmq y).2.2.1]? = some (Cond.static (jname y))) else
    decide (lw_tbl[(jmq y).2.2.1]? = some (Cond.instanceMethod (jname y))) && (if (jmq y).2.2.2 = 2000 then decide ((jname y).name = "<init>") else decide (lw_tbl[(jmq y).2.2.2 - 1]? = some (Cond.selects (jname y).cls (jname y) (jname y)))))
set_option maxRecDepth 100000 in
theorem jmok_0 : [0, 1, 2, 3, 4, 5, 6, 7, 8, 9, 10, 11, 12, 13, 14, 15, 16, 17, 18, 19, 20, 21, 22, 23, 24, 25, 26, 27, 28, 29].all jmok = true := by decide +kernel
set_option maxRecDepth 100000 in
theorem jmok_1 : [30, 31, 32, 33, 34, 35, 36, 37, 38, 39, 40, 41, 42, 43, 44, 45, 46, 47, 48, 49, 50, 51, 52, 53, 54, 55, 56, 57, 58, 59].all jmok = true := by decide +kernel
set_option maxRecDepth 100000 in
theorem jmok_2 : [60, 61, 62, 63, 64, 65, 66, 67, 68, 69, 70, 71, 72, 73, 74, 75, 76, 77, 78, 79, 80, 81, 82, 83, 84, 85, 86, 87, 88, 89].all jmok = true := by decide +kernel
set_option maxRecDepth 100000 in
theorem jmok_3 : [90, 91, 92, 93, 94, 95, 96, 97, 98, 99, 100, 101, 102, 103, 104, 105, 106, 107, 108, 109, 110, 111, 112, 113, 114, 115, 116, 117, 118, 119].all jmok = true := by decide +kernel
set_option maxRecDepth 100000 in
theorem jmok_4 : [120, 121, 122, 123, 124, 125, 126, 127, 128, 129, 130, 131, 132, 133, 134, 135, 136, 137, 138, 139, 140, 141, 142, 143, 144, 145, 146, 147, 148, 149].all jmok = true := by decide +kernel
set_option maxRecDepth 100000 in
theorem jmok_5 : [150, 151, 152, 153, 154, 155, 156, 157, 158, 159, 160, 161, 162, 163, 164, 165, 166, 167, 168, 169, 170, 171, 172, 173, 174, 175, 176, 177, 178, 179].all jmok = true := by decide +kernel
set_option maxRecDepth 100000 in
theorem jmok_6 : [180, 181, 182, 183, 184, 185, 186, 187, 188, 189, 190, 191, 192, 193, 194, 195, 196, 197, 198, 199, 200, 201, 202, 203, 204, 205, 206, 207, 208, 209].all jmok = true := by decide +kernel
set_option maxRecDepth 100000 in
theorem jmok_7 : [210, 211, 212, 213, 214, 215, 216, 217, 218, 219, 220, 221, 222, 223, 224, 225, 226, 227, 228, 229, 230, 231, 232, 233, 234, 235, 236, 237, 238, 239].all jmok = true := by decide +kernel
set_option maxRecDepth 100000 in
theorem jmok_8 : [240, 241, 242, 243, 244, 245, 246, 247, 248, 249, 250, 251, 252, 253, 254, 255, 256, 257, 258, 259, 260, 261].all jmok = true := by decide +kernel
def jlist : List Nat := [0, 1, 2, 3, 4, 5, 6, 7, 8, 9, 10, 11, 12, 13, 14, 15, 16, 17, 18, 19, 20, 21, 22, 23, 24, 25, 26, 27, 28, 29] ++ [30, 31, 32, 33, 34, 35, 36, 37, 38, 39, 40, 41, 42, 43, 44, 45, 46, 47, 48, 49, 50, 51, 52, 53, 54, 55, 56, 57, 58, 59] ++ [60, 61, 62, 63, 64, 65, 66, 67, 68, 69, 70, 71, 72, 73, 74, 75, 76, 77, 78, 79, 80, 81, 82, 83, 84, 85, 86, 87, 88, 89] ++ [90, 91, 92, 93, 94, 95, 96, 97, 98, 99, 100, 101, 102, 103, 104, 105, 106, 107, 108, 109, 110, 111, 112, 113, 114, 115, 116, 117, 118, 119] ++ [120, 121, 122, 123, 124, 125, 126, 127, 128, 129, 130, 131, 132, 133, 134, 135, 136, 137, 138, 139, 140, 141, 142, 143, 144, 145, 146, 147, 148, 149] ++ [150, 151, 152, 153, 154, 155, 156, 157, 158, 159, 160, 161, 162, 163, 164, 165, 166, 167, 168, 169, 170, 171, 172, 173, 174, 175, 176, 177, 178, 179] ++ [180, 181, 182, 183, 184, 185, 186, 187, 188, 189, 190, 191, 192, 193, 194, 195, 196, 197, 198, 199, 200, 201, 202, 203, 204, 205, 206, 207, 208, 209] ++ [210, 211, 212, 213, 214, 215, 216, 217, 218, 219, 220, 221, 222, 223, 224, 225, 226, 227, 228, 229, 230, 231, 232, 233, 234, 235, 236, 237, 238, 239] ++ [240, 241, 242, 243, 244, 245, 246, 247, 248, 249, 250, 251, 252, 253, 254, 255, 256, 257, 258, 259, 260, 261]
theorem jmok_all : ∀ y ∈ jlist, jmok y = true := by
  unfold jlist
  simp only [List.mem_append]
  intro y h
  rcases h with (((((((h | h) | h) | h) | h) | h) | h) | h) | h
  · exact List.all_eq_true.mp jmok_0 y h
  · exact List.all_eq_true.mp jmok_1 y h
  · exact List.all_eq_true.mp jmok_2 y h
  · exact List.all_eq_true.mp jmok_3 y h
  · exact List.all_eq_true.mp jmok_4 y h
  · exact List.all_eq_true.mp jmok_5 y h
  · exact List.all_eq_true.mp jmok_6 y h
  · exact List.all_eq_true.mp jmok_7 y h
  · exact List.all_eq_true.mp jmok_8 y h
end
section
/-! rules of J: calls -/
theorem jw_oi : Cond.instanceMethod Lib.objectInit ∈ jtbl := jmem (i := 90) (by decide +kernel) rfl
theorem jw_oc : Cond.code Lib.objectInit ⟨#[0xb1]⟩ 1 none ∈ jtbl := jmem (i := 91) (by decide +kernel) rfl
theorem jw_mi : Cond.initialized "java/lang/Math" ∈ jtbl := jmem (i := 72) (by decide +kernel) rfl
theorem jw_xs : Cond.static Lib.Math.max.name ∈ jtbl := jmem (i := 108) (by decide +kernel) rfl
theorem jw_xc : Cond.code Lib.Math.max.name Lib.Math.max.code 2 (some .int) ∈ jtbl := jmem (i := 109) (by decide +kernel) rfl
theorem jw_ns : Cond.static Lib.Math.min.name ∈ jtbl := jmem (i := 756) (by decide +kernel) rfl
theorem jw_nc : Cond.code Lib.Math.min.name Lib.Math.min.code 2 (some .int) ∈ jtbl := jmem (i := 757) (by decide +kernel) rfl
theorem jw_ai : Cond.initialized "java/lang/System" ∈ jtbl := jmem (i := 82) (by decide +kernel) rfl
theorem jw_as : Cond.static arraycopyName ∈ jtbl := jmem (i := 456) (by decide +kernel) rfl
theorem jw_an : Cond.native arraycopyName ∈ jtbl := jmem (i := 457) (by decide +kernel) rfl
theorem jfacts {y : Nat} (h : y ∈ jlist) : Cond.code (jname y) (jcode y) (jmaxl y) (jret y) ∈ jtbl ∧ Cond.initialized (jname y).cls ∈ jtbl ∧ ((jname y).cls ≠ "java/lang/invoke/MethodHandle" ∧ (jname y).cls ≠ "java/lang/invoke/VarHandle") ∧ plainName (jname y).cls = true ∧ jtagok (jtag y) (jret y) = true ∧ (((jmq y).2.2.2 = 0 ∧ Cond.static (jname y) ∈ jtbl) ∨ ((jmq y).2.2.2 ≠ 0 ∧ Cond.instanceMethod (jname y) ∈ jtbl ∧ (((jmq y).2.2.2 = 2000 ∧ (jname y).name = "<init>") ∨ ((jmq y).2.2.2 ≠ 2000 ∧ Cond.selects (jname y).cls (jname y) (jname y) ∈ jtbl)))) := by
  have h := jmok_all y h
  unfold jmok at h
  simp only [Bool.and_eq_true, decide_eq_true_eq] at h
  obtain ⟨⟨⟨⟨⟨⟨h1, h2⟩, h3⟩, h4⟩, h5⟩, h6⟩, h7⟩ := h
  refine ⟨jmem (jcdk_eq h1) rfl, jmem h2 rfl, ⟨h3, h4⟩, h5, h6, ?_⟩
  by_cases e : (jmq y).2.2.2 = 0
  · rw [if_pos e] at h7
    exact Or.inl ⟨e, jmem (of_decide_eq_true h7) rfl⟩
  · rw [if_neg e] at h7
    simp only [Bool.and_eq_true, decide_eq_true_eq] at h7
    refine Or.inr ⟨e, jmem h7.1 rfl, ?_⟩
    by_cases e2 : (jmq y).2.2.2 = 2000
    · rw [if_pos e2] at h7
      exact Or.inl ⟨e2, of_decide_eq_true h7.2⟩
    · rw [if_neg e2] at h7
      exact Or.inr ⟨e2, jmem (of_decide_eq_true h7.2) rfl⟩
theorem jGood {y : Nat} (h : y ∈ jlist) : GoodIn jtbl (jwords y) := by
  intro w hw
  rcases List.mem_cons.mp hw with rfl | hw
  · exact ⟨(jfacts h).1, good_of_word rfl⟩
  · obtain ⟨h1, h2⟩ := List.mem_filter.mp hw
    exact ⟨List.mem_filter.mpr ⟨h1, by unfold jkeepw; rw [h2, Bool.true_or]⟩, good_of_word h2⟩
theorem jblind {G : JG} {as : List JV} {M : JM} : FrameBlind (JP G as M) := fun _ U _ _ h => ⟨h.1, h.2.1, va_K.moved (u := U) (Vm.Alike.refl U.vm) h.2.2.1, jNw.same (s := U) rfl h.2.2.2⟩
def jpush (t : Nat) (r : Int) (st : List JV) : List JV := if t = 3 then st else (t, r) :: st
theorem jpush_eq (t : Nat) (r : Int) (st : List JV) : (jretv t r).toList ++ st.map jv = (jpush t r st).map jv := by
  unfold jretv jpush
  split <;> rfl
section JCALL
variable {G : JG} {x mc ms : Nat} {Q : Int → JM → Prop} {cells slots pc : Nat} {lv : JL} {st : List JV} {M : JM}
theorem jr_objInit {i : Nat} {a : Int} (hd : decode (jcode x) pc = .ok (.invokespecial i, 3)) (hlk : Cond.methodLink (jname x).cls i Lib.objectInit ∈ jtbl) (hw : jwd st ≤ 8) (hf : 1 ≤ jfr x) (hlo : 20 ≤ jlo x) (ha : ¬ a ≤ 0) (k : J G x mc ms Q cells slots (pc + 3) lv st M) : J G x mc ms Q cells slots pc lv ((1, a) :: st) M := by
  intro hcm hsm p e R s m args below meth c H locs ls X
  obtain ⟨C, hl, hr, hS, ol, os, oM⟩ := X
  have hts := C.2.2.2.2.2.1
  have hR := C.2.2.2.2.2.2.2.2.2.2
  have k := k hcm hsm p e R s m args below meth c H locs ls ⟨C, hl, hr, hS, ol, jok_t os, oM⟩
  rw [List.map_cons, show jv (1, a) = .ref a.toNat from by show va_rf (jrf a) = _; rw [show jrf a = some a.toNat from if_neg ha]; rfl]
  exact W.objInit C.1 C.2.1 C.2.2.2.2.1 (hts _ hlk) (hts _ jw_oi) (hts _ jw_oc) rfl (hl.1.trans C.2.2.2.1.symm) rfl hd (by rw [hR]; exact hf) (by show 2 * 0 + _ + 12 ≤ _; rw [jwd_eq, hR]; show _ ≤ jlo x; omega) k
theorem jr_max {i : Nat} {a b : Int} (hd : decode (jcode x) pc = .ok (.invokestatic i, 3)) (hlk : Cond.methodLink (jname x).cls i Lib.Math.max.name ∈ jtbl) (hw : jwd st ≤ 8) (hf : 1 ≤ jfr x) (hlo : 21 ≤ jlo x) (k : J G x mc ms Q cells slots (pc + 3) lv ((0, max a b) :: st) M) : J G x mc ms Q cells slots pc lv ((0, b) :: (0, a) :: st) M := by
  intro hcm hsm p e R s m args below meth c H locs ls X
  obtain ⟨C, hl, hr, hS, ol, os, oM⟩ := X
  have hts := C.2.2.2.2.2.1
  have hR := C.2.2.2.2.2.2.2.2.2.2
  have ra := jok_R (jok_h (jok_t os))
  have rb := jok_R (jok_h os)
  have k := k hcm hsm p e R s m args below meth c H locs ls ⟨C, hl, hr, hS, ol, jok_c (jok_i (by unfold jR at ra rb ⊢; omega)) (jok_t (jok_t os)), oM⟩
  refine va_mmax C.1 C.2.1 (C.2.2.2.1.trans hl.1.symm) C.2.2.2.2.1 (hts _ hlk) (hts _ jw_xs) (hts _ jw_mi) (hts _ jw_xc) (by rw [hR]; exact hf) (by rw [jwd_eq, hR]; show _ ≤ jlo x; omega) (by rw [hR]; exact hcm) (by rw [hR]; exact hsm) hd ?_
  have e1 : (if Int32.ofInt a < Int32.ofInt b then Int32.ofInt b else Int32.ofInt a) = Int32.ofInt (max a b) := by
    by_cases h : a < b
    · rw [if_pos ((j32_lt ra rb).mpr h), show max a b = b by omega]
    · rw [if_neg (fun q => h ((j32_lt ra rb).mp q)), show max a b = a by omega]
  rw [e1]
  exact k
theorem jr_min {i : Nat} {a b : Int} (hd : decode (jcode x) pc = .ok (.invokestatic i, 3)) (hlk : Cond.methodLink (jname x).cls i Lib.Math.min.name ∈ jtbl) (hw : jwd st ≤ 8) (hf : 1 ≤ jfr x) (hlo : 21 ≤ jlo x) (k : J G x mc ms Q cells slots (pc + 3) lv ((0, min a b) :: st) M) : J G x mc ms Q cells slots pc lv ((0, b) :: (0, a) :: st) M := by
  intro hcm hsm p e R s m args below meth c H locs ls X
  obtain ⟨C, hl, hr, hS, ol, os, oM⟩ := X
  have hts := C.2.2.2.2.2.1
  have hR := C.2.2.2.2.2.2.2.2.2.2
  have ra := jok_R (jok_h (jok_t os))
  have rb := jok_R (jok_h os)
  have k := k hcm hsm p e R s m args below meth c H locs ls ⟨C, hl, hr, hS, ol, jok_c (jok_i (by unfold jR at ra rb ⊢; omega)) (jok_t (jok_t os)), oM⟩
  have e1 : (if Int32.ofInt b < Int32.ofInt a then Int32.ofInt b else Int32.ofInt a) = Int32.ofInt (min a b) := by
    by_cases h : b < a
    · rw [if_pos ((j32_lt rb ra).mpr h), show min a b = b by omega]
    · rw [if_neg (fun q => h ((j32_lt rb ra).mp q)), show min a b = a by omega]
  refine va_mmin C.1 C.2.1 (C.2.2.2.1.trans hl.1.symm) C.2.2.2.2.1 (hts _ hlk) (hts _ jw_ns) (hts _ jw_mi) (hts _ jw_nc) (by rw [hR]; exact hf) (by rw [jwd_eq, hR]; show _ ≤ jlo x; omega) (by rw [hR]; exact hcm) (by rw [hR]; exact hsm) hd ?_
  first | (rw [e1]; exact k) | (have e2 : (if Int32.ofInt a < Int32.ofInt b then Int32.ofInt a else Int32.ofInt b) = Int32.ofInt (min a b) := by
                                   by_cases h : a < b
                                   · rw [if_pos ((j32_lt ra rb).mpr h), show min a b = a by omega]
                                   · rw [if_neg (fun q => h ((j32_lt ra rb).mp q)), show min a b = b by omega]
                                rw [e2]; exact k)
/-- behind any call -/
theorem jr_back {y mc' ms' : Nat} {as rest : List JV} {p : Program} {e : Env} {R : Room} {s : State} {m : MethodId} {args : Array Value} {below : List Frame} {meth : Method} {c : Code} {H : Heap} {locs : List Loc} {ls : Array Slot} {Q' : Int → JM → Prop} {av : Array Value} {st0 : List Value}
    (C : JC G x mc ms p e R s m args below meth c) (hl : lv_has ls (jmaxl x) (lv.map fun q => (q.1, jv q.2))) (hS : va_S (jA G) s.heap H locs) (ol : ∀ q ∈ lv, jok q.2) (os : ∀ v ∈ rest, jok v) (h1 : cells + mc' ≤ mc) (h2 : slots + ms' ≤ ms)
    (hr : va_Run p G.2.2.2 e R s m args below meth c H locs cells slots mc' ms' (F0 m pc ls st0) (rest.map jv) (JQ G (jtag y) Q' av) (jA G))
    (kk : ∀ r M', Q' r M' → jok (jtag y, r) → jokM M' → J G x mc ms Q (cells + mc') (slots + ms') (pc + 3) lv (jpush (jtag y) r rest) M') :
    W p G.2.2.2 e R s m args below meth c H locs cells slots (MQ below (JQ G (jtag x) Q) args s mc ms (jA G)) (F0 m pc ls st0) := by
  intro T hT X
  obtain ⟨v, s0, t, T', L, z0, X', hL, z1, z2, hq, go⟩ := hr T hT X
  obtain ⟨r, M', hv, hQ, hok, hoM, hJR, hF⟩ := hq
  cases hv
  have hS' : va_S (jA G) s.heap t.heap (locs ++ L) := by
    refine ⟨?_, fun q g1 g2 => ?_, fun q g => ?_⟩
    · have := hF.1; rw [z0] at this; exact Nat.le_trans hS.1 this
    · rw [hF.2 q (by rw [z0]; exact Nat.lt_of_lt_of_le g1 hS.1) g2, z0]
      exact hS.2.1 q g1 g2
    · rcases List.mem_append.mp g with g | g
      · exact hS.2.2 q g
      · exact hL q g
  have okp : ∀ v ∈ jpush (jtag y) r rest, jok v := by
    unfold jpush
    split
    · exact os
    · exact jok_c hok os
  obtain ⟨t2, a1, b1⟩ := kk r M' hQ hok hoM h1 h2 p e R s m args below meth c t.heap (locs ++ L) ls ⟨C, hl, hJR, hS', ol, okp, hoM⟩ T' z1 X'
  refine ⟨t2, go t2 ?_, b1⟩
  rw [← jpush_eq] at a1
  exact a1
def jsite (x i y : Nat) : Prop := Cond.methodLink (jname x).cls i (jname y) ∈ jtbl ∨ Cond.methodLinkNest (jname x).cls i (jname y) "UnitAtlas" ∈ jtbl
theorem jr_callv {i y ci mc' ms' n : Nat} {a : Int} {as : List JV} {C0 : String} {T : u_T} {N : Nat} {Q' : Int → JM → Prop} (hd : decode (jcode x) pc = .ok (.invokevirtual i, 3)) (hy : y ∈ jlist) (hk : (jmq y).2.2.2 ≠ 0 ∧ (jmq y).2.2.2 ≠ 2000) (hc : jclass ci C0 T N) (hn : C0 = (jname y).cls) (hs : jsite x i y) (hp : (parseMethodDescriptor (jname y).desc).map (fun d => d.parameters.length) = some n) (hlen : as.length = n) (hfr : jfr y + 1 ≤ jfr x) (hlo : 8 + (jmaxl y + 11) + jlo y ≤ jlo x) (hw : jwd st ≤ 8) (ha : M 0 a 0 = 10 + (ci : Int)) (h1 : cells + mc' ≤ mc) (h2 : slots + ms' ≤ ms)
    (hm : Runs G y mc' ms' ((1, a) :: as) M Q') (kk : ∀ r M', Q' r M' → jok (jtag y, r) → jokM M' → J G x mc ms Q (cells + mc') (slots + ms') (pc + 3) lv (jpush (jtag y) r st) M') : J G x mc ms Q cells slots pc lv (as.reverse ++ (1, a) :: st) M := by
  intro hcm hsm p e R s m args below meth c H locs ls X
  obtain ⟨C, hl, hr, hS, ol, os, oM⟩ := X
  have hts := C.2.2.2.2.2.1
  have hK := C.2.2.2.2.2.2.2.2.1
  have hR := C.2.2.2.2.2.2.2.2.2.2
  obtain ⟨f1, f2, f3, f4, f5, f6⟩ := jfacts hy
  obtain ⟨f7, f8⟩ : Cond.instanceMethod (jname y) ∈ jtbl ∧ Cond.selects (jname y).cls (jname y) (jname y) ∈ jtbl := by
    rcases f6 with ⟨g, -⟩ | ⟨-, g1, ⟨g, -⟩ | ⟨-, g2⟩⟩
    · exact absurd g hk.1
    · exact absurd g hk.2
    · exact ⟨g1, g2⟩
  have oas : ∀ v ∈ (1, a) :: as, jok v := jok_c (jok_r a) (fun v hv => os v (List.mem_append_left _ (List.mem_reverse.mpr hv)))
  have ost : ∀ v ∈ st, jok v := fun v hv => os v (List.mem_append_right _ (List.mem_cons_of_mem _ hv))
  have hm := hm oM oas
  obtain ⟨q, rfl, hqb, hqs, hq0, hat⟩ := hr.at (a := a) (by omega)
  rw [jcell_obj ha] at hat
  have hrecv := va_recv (D := G.1) hK (va_P1 hat) hc.1 (q0 := 0) rfl
  rw [show (C0, T, N).1 = (jname y).cls from hn] at hrecv
  have hpre : PreV s H (jname y).cls q (JP G ((1, (q : Int)) :: as) M) (as.map jv) := ⟨jblind, hrecv, fun U hU hW => ⟨by rw [List.map_cons, jv_ref hq0], by rw [hU]; exact hr, va_K.moved hW.alike hK, (jNw.of hts).warm hW⟩⟩
  have hwd : 2 * (F0 m pc ls ((as.map jv).reverse ++ .ref q :: st.map jv)).monitorRoom + ((st.map jv).map fun v => v.category).sum ≤ 8 := lv_room (by rw [jwd_eq]; exact hw)
  have hst : (as.reverse ++ (1, (q : Int)) :: st).map jv = (as.map jv).reverse ++ .ref q :: st.map jv := by
    rw [List.map_append, List.map_reverse, List.map_cons, jv_ref hq0]
  rw [hst]
  rcases hs with hs | hs
  · have cw : CallW R s args (jname x).cls (jname y).cls i (jname y) (jcode y) (jmaxl y) (jret y) (jwords y) (jroom y mc' ms') mc' ms' n := ⟨callB_of n hts (jGood hy) rfl rfl rfl (hts _ f2) (hts _ hs) ⟨f3.1, f3.2, hp⟩ (by rw [hR]; exact ⟨hfr, hlo⟩), hts _ f7, hts _ f8⟩
    exact jr_back (y := y) (as := as) C hl hS ol ost h1 h2 (va_runV (As := as.map jv) (rest := st.map jv) (cc := jcode x) (nL := jmaxl x) ⟨C.1, C.2.1, C.2.2.2.1, C.2.2.2.2.1, hts⟩ hm cw hpre rfl (by rw [List.length_map]; exact hlen) hl.1 rfl hwd hd (by rw [hR]; exact ⟨h1, h2⟩)) kk
  · have cw := va_cnB (R := R) (args := args) (s := s) n hts (jGood hy) rfl rfl rfl (va_Nw.of rfl (hts _ hs)) (hts _ f2) ⟨f3.1, f3.2, hp⟩ (rm := jroom y mc' ms') (by rw [hR]; exact ⟨hfr, hlo⟩)
    exact jr_back (y := y) (as := as) C hl hS ol ost h1 h2 (va_runVN (As := as.map jv) (rest := st.map jv) (cc := jcode x) (nL := jmaxl x) (C := (jname y).cls) ⟨C.1, C.2.1, C.2.2.2.1, C.2.2.2.2.1, hts⟩ hm ⟨cw, hts _ f7, hts _ f8⟩ hpre rfl (by rw [List.length_map]; exact hlen) hl.1 rfl hwd hd (by rw [hR]; exact ⟨h1, h2⟩)) kk
theorem jr_callI {i y mc' ms' n : Nat} {a : Int} {as : List JV} {Q' : Int → JM → Prop} (hd : decode (jcode x) pc = .ok (.invokespecial i, 3)) (hy : y ∈ jlist) (hk : (jmq y).2.2.2 = 2000) (hrv : jret y = none) (hs : jsite x i y) (hp : (parseMethodDescriptor (jname y).desc).map (fun d => d.parameters.length) = some n) (hlen : as.length = n) (hfr : jfr y + 1 ≤ jfr x) (hlo : 8 + (jmaxl y + 11) + jlo y ≤ jlo x) (hw : jwd st ≤ 8) (ha : ¬ a ≤ 0) (h1 : cells + mc' ≤ mc) (h2 : slots + ms' ≤ ms)
    (hm : Runs G y mc' ms' ((1, a) :: as) M Q') (kk : ∀ r M', Q' r M' → jok (jtag y, r) → jokM M' → J G x mc ms Q (cells + mc') (slots + ms') (pc + 3) lv (jpush (jtag y) r st) M') : J G x mc ms Q cells slots pc lv (as.reverse ++ (1, a) :: st) M := by
  intro hcm hsm p e R s m args below meth c H locs ls X
  obtain ⟨C, hl, hr, hS, ol, os, oM⟩ := X
  have hts := C.2.2.2.2.2.1
  have hK := C.2.2.2.2.2.2.2.2.1
  have hR := C.2.2.2.2.2.2.2.2.2.2
  obtain ⟨f1, f2, f3, f4, f5, f6⟩ := jfacts hy
  obtain ⟨f7, f8⟩ : Cond.instanceMethod (jname y) ∈ jtbl ∧ (jname y).name = "<init>" := by
    rcases f6 with ⟨g, -⟩ | ⟨-, g1, ⟨-, g⟩ | ⟨g2, -⟩⟩
    · omega
    · exact ⟨g1, g⟩
    · exact absurd hk g2
  have oas : ∀ v ∈ (1, a) :: as, jok v := jok_c (jok_r a) (fun v hv => os v (List.mem_append_left _ (List.mem_reverse.mpr hv)))
  have ost : ∀ v ∈ st, jok v := fun v hv => os v (List.mem_append_right _ (List.mem_cons_of_mem _ hv))
  have hm := hm oM oas
  obtain ⟨q, rfl⟩ : ∃ q : Nat, a = q := ⟨a.toNat, by omega⟩
  have hq0 : 0 < q := by omega
  have hpre : PreS s H (JP G ((1, (q : Int)) :: as) M) (.ref q :: as.map jv) := ⟨jblind, fun U hU hW => ⟨by rw [List.map_cons, jv_ref hq0], by rw [hU]; exact hr, va_K.moved hW.alike hK, (jNw.of hts).warm hW⟩⟩
  have hwd : 2 * (F0 m pc ls ((as.map jv).reverse ++ .ref q :: st.map jv)).monitorRoom + ((st.map jv).map fun v => v.category).sum ≤ 8 := lv_room (by rw [jwd_eq]; exact hw)
  have hst : (as.reverse ++ (1, (q : Int)) :: st).map jv = (as.map jv).reverse ++ .ref q :: st.map jv := by
    rw [List.map_append, List.map_reverse, List.map_cons, jv_ref hq0]
  rw [hst]
  have hcd : jwords y = Cond.code (jname y) (jcode y) (jmaxl y) none :: jgtbl := by unfold jwords; rw [hrv]
  rcases hs with hs | hs
  · have cw : CallB R s args (jname x).cls i (jname y) (jcode y) (jmaxl y) none (jwords y) (jroom y mc' ms') mc' ms' n := callB_of n hts (jGood hy) hcd rfl rfl (hts _ f2) (hts _ hs) ⟨f3.1, f3.2, hp⟩ (by rw [hR]; exact ⟨hfr, hlo⟩)
    exact jr_back (y := y) (as := as) C hl hS ol ost h1 h2 (va_runI (As := as.map jv) (rest := st.map jv) (cc := jcode x) (nL := jmaxl x) ⟨C.1, C.2.1, C.2.2.2.1, C.2.2.2.2.1, hts⟩ hm ⟨cw, f8, hts _ f7⟩ hpre rfl (by rw [List.length_map]; exact hlen) hl.1 rfl hwd hd (by rw [hR]; exact ⟨h1, h2⟩)) kk
  · have cw := va_cnB (R := R) (args := args) (s := s) n hts (jGood hy) hcd rfl rfl (va_Nw.of rfl (hts _ hs)) (hts _ f2) ⟨f3.1, f3.2, hp⟩ (rm := jroom y mc' ms') (by rw [hR]; exact ⟨hfr, hlo⟩)
    exact jr_back (y := y) (as := as) C hl hS ol ost h1 h2 (va_runIN (As := as.map jv) (rest := st.map jv) (cc := jcode x) (nL := jmaxl x) ⟨C.1, C.2.1, C.2.2.2.1, C.2.2.2.2.1, hts⟩ hm ⟨cw, f8, hts _ f7⟩ hpre rfl (by rw [List.length_map]; exact hlen) hl.1 rfl hwd hd (by rw [hR]; exact ⟨h1, h2⟩)) kk
theorem jr_callS {i y mc' ms' n : Nat} {as : List JV} {Q' : Int → JM → Prop} (hd : decode (jcode x) pc = .ok (.invokestatic i, 3)) (hy : y ∈ jlist) (hk : (jmq y).2.2.2 = 0) (hs : jsite x i y) (hp : (parseMethodDescriptor (jname y).desc).map (fun d => d.parameters.length) = some n) (hlen : as.length = n) (hfr : jfr y + 1 ≤ jfr x) (hlo : 8 + (jmaxl y + 11) + jlo y ≤ jlo x) (hw : jwd st ≤ 8) (h1 : cells + mc' ≤ mc) (h2 : slots + ms' ≤ ms)
    (hm : Runs G y mc' ms' as M Q') (kk : ∀ r M', Q' r M' → jok (jtag y, r) → jokM M' → J G x mc ms Q (cells + mc') (slots + ms') (pc + 3) lv (jpush (jtag y) r st) M') : J G x mc ms Q cells slots pc lv (as.reverse ++ st) M := by
  intro hcm hsm p e R s m args below meth c H locs ls X
  obtain ⟨C, hl, hr, hS, ol, os, oM⟩ := X
  have hts := C.2.2.2.2.2.1
  have hK := C.2.2.2.2.2.2.2.2.1
  have hR := C.2.2.2.2.2.2.2.2.2.2
  obtain ⟨f1, f2, f3, f4, f5, f6⟩ := jfacts hy
  have f7 : Cond.static (jname y) ∈ jtbl := by
    rcases f6 with ⟨-, g⟩ | ⟨g, -⟩
    · exact g
    · exact absurd hk g
  have oas : ∀ v ∈ as, jok v := fun v hv => os v (List.mem_append_left _ (List.mem_reverse.mpr hv))
  have ost : ∀ v ∈ st, jok v := fun v hv => os v (List.mem_append_right _ hv)
  have hm := hm oM oas
  have hpre : PreS s H (JP G as M) (as.map jv) := ⟨jblind, fun U hU hW => ⟨rfl, by rw [hU]; exact hr, va_K.moved hW.alike hK, (jNw.of hts).warm hW⟩⟩
  have hwd : 2 * (F0 m pc ls ((as.map jv).reverse ++ st.map jv)).monitorRoom + ((st.map jv).map fun v => v.category).sum ≤ 8 := lv_room (by rw [jwd_eq]; exact hw)
  have hst : (as.reverse ++ st).map jv = (as.map jv).reverse ++ st.map jv := by rw [List.map_append, List.map_reverse]
  rw [hst]
  rcases hs with hs | hs
  · have cw : CallB R s args (jname x).cls i (jname y) (jcode y) (jmaxl y) (jret y) (jwords y) (jroom y mc' ms') mc' ms' n := callB_of n hts (jGood hy) rfl rfl rfl (hts _ f2) (hts _ hs) ⟨f3.1, f3.2, hp⟩ (by rw [hR]; exact ⟨hfr, hlo⟩)
    exact jr_back (y := y) (as := as) C hl hS ol ost h1 h2 (va_runS (As := as.map jv) (rest := st.map jv) (cc := jcode x) (nL := jmaxl x) ⟨C.1, C.2.1, C.2.2.2.1, C.2.2.2.2.1, hts⟩ hm ⟨cw, hts _ f7⟩ hpre rfl (by rw [List.length_map]; exact hlen) hl.1 rfl hwd hd (by rw [hR]; exact ⟨h1, h2⟩)) kk
  · have cw := va_cnB (R := R) (args := args) (s := s) n hts (jGood hy) rfl rfl rfl (va_Nw.of rfl (hts _ hs)) (hts _ f2) ⟨f3.1, f3.2, hp⟩ (rm := jroom y mc' ms') (by rw [hR]; exact ⟨hfr, hlo⟩)
    exact jr_back (y := y) (as := as) C hl hS ol ost h1 h2 (va_runSN (As := as.map jv) (rest := st.map jv) (cc := jcode x) (nL := jmaxl x) ⟨C.1, C.2.1, C.2.2.2.1, C.2.2.2.2.1, hts⟩ hm ⟨cw, hts _ f7, trivial⟩ hpre rfl (by rw [List.length_map]; exact hlen) hl.1 rfl hwd hd (by rw [hR]; exact ⟨h1, h2⟩)) kk
/-- fewer locals -/
theorem J.less {lv' : JL} (h : ∀ q ∈ lv', q ∈ lv) (k : J G x mc ms Q cells slots pc lv' st M) : J G x mc ms Q cells slots pc lv st M := by
  intro hcm hsm p e R s m args below meth c H locs ls X
  obtain ⟨C, hl, hr, hS, ol, os, oM⟩ := X
  refine k hcm hsm p e R s m args below meth c H locs ls ⟨C, ⟨hl.1, hl.2.1, fun q hq => ?_⟩, hr, hS, fun q hq => ol q (h q hq), os, oM⟩
  obtain ⟨z, hz, rfl⟩ := List.mem_map.mp hq
  exact hl.2.2 _ (List.mem_map.mpr ⟨z, h z hz, rfl⟩)
def jentry : Nat → List JV → JL
  | _, [] => []
  | i, v :: vs => (i, v) :: jentry (if v.1 = 0 ∨ v.1 = 1 ∨ v.1 = 5 then i + 1 else i + 2) vs
theorem jentry_eq : ∀ (i : Nat) (as : List JV), lv_args i (as.map jv) = (jentry i as).map fun q => (q.1, jv q.2)
  | _, [] => rfl
  | i, v :: vs => by
    show (i, jv v) :: lv_args (if (jv v).category = 2 then i + 2 else i + 1) (vs.map jv) = (i, jv v) :: (jentry _ vs).map _
    rw [jv_cat]
    by_cases h : v.1 = 0 ∨ v.1 = 1 ∨ v.1 = 5
    · rw [if_pos h, if_neg (by omega), if_pos h, jentry_eq]
    · rw [if_neg h, if_pos rfl, if_neg h, jentry_eq]
theorem jentry_ok : ∀ (i : Nat) (as : List JV), (∀ v ∈ as, jok v) → ∀ q ∈ jentry i as, jok q.2
  | _, [], _, _, h => by cases h
  | i, v :: vs, h, q, hq => by
    rcases List.mem_cons.mp hq with rfl | hq
    · exact h _ List.mem_cons_self
    · exact jentry_ok _ vs (fun w hw => h w (List.mem_cons_of_mem _ hw)) q hq
/-- a method's contract out of its walk -/
theorem Runs.of {y : Nat} {as : List JV} (hy : y ∈ jlist) (hlen : (lg_sl (as.map jv)).length ≤ jmaxl y) (h : J G y mc ms Q 0 0 0 (jentry 0 as) [] M) : Runs G y mc ms as M Q := by
  intro oM oas
  refine Met.ofW (cc := jcode y) (maxL := jmaxl y) (ret := jret y) (jfacts hy).2.2.2.1 rfl ?_
  intro p e s m args below meth c s₁ B hml hv
  obtain ⟨rfl, hr, hK, hNw⟩ := hv
  have hts := atoms_spec (ws := jwords y) B.pre
  have hl := lv_entry (as.map jv) (n := jmaxl y) hlen
  rw [lg_entry_eq]
  rw [jentry_eq] at hl
  have k := h (Nat.zero_le _) (Nat.zero_le _) p e (jroom y mc ms) s m (as.map jv).toArray below meth c s.heap [] _ ⟨⟨B.exec, B.bytes, B.returns, hml, findClass_of_methodNamed B.named, jtbl_of (fun w hw => hts w (List.mem_cons_of_mem _ hw)) hNw, B.notSynchronized, (name_of_methodNamed B.named B.method).1, hK, hr.2.2.1, rfl⟩, hl, hr, va_S.rf, jentry_ok 0 as oas, fun v hv => (by cases hv), oM⟩
  exact k
/-- a loop: an invariant with a number that falls -/
theorem J.loop {α : Type} {lvf : α → JL} {Mf : α → JM} (I : Nat → α → Prop) (h : ∀ n z, I n z → (∀ k z', k < n → I k z' → J G x mc ms Q cells slots pc (lvf z') [] (Mf z')) → J G x mc ms Q cells slots pc (lvf z) [] (Mf z)) : ∀ n z, I n z → J G x mc ms Q cells slots pc (lvf z) [] (Mf z) := by
  intro n
  induction n using Nat.strongRecOn with
  | ind n ih => exact fun z hz => h n z hz (fun k z' hk hz' => ih k hk z' hz')
end JCALL
end
section
/-! rules of J: copying within int arrays; switches -/
def jcpy (M : JM) (a : Int) (sp : Int) (b : Int) (dp n : Int) : JM := fun k a' j => if k = 2 ∧ a' = b ∧ dp ≤ j ∧ j < dp + n then M 2 a (sp + (j - dp)) else M k a' j
section JCPY
variable {G : JG} {x mc ms : Nat} {Q : Int → JM → Prop} {cells slots pc : Nat} {lv : JL} {st : List JV} {M : JM}
theorem jcpy_k {a sp b dp n : Int} {k : Nat} (h : k ≠ 2) (a' j : Int) : jcpy M a sp b dp n k a' j = M k a' j := if_neg fun e => h e.1
theorem jcpy_a {a sp b dp n a' : Int} (h : a' ≠ b) (k : Nat) (j : Int) : jcpy M a sp b dp n k a' j = M k a' j := if_neg fun e => h e.2.1
theorem jr_copy {i : Nat} {a b sp dp n : Int} (hd : decode (jcode x) pc = .ok (.invokestatic i, 3)) (hlk : Cond.methodLink (jname x).cls i arraycopyName ∈ jtbl) (hw : jwd st ≤ 8) (hf : 1 ≤ jfr x) (hlo : 26 ≤ jlo x) (ha : M 0 a 0 = 1) (hb : M 0 b 0 = 1) (h1 : 0 ≤ sp) (h2 : 0 ≤ dp) (h3 : 0 ≤ n) (h4 : sp + n ≤ M 1 a 0) (h5 : dp + n ≤ M 1 b 0) (kk : J G x mc ms Q cells slots (pc + 3) lv st (jcpy M a sp b dp n)) : J G x mc ms Q cells slots pc lv ((0, n) :: (0, dp) :: (1, b) :: (0, sp) :: (1, a) :: st) M := by
  intro hcm hsm p e R s m args below meth c H locs ls X
  obtain ⟨C, hl, hr, hS, ol, os, oM⟩ := X
  have hts := C.2.2.2.2.2.1
  have hK := C.2.2.2.2.2.2.2.2.1
  have hR := C.2.2.2.2.2.2.2.2.2.2
  have rn := jok_R (jok_h os)
  have rd := jok_R (jok_h (jok_t os))
  have rs := jok_R (jok_h (jok_t (jok_t (jok_t os))))
  have ost := jok_t (jok_t (jok_t (jok_t (jok_t os))))
  obtain ⟨qa, rfl, hab, has, ha0, haat⟩ := hr.at (a := a) (by omega)
  obtain ⟨qb, rfl, hbb, hbs, hb0, hbat⟩ := hr.at (a := b) (by omega)
  rw [jcell_1 ha] at haat
  rw [jcell_1 hb] at hbat
  rw [List.map_cons, List.map_cons, List.map_cons, List.map_cons, List.map_cons, jv_ref ha0, jv_ref hb0]
  have hc0 : H[qa]? = some (vp_cell (G.2.1 0) ((M 1 qa 0).toNat, .inl fun j => Int32.ofInt (M 2 qa j))) := haat
  have hc1 : H[qb]? = some (vp_cell (G.2.1 0) ((M 1 qb 0).toNat, .inl fun j => Int32.ofInt (M 2 qb j))) := hbat
  intro T hT X
  obtain ⟨-, k0, hk0, cm0, hkk0⟩ := (hK.2 0 _ rfl).1 (M 1 qa 0).toNat (fun j => .int (Int32.ofInt (M 2 qa j)))
  obtain ⟨-, k1, hk1, cm1, hkk1⟩ := (hK.2 0 _ rfl).1 (M 1 qb 0).toNat (fun j => .int (Int32.ofInt (M 2 qb j)))
  have ns := j32_nat rs h1
  have nd := j32_nat rd h2
  have nn := j32_nat rn h3
  obtain ⟨vm', X', step⟩ := X.arraycopy C.1 C.2.2.2.2.1 (hts _ hlk) (hts _ jw_an) (hts _ jw_as) (hts _ jw_ai) (src := qa) (dst := qb) (cs := vp_cell (G.2.1 0) ((M 1 qa 0).toNat, .inl fun j => Int32.ofInt (M 2 qa j))) (cd := vp_cell (G.2.1 0) ((M 1 qb 0).toNat, .inl fun j => Int32.ofInt (M 2 qb j))) (srcPos := Int32.ofInt sp) (destPos := Int32.ofInt dp) (n := Int32.ofInt n) (by rw [hT]; exact hc0) (by rw [hT]; exact hc1)
    (fun _ h => by cases h) (fun _ h => by cases h) (fun h => by cases h) (fun h => by cases h) hk0 hk1 hkk0 hkk1 (by simp [refKind]) (jlen rs h1) (jlen rd h2) (jlen rn h3)
    (by rw [j32 rs, j32 rn]; show ¬ _ > ((arrV (G.2.1 0) (M 1 qa 0).toNat (fun j => .int (Int32.ofInt (M 2 qa j)))).slots.size : Int); rw [arrV_size]; omega)
    (by rw [j32 rd, j32 rn]; show ¬ _ > ((arrV (G.2.1 0) (M 1 qb 0).toNat (fun j => .int (Int32.ofInt (M 2 qb j)))).slots.size : Int); rw [arrV_size]; omega)
    (fun vm₁ _ i hi => by
      have e : (vp_cell (G.2.1 0) ((M 1 qa 0).toNat, .inl fun j => Int32.ofInt (M 2 qa j))).slots.getD ((Int32.ofInt sp).toNatClampNeg + i) .null = .int (Int32.ofInt (M 2 qa (((Int32.ofInt sp).toNatClampNeg + i : Nat) : Int))) := by
        show (arrV (G.2.1 0) (M 1 qa 0).toNat (fun j => .int (Int32.ofInt (M 2 qa j)))).slots.getD _ _ = _
        rw [Array.getD_eq_getD_getElem?, arrV_read _ _ (by rw [ns]; rw [nn] at hi; omega)]
        rfl
      refine ⟨?_, ?_⟩
      · rw [e]; rfl
      · rw [e]
        exact trivial)
    (g := F0 m pc ls (.int (Int32.ofInt n) :: .int (Int32.ofInt dp) :: .ref qb :: .int (Int32.ofInt sp) :: .ref qa :: st.map jv)) rfl (hl.1.trans C.2.2.2.1.symm) (rest := st.map jv) rfl (by rw [C.2.1]; exact hd) (by rw [hR]; exact hf) (by show 2 * 0 + _ + _ ≤ _; rw [jwd_eq, hR]; show _ + (5 + 2 + 11) ≤ jlo x; omega)
  have e1 := va_copied (fun z => .int z) (G.2.1 0) (G.2.1 0) (n0 := (M 1 qa 0).toNat) (n1 := (M 1 qb 0).toNat) (sp := (Int32.ofInt sp).toNatClampNeg) (dp := (Int32.ofInt dp).toNatClampNeg) (n := (Int32.ofInt n).toNatClampNeg) (fun j => Int32.ofInt (M 2 qa j)) (fun j => Int32.ofInt (M 2 qb j)) (by rw [ns, nn]; omega)
  have e2 : copied (vp_cell (G.2.1 0) ((M 1 qa 0).toNat, .inl fun j => Int32.ofInt (M 2 qa j))) (vp_cell (G.2.1 0) ((M 1 qb 0).toNat, .inl fun j => Int32.ofInt (M 2 qb j))) (Int32.ofInt sp) (Int32.ofInt dp) (Int32.ofInt n) = vp_cell (G.2.1 0) ((M 1 qb 0).toNat, .inl (va_cpy (fun j => Int32.ofInt (M 2 qa j)) (fun j => Int32.ofInt (M 2 qb j)) sp.toNat dp.toNat n.toNat)) := by
    rw [← ns, ← nd, ← nn]; exact e1
  rw [e2] at X' step
  generalize hcd : vp_cell (G.2.1 0) ((M 1 qb 0).toNat, .inl (va_cpy (fun j => Int32.ofInt (M 2 qa j)) (fun j => Int32.ofInt (M 2 qb j)) sp.toNat dp.toNat n.toNat)) = cd at X' step
  have hheap : ((T.setVm vm').setCell qb cd).heap = H.setIfInBounds qb cd := by rw [← hT]; rfl
  have oq : ∀ q : Nat, q ≠ qb → (H.setIfInBounds qb cd)[q]? = H[q]? := fun q hq => by simp [Array.getElem?_setIfInBounds, Ne.symm hq]
  have zz : (H.setIfInBounds qb cd).size = H.size := by simp
  have hoM : jokM (jcpy M qa sp qb dp n) := by
    intro k a' j hk
    unfold jcpy
    split
    · exact oM 2 _ _ (Or.inr (Or.inl rfl))
    · exact oM k a' j hk
  have hJ : JR G (jcpy M qa sp qb dp n) (H.setIfInBounds qb cd) := by
    refine hr.upd (a := qb) zz oq (fun z hz => jcell_same (jcpy_k (by omega) _ _) (jcpy_k (by omega) _ _) (fun j => jcpy_a (by omega) _ _) (fun j => jcpy_k (by omega) _ _) (fun k hk => jcpy_k (by omega) _ _)) ?_ (fun z => jcpy_k (by omega) _ _) (fun z => jcpy_k (by omega) _ _) (jcpy_k (by omega) _ _)
    rw [jcell_1 (by rw [jcpy_k (by omega)]; exact hb)]
    show (H.setIfInBounds qb cd)[qb]? = some (vp_cell _ _)
    rw [jcpy_k (show (1 : Nat) ≠ 2 by omega), Array.getElem?_setIfInBounds, if_pos rfl, if_pos hbs, ← hcd]
    congr 4
    funext j
    unfold va_cpy jcpy
    by_cases h : dp.toNat ≤ j ∧ j < dp.toNat + n.toNat
    · rw [if_pos h, if_pos ⟨rfl, rfl, by omega, by omega⟩]
      have e9 : ((sp.toNat + (j - dp.toNat) : Nat) : Int) = sp + ((j : Int) - dp) := by omega
      show Int32.ofInt (M 2 qa ((sp.toNat + (j - dp.toNat) : Nat) : Int)) = _
      rw [e9]
    · rw [if_neg h, if_neg (fun q => h (by omega))]
  obtain ⟨t, a1, b1⟩ := kk hcm hsm p e R s m args below meth c (H.setIfInBounds qb cd) _ ls ⟨C, hl, hJ, ⟨by rw [zz]; exact hS.1, fun q g1 g2 => by
      rw [oq q (fun e => g2 (by rw [e]; exact hbb))]
      exact hS.2.1 q g1 g2, fun q hq => by
      rcases List.mem_append.mp hq with h | h
      · exact hS.2.2 q h
      · obtain ⟨z, -, hz⟩ := List.mem_map.mp h
        rw [← hz]
        exact hbb⟩, ol, ost, hoM⟩ _ hheap X'
  exact ⟨t, step t a1, b1⟩
theorem jr_table {dflt lo hi : Int} {offs : Array Int} {len : Nat} {v : Int} {t0 : Nat} (hd : decode (jcode x) pc = .ok (.tableswitch dflt lo hi offs, len)) (ht : (pc : Int) + dflt = t0) (k0 : (v < lo ∨ hi < v) → J G x mc ms Q cells slots t0 lv st M) (k1 : ¬ v < lo → ¬ hi < v → ∃ (off : Int) (t : Nat), offs[(v - lo).toNat]? = some off ∧ (pc : Int) + off = t ∧ J G x mc ms Q cells slots t lv st M) : J G x mc ms Q cells slots pc lv ((0, v) :: st) M := by
  intro hcm hsm p e R s m args below meth c H locs ls X
  obtain ⟨C, hl, hr, hS, ol, os, oM⟩ := X
  have rv := jok_R (jok_h os)
  by_cases h : v < lo ∨ hi < v
  · exact lv_tableOut C.1 C.2.1 hd (by rw [j32 rv]; exact h) ht (k0 h hcm hsm p e R s m args below meth c H locs ls ⟨C, hl, hr, hS, ol, jok_t os, oM⟩)
  · obtain ⟨off, t, g1, g2, g3⟩ := k1 (fun q => h (Or.inl q)) (fun q => h (Or.inr q))
    exact lv_tableIn C.1 C.2.1 hd (by rw [j32 rv]; exact fun q => h (Or.inl q)) (by rw [j32 rv]; exact fun q => h (Or.inr q)) (by rw [j32 rv]; exact g1) g2 (g3 hcm hsm p e R s m args below meth c H locs ls ⟨C, hl, hr, hS, ol, jok_t os, oM⟩)
end JCPY
end
section
/-! what must hold ahead of a stretch of code, computed -/
abbrev JI : Type := Nat × Instr × Nat × Nat × Nat × Nat × Nat × Nat × Int
abbrev JCut : Type := List (Nat × List Nat × (Nat → Nat → List JV → JM → Prop))
def jat : List JI → Nat → Option JI
  | [], _ => none
  | i :: l, pc => if i.1 = pc then some i else jat l pc
def jcut : JCut → Nat → Option (List Nat × (Nat → Nat → List JV → JM → Prop))
  | [], _ => none
  | i :: l, pc => if i.1 = pc then some i.2 else jcut l pc
def jpick (lv : JL) : List Nat → Option (List JV)
  | [] => some []
  | i :: l => match jlg lv i, jpick lv l with
    | some v, some vs => some (v :: vs)
    | _, _ => none
def jargs : Nat → List JV → List JV → Option (List JV × List JV)
  | 0, st, acc => some (acc, st)
  | n + 1, v :: st, acc => jargs n st (v :: acc)
  | _ + 1, [], _ => none
def jsw (pc : Nat) (v : Int) (K : Nat → Prop) : List Int → Int → Prop
  | [], _ => True
  | off :: l, k => (v = k → K ((pc : Int) + off).toNat) ∧ jsw pc v K l (k + 1)
def jends (cells slots mc ms : Nat) (P : Prop) : Prop := match cells, slots with
  | 0, 0 => P
  | c, s => c ≤ mc ∧ s ≤ ms ∧ P
def jwp (G : JG) (code : List JI) (cut : JCut) (mc ms : Nat) (Q : Int → JM → Prop) : Nat → Bool → Nat → Nat → Nat → JL → List JV → JM → Prop
  | 0, _, _, _, _, _, _, _ => False
  | f + 1, fr, cells, slots, pc, lv, st, M =>
    match (match fr with | true => none | false => jcut cut pc) with
    | some (sl, P) => (match st, jpick lv sl with
      | [], some vs => P cells slots vs M
      | _, _ => False)
    | none =>
      match jat code pc with
      | none => False
      | some (_, i, len, a, b, c, _, e, v) =>
        let K := fun (pc : Nat) (lv : JL) (st : List JV) (M : JM) => jwp G code cut mc ms Q f false cells slots pc lv st M
        match i with
        | .iconst n => K (pc + 1) lv ((0, n) :: st) M
        | .bipush n => K (pc + 2) lv ((0, n) :: st) M
        | .sipush n => K (pc + 3) lv ((0, n) :: st) M
        | .ldc _ => K (pc + 2) lv ((0, v) :: st) M
        | .ldc2_w _ => K (pc + 3) lv ((2, v) :: st) M
        | .lconst n => K (pc + 1) lv ((2, ((n : Nat) : Int)) :: st) M
        | .aconst_null => K (pc + 1) lv ((1, 0) :: st) M
        | .iload k => (match jlg lv k with | some (0, w) => K (pc + 2) lv ((0, w) :: st) M | _ => False)
        | .iload_n k => (match jlg lv k with | some (0, w) => K (pc + 1) lv ((0, w) :: st) M | _ => False)
        | .lload k => (match jlg lv k with | some (2, w) => K (pc + 2) lv ((2, w) :: st) M | _ => False)
        | .lload_n k => (match jlg lv k with | some (2, w) => K (pc + 1) lv ((2, w) :: st) M | _ => False)
        | .aload k => (match jlg lv k with | some (1, w) => K (pc + 2) lv ((1, w) :: st) M | _ => False)
        | .aload_n k => (match jlg lv k with | some (1, w) => K (pc + 1) lv ((1, w) :: st) M | _ => False)
        | .istore k => (match st with | (0, w) :: st => K (pc + 2) (jls lv k (0, w)) st M | _ => False)
        | .istore_n k => (match st with | (0, w) :: st => K (pc + 1) (jls lv k (0, w)) st M | _ => False)
        | .astore k => (match st with | (1, w) :: st => K (pc + 2) (jls lv k (1, w)) st M | _ => False)
        | .astore_n k => (match st with | (1, w) :: st => K (pc + 1) (jls lv k (1, w)) st M | _ => False)
        | .iinc k n => (match jlg lv k with | some (0, w) => jR (w + n) ∧ K (pc + 3) (jls lv k (0, w + n)) st M | _ => False)
        | .iadd => (match st with | (0, y) :: (0, x) :: st => jR (x + y) ∧ K (pc + 1) lv ((0, x + y) :: st) M | _ => False)
        | .isub => (match st with | (0, y) :: (0, x) :: st => jR (x - y) ∧ K (pc + 1) lv ((0, x - y) :: st) M | _ => False)
        | .imul => (match st with | (0, y) :: (0, x) :: st => jR (x * y) ∧ K (pc + 1) lv ((0, x * y) :: st) M | _ => False)
        | .idiv => (match st with | (0, y) :: (0, x) :: st => (0 ≤ x ∧ 0 < y) ∧ K (pc + 1) lv ((0, x / y) :: st) M | _ => False)
        | .irem => (match st with | (0, y) :: (0, x) :: st => (0 ≤ x ∧ 0 < y) ∧ K (pc + 1) lv ((0, x % y) :: st) M | _ => False)
        | .iand => (match st with | (0, y) :: (0, x) :: st => K (pc + 1) lv ((0, jand x y) :: st) M | _ => False)
        | .ishl => (match st with | (0, y) :: (0, x) :: st => K (pc + 1) lv ((0, jshl x y) :: st) M | _ => False)
        | .ishr => (match st with | (0, y) :: (0, x) :: st => K (pc + 1) lv ((0, jshr x y) :: st) M | _ => False)
        | .land => (match st with | (2, y) :: (2, x) :: st => K (pc + 1) lv ((2, jland x y) :: st) M | _ => False)
        | .lor => (match st with | (2, y) :: (2, x) :: st => K (pc + 1) lv ((2, jlor x y) :: st) M | _ => False)
        | .lshl => (match st with | (0, y) :: (2, x) :: st => K (pc + 1) lv ((2, jlshl x y) :: st) M | _ => False)
        | .lshr => (match st with | (0, y) :: (2, x) :: st => K (pc + 1) lv ((2, jlshr x y) :: st) M | _ => False)
        | .lushr => (match st with | (0, y) :: (2, x) :: st => K (pc + 1) lv ((2, jlushr x y) :: st) M | _ => False)
        | .i2l => (match st with | (0, x) :: st => K (pc + 1) lv ((2, x) :: st) M | _ => False)
        | .l2i => (match st with | (2, x) :: st => K (pc + 1) lv ((0, jl2i x) :: st) M | _ => False)
        | .lcmp => (match st with | (2, y) :: (2, x) :: st => K (pc + 1) lv ((0, jlcmp x y) :: st) M | _ => False)
        | .dup => (match st with
          | (0, x) :: st => K (pc + 1) lv ((0, x) :: (0, x) :: st) M
          | (1, x) :: st => K (pc + 1) lv ((1, x) :: (1, x) :: st) M
          | _ => False)
        | .dup2 => (match st with
          | (0, y) :: (1, x) :: st => K (pc + 1) lv ((0, y) :: (1, x) :: (0, y) :: (1, x) :: st) M
          | _ => False)
        | .goto _ => K a lv st M
        | .if_icmp cd _ => (match st with | (0, y) :: (0, x) :: st => (jcmp cd x y → K a lv st M) ∧ (¬ jcmp cd x y → K (pc + 3) lv st M) | _ => False)
        | .ifCond cd _ => (match st with | (0, x) :: st => (jcmp cd x 0 → K a lv st M) ∧ (¬ jcmp cd x 0 → K (pc + 3) lv st M) | _ => False)
        | .ifnull _ => (match st with | (1, x) :: st => (x ≤ 0 → K a lv st M) ∧ (¬ x ≤ 0 → K (pc + 3) lv st M) | _ => False)
        | .ifnonnull _ => (match st with | (1, x) :: st => (x ≤ 0 → K (pc + 3) lv st M) ∧ (¬ x ≤ 0 → K a lv st M) | _ => False)
        | .getfield _ => (match st with | (1, x) :: st => M 0 x 0 = v ∧ K (pc + 3) lv ((jt b, M a x 0) :: st) M | _ => False)
        | .putfield _ => (match b, st with
          | 0, (0, y) :: (1, x) :: st => M 0 x 0 = v ∧ K (pc + 3) lv st (jset M a x 0 y)
          | 5, (0, y) :: (1, x) :: st => M 0 x 0 = v ∧ (y = 0 ∨ y = 1) ∧ K (pc + 3) lv st (jset M a x 0 y)
          | 1, (1, y) :: (1, x) :: st => M 0 x 0 = v ∧ K (pc + 3) lv st (jset M a x 0 y)
          | _, _ => False)
        | .iaload => (match st with | (0, y) :: (1, x) :: st => (M 0 x 0 = 1 ∧ 0 ≤ y ∧ y < M 1 x 0) ∧ K (pc + 1) lv ((0, M 2 x y) :: st) M | _ => False)
        | .baload => (match st with | (0, y) :: (1, x) :: st => (M 0 x 0 = 2 ∧ 0 ≤ y ∧ y < M 1 x 0) ∧ K (pc + 1) lv ((0, M 2 x y) :: st) M | _ => False)
        | .aaload => (match st with | (0, y) :: (1, x) :: st => ((M 0 x 0 = 3 ∨ M 0 x 0 = 4) ∧ 0 ≤ y ∧ y < M 1 x 0) ∧ K (pc + 1) lv ((1, M 3 x y) :: st) M | _ => False)
        | .iastore => (match st with | (0, z) :: (0, y) :: (1, x) :: st => (M 0 x 0 = 1 ∧ 0 ≤ y ∧ y < M 1 x 0) ∧ K (pc + 1) lv st (jset M 2 x y z) | _ => False)
        | .bastore => (match st with | (0, z) :: (0, y) :: (1, x) :: st => (M 0 x 0 = 2 ∧ 0 ≤ y ∧ y < M 1 x 0 ∧ (z = 0 ∨ z = 1)) ∧ K (pc + 1) lv st (jset M 2 x y z) | _ => False)
        | .aastore => (match st with | (1, z) :: (0, y) :: (1, x) :: st => (((M 0 x 0 = 3 ∧ M 0 z 0 = 19) ∨ (M 0 x 0 = 4 ∧ M 0 z 0 = 11)) ∧ 0 ≤ y ∧ y < M 1 x 0) ∧ K (pc + 1) lv st (jset M 3 x y z) | _ => False)
        | .arraylength => (match st with | (1, x) :: st => (M 0 x 0 = 1 ∨ M 0 x 0 = 2 ∨ M 0 x 0 = 3 ∨ M 0 x 0 = 4) ∧ K (pc + 1) lv ((0, M 1 x 0) :: st) M | _ => False)
        | .new _ => (cells + 1 ≤ mc ∧ slots + b ≤ ms) ∧ jwp G code cut mc ms Q f false (cells + 1) (slots + b) (pc + 3) lv ((1, M 4 0 0) :: st) (jnew M v 0)
        | .newarray _ => (match st with | (0, n) :: st => (0 ≤ n ∧ n ≤ 100000000 ∧ cells + 1 ≤ mc ∧ slots + n.toNat ≤ ms) ∧ jwp G code cut mc ms Q f false (cells + 1) (slots + n.toNat) (pc + 2) lv ((1, M 4 0 0) :: st) (jnew M v n) | _ => False)
        | .anewarray _ => (match st with | (0, n) :: st => (0 ≤ n ∧ n ≤ 100000000 ∧ cells + 1 ≤ mc ∧ slots + n.toNat ≤ ms) ∧ jwp G code cut mc ms Q f false (cells + 1) (slots + n.toNat) (pc + 3) lv ((1, M 4 0 0) :: st) (jnew M v n) | _ => False)
        | .tableswitch _ lo hi offs => (match st with | (0, x) :: st => ((x < lo ∨ hi < x) → K a lv st M) ∧ jsw pc x (fun t => K t lv st M) offs.toList lo | _ => False)
        | .ireturn => (match b, st with
          | 0, [(0, x)] => jends cells slots mc ms (Q x M)
          | 5, [(0, x)] => jends cells slots mc ms ((x = 0 ∨ x = 1) ∧ Q x M)
          | _, _ => False)
        | .areturn => (match st with | [(1, x)] => jends cells slots mc ms (Q x M) | _ => False)
        | .return_ => (match st with | [] => jends cells slots mc ms (Q 0 M) | _ => False)
        | .invokespecial _ => (match a with
          | 1000 => (match st with | (1, x) :: st => (match Nat.ble (jwd st) 8 with | true => ¬ x ≤ 0 ∧ K (pc + 3) lv st M | false => False) | _ => False)
          | y => (match jargs b st [] with
            | some ((1, x) :: as, st) => (match Nat.ble (jwd st) 8 with
              | true => ¬ x ≤ 0 ∧ ∃ mc' ms' : Nat, cells + mc' ≤ mc ∧ slots + ms' ≤ ms ∧ Runs G y mc' ms' ((1, x) :: as) M (fun r M' => jokM M' → jwp G code cut mc ms Q f false (cells + mc') (slots + ms') (pc + 3) lv (jpush c r st) M')
              | false => False)
            | _ => False))
        | .invokevirtual _ => (match jargs b st [] with
            | some ((1, x) :: as, st) => (match Nat.ble (jwd st) 8, e with
              | true, 0 => M 0 x 0 = v ∧ Runs G a 0 0 ((1, x) :: as) M (fun r M' => jokM M' → K (pc + 3) lv (jpush c r st) M')
              | true, _ => M 0 x 0 = v ∧ ∃ mc' ms' : Nat, cells + mc' ≤ mc ∧ slots + ms' ≤ ms ∧ Runs G a mc' ms' ((1, x) :: as) M (fun r M' => jokM M' → jwp G code cut mc ms Q f false (cells + mc') (slots + ms') (pc + 3) lv (jpush c r st) M')
              | false, _ => False)
            | _ => False)
        | .invokestatic _ => (match a with
          | 1001 => (match st with | (0, y) :: (0, x) :: st => (match Nat.ble (jwd st) 8 with | true => K (pc + 3) lv ((0, max x y) :: st) M | false => False) | _ => False)
          | 1002 => (match st with | (0, y) :: (0, x) :: st => (match Nat.ble (jwd st) 8 with | true => K (pc + 3) lv ((0, min x y) :: st) M | false => False) | _ => False)
          | 1003 => (match st with | (0, n) :: (0, dp) :: (1, y) :: (0, sp) :: (1, x) :: st => (match Nat.ble (jwd st) 8 with | true => (M 0 x 0 = 1 ∧ M 0 y 0 = 1 ∧ 0 ≤ sp ∧ 0 ≤ dp ∧ 0 ≤ n ∧ sp + n ≤ M 1 x 0 ∧ dp + n ≤ M 1 y 0) ∧ K (pc + 3) lv st (jcpy M x sp y dp n) | false => False) | _ => False)
          | y => (match jargs b st [] with
            | some (as, st) => (match Nat.ble (jwd st) 8 with
              | true => Runs G y 0 0 as M (fun r M' => jokM M' → K (pc + 3) lv (jpush c r st) M')
              | false => False)
            | _ => False))
        | _ => False
/-- the table's rows against the bytes and the tables -/
def jlk (d : Nat) (w : Cond) : Bool := decide (lw_tbl[d]? = some w) && jkeepw w
theorem jlk_mem {d : Nat} {w : Cond} (h : jlk d w = true) : w ∈ jtbl := by
  unfold jlk at h
  simp only [Bool.and_eq_true, decide_eq_true_eq] at h
  exact jmem h.1 h.2
def jfchk (x i fid tag ci d : Nat) (v : Int) : Bool := match vwCl[ci]? with
  | some (_, T, _) => decide ((jkinds ci)[fid % 100]? = some (tag, fid)) && decide (v = 10 + (ci : Int)) && (jlk d (.fieldLink (jname x).cls i (T (fid % 100)).1 (T (fid % 100)).2.1 (T (fid % 100)).2.2.1) || jlk d (.fieldLinkNest (jname x).cls i (T (fid % 100)).1 (T (fid % 100)).2.1 (T (fid % 100)).2.2.1 "UnitAtlas"))
  | none => false
def jpchk (x i fid tag ci d : Nat) (v : Int) : Bool := match vwCl[ci]? with
  | some (_, T, _) => if (T (fid % 100)).2.2.2 = true then decide ((jkinds ci)[fid % 100]? = some (tag, fid)) && decide (v = 10 + (ci : Int)) && jlk d (.fieldLink (jname x).cls i (T (fid % 100)).1 (T (fid % 100)).2.1 (T (fid % 100)).2.2.1) && decide ((T (fid % 100)).1 = (jname x).cls) && decide ((jname x).name = "<init>") else jfchk x i fid tag ci d v
  | none => false
def jcchk (x i y n c d : Nat) : Bool := jlist.elem y && decide ((parseMethodDescriptor (jname y).desc).map (fun d => d.parameters.length) = some n) && Nat.ble (jfr y + 1) (jfr x) && Nat.ble (8 + (jmaxl y + 11) + jlo y) (jlo x) && decide (jtag y = c) && (jlk d (.methodLink (jname x).cls i (jname y)) || jlk d (.methodLinkNest (jname x).cls i (jname y) "UnitAtlas"))
def jto (pc : Nat) (off : Int) (t : Nat) : Bool := decide ((pc : Int) + off = t)
def jck (x : Nat) (q : JI) : Bool := match q with
  | (pc, i, len, a, b, c, d, e, v) => decide (decode (jcode x) pc = .ok (i, len)) && (match i with
    | .iconst n => decide (-1 ≤ n) && decide (n ≤ 5) && len == 1
    | .bipush n => decide (-128 ≤ n) && decide (n ≤ 127) && len == 2
    | .sipush n => decide (-32768 ≤ n) && decide (n ≤ 32767) && len == 3
    | .ldc i => decide (-2147483648 ≤ v) && decide (v ≤ 2147483647) && jlk d (.constant (jname x).cls i (Int32.ofInt v)) && len == 2
    | .ldc2_w i => decide (-2147483648 ≤ v) && decide (v ≤ 2147483647) && jlk d (.constantLong (jname x).cls i (Int64.ofInt v)) && len == 3
    | .istore k => Nat.blt k (jmaxl x) && len == 2
    | .istore_n k => Nat.blt k (jmaxl x) && len == 1
    | .astore k => Nat.blt k (jmaxl x) && len == 2
    | .astore_n k => Nat.blt k (jmaxl x) && len == 1
    | .iinc k _ => Nat.blt k (jmaxl x) && len == 3
    | .goto off => jto pc off a && len == 3
    | .if_icmp _ off => jto pc off a && len == 3
    | .ifCond _ off => jto pc off a && len == 3
    | .ifnull off => jto pc off a && len == 3
    | .ifnonnull off => jto pc off a && len == 3
    | .getfield i => jfchk x i a b c d v && len == 3
    | .putfield i => jpchk x i a b c d v && len == 3
    | .new i => (match vwCl[c]? with
      | some (C, _, N) => jlk d (.classLink (jname x).cls i C) && jlk e (.instantiable C N) && jlk a (.initialized C) && decide (N = b) && decide (v = 10 + (c : Int))
      | none => false) && len == 3
    | .newarray at_ => ((decide (v = 1) && decide (newarray.typeOf at_ = .int) && jlk d (.arrayClass .int)) || (decide (v = 2) && decide (newarray.typeOf at_ = .boolean) && jlk d (.arrayClass .boolean))) && len == 2
    | .anewarray i => ((decide (v = 3) && jlk d (.classLink (jname x).cls i "UnitAtlas$Text") && jlk e (.arrayOver (.object "UnitAtlas$Text"))) || (decide (v = 4) && jlk d (.classLink (jname x).cls i "UnitAtlas$Kept") && jlk e (.arrayOver (.object "UnitAtlas$Kept")))) && len == 3
    | .tableswitch dflt lo hi offs => jto pc dflt a && decide (hi - lo + 1 = (offs.toList.length : Int)) && offs.toList.all (fun o => decide (0 ≤ (pc : Int) + o))
    | .ireturn => ((b == 0 && decide (jret x = some .int)) || (b == 5 && decide (jret x = some .boolean))) && jtag x == 0 && len == 1
    | .areturn => (match jret x with | some (.object _) => true | _ => false) && jtag x == 1 && len == 1
    | .return_ => decide (jret x = none) && jtag x == 3 && len == 1
    | .invokespecial i => if a = 1000 then jlk d (.methodLink (jname x).cls i Lib.objectInit) && Nat.ble 1 (jfr x) && Nat.ble 20 (jlo x) && len == 3 else jcchk x i a (b - 1) c d && decide ((jmq a).2.2.2 = 2000) && decide (jret a = none) && decide (1 ≤ b) && len == 3
    | .invokevirtual i => jcchk x i a (b - 1) c d && decide ((jmq a).2.2.2 ≠ 0) && decide ((jmq a).2.2.2 ≠ 2000) && decide (1 ≤ b) && len == 3 && (match vwCl[(v - 10).toNat]? with
      | some (C, _, _) => decide (C = (jname a).cls) && decide (10 ≤ v)
      | none => false)
    | .invokestatic i => if a = 1001 then jlk d (.methodLink (jname x).cls i Lib.Math.max.name) && Nat.ble 1 (jfr x) && Nat.ble 21 (jlo x) && len == 3 else if a = 1002 then jlk d (.methodLink (jname x).cls i Lib.Math.min.name) && Nat.ble 1 (jfr x) && Nat.ble 21 (jlo x) && len == 3 else if a = 1003 then jlk d (.methodLink (jname x).cls i arraycopyName) && Nat.ble 1 (jfr x) && Nat.ble 26 (jlo x) && len == 3 else jcchk x i a b c d && decide ((jmq a).2.2.2 = 0) && len == 3
    | .iload _ => len == 2
    | .lload _ => len == 2
    | .aload _ => len == 2
    | _ => len == 1)
end
section
/-! the computed condition is enough -/
theorem jat_mem : ∀ {l : List JI} {pc : Nat} {q : JI}, jat l pc = some q → q ∈ l ∧ q.1 = pc
  | [], _, _, h => by cases h
  | i :: l, pc, q, h => by
    unfold jat at h
    split at h
    · rename_i e
      cases h
      exact ⟨List.mem_cons_self, e⟩
    · exact ⟨List.mem_cons_of_mem _ (jat_mem h).1, (jat_mem h).2⟩
theorem jpick_in : ∀ {lv : JL} {sl : List Nat} {vs : List JV}, jpick lv sl = some vs → vs.length = sl.length ∧ ∀ q ∈ sl.zip vs, q ∈ lv
  | _, [], vs, h => by cases h; exact ⟨rfl, fun q hq => by cases hq⟩
  | lv, i :: l, vs, h => by
    unfold jpick at h
    split at h
    · rename_i v vs' h1 h2
      cases h
      obtain ⟨g1, g2⟩ := jpick_in h2
      refine ⟨by simp [g1], fun q hq => ?_⟩
      rw [List.zip_cons_cons] at hq
      rcases List.mem_cons.mp hq with rfl | hq
      · exact jlg_mem h1
      · exact g2 q hq
    · cases h
theorem jargs_eq : ∀ {n : Nat} {st acc as rest : List JV}, jargs n st acc = some (as, rest) → acc.reverse.reverse ++ [] = acc ∧ as.length = n + acc.length ∧ as.reverse ++ rest = acc.reverse ++ st
  | 0, st, acc, as, rest, h => by
    cases h
    exact ⟨by simp, by simp, rfl⟩
  | n + 1, [], acc, as, rest, h => by cases h
  | n + 1, v :: st, acc, as, rest, h => by
    obtain ⟨-, h2, h3⟩ := jargs_eq (n := n) h
    refine ⟨by simp, by rw [h2]; simp; omega, ?_⟩
    rw [h3]
    simp
theorem jends_of {cells slots mc ms : Nat} {P : Prop} (h : jends cells slots mc ms P) : P := by
  unfold jends at h
  split at h
  · exact h
  · exact h.2.2
theorem jsw_of {pc : Nat} {v : Int} {K : Nat → Prop} : ∀ {l : List Int} {k : Int} (j : Nat) {off : Int}, jsw pc v K l k → l[j]? = some off → v = k + j → K ((pc : Int) + off).toNat
  | [], _, _, _, _, h, _ => by cases h
  | o :: l, k, 0, off, h, hj, hv => by
    cases hj
    exact h.1 (by rw [hv]; simp)
  | o :: l, k, j + 1, off, h, hj, hv => jsw_of (l := l) (k := k + 1) j h.2 hj (by rw [hv]; omega)
theorem jfc {x i fid tag ci d : Nat} {v : Int} (h : jfchk x i fid tag ci d v = true) : ∃ (C : String) (T : u_T) (N : Nat), jclass ci C T N ∧ (jkinds ci)[fid % 100]? = some (tag, fid) ∧ v = 10 + (ci : Int) ∧ jlinked x i T (fid % 100) := by
  unfold jfchk at h
  split at h
  · rename_i C T N hv
    simp only [Bool.and_eq_true, Bool.or_eq_true, decide_eq_true_eq] at h
    refine ⟨C, T, N, jclass_all ci _ hv, h.1.1, h.1.2, ?_⟩
    rcases h.2 with g | g
    · exact Or.inl (jlk_mem g)
    · exact Or.inr (jlk_mem g)
  · cases h
theorem jpc {x i fid tag ci d : Nat} {v : Int} (h : jpchk x i fid tag ci d v = true) : ∃ (C : String) (T : u_T) (N : Nat), jclass ci C T N ∧ (jkinds ci)[fid % 100]? = some (tag, fid) ∧ v = 10 + (ci : Int) ∧ jputl x i T (fid % 100) := by
  unfold jpchk at h
  split at h
  · rename_i C T N hv
    split at h
    · rename_i hf
      simp only [Bool.and_eq_true, decide_eq_true_eq] at h
      exact ⟨C, T, N, jclass_all ci _ hv, h.1.1.1.1, h.1.1.1.2, Or.inr ⟨hf, jlk_mem h.1.1.2, h.1.2, h.2⟩⟩
    · rename_i hf
      obtain ⟨C', T', N', g1, g2, g3, g4⟩ := jfc h
      have e : (C', T', N') = (C, T, N) := Option.some.inj (g1.1.symm.trans hv)
      cases e
      exact ⟨C, T, N, g1, g2, g3, Or.inl ⟨by simpa using hf, g4⟩⟩
  · cases h
theorem jcc {x i y n c d : Nat} (h : jcchk x i y n c d = true) : y ∈ jlist ∧ (parseMethodDescriptor (jname y).desc).map (fun d => d.parameters.length) = some n ∧ jfr y + 1 ≤ jfr x ∧ 8 + (jmaxl y + 11) + jlo y ≤ jlo x ∧ jtag y = c ∧ jsite x i y := by
  unfold jcchk at h
  simp only [Bool.and_eq_true, Bool.or_eq_true, decide_eq_true_eq, Nat.ble_eq] at h
  obtain ⟨⟨⟨⟨⟨h1, h2⟩, h3⟩, h4⟩, h5⟩, h6⟩ := h
  refine ⟨List.elem_iff.mp h1, h2, h3, h4, h5, ?_⟩
  rcases h6 with g | g
  · exact Or.inl (jlk_mem g)
  · exact Or.inr (jlk_mem g)
set_option maxHeartbeats 4000000 in
theorem jwp_sound {G : JG} {x mc ms : Nat} {Q : Int → JM → Prop} {code : List JI} {cut : JCut} (hcode : code.all (jck x) = true)
    (hcut : ∀ pc sl P, jcut cut pc = some (sl, P) → ∀ cells slots vs M, P cells slots vs M → vs.length = sl.length → J G x mc ms Q cells slots pc (sl.zip vs) [] M) :
    ∀ f fr cells slots pc lv st M, jwp G code cut mc ms Q f fr cells slots pc lv st M → J G x mc ms Q cells slots pc lv st M := by
  intro f
  induction f with
  | zero => exact fun fr cells slots pc lv st M h => False.elim h
  | succ f ih =>
    intro fr cells slots pc lv st M h
    unfold jwp at h
    split at h
    · rename_i sl P hc
      split at h
      · rename_i vs hp
        cases fr with
        | true => cases hc
        | false =>
          obtain ⟨g1, g2⟩ := jpick_in hp
          exact J.less g2 (hcut pc sl P hc cells slots vs M h g1)
      · exact h.elim
    · split at h
      · exact h.elim
      · rename_i q0 i len a b c d e v hq
        obtain ⟨hm, he⟩ := jat_mem hq
        dsimp only at he
        subst he
        have hck := List.all_eq_true.mp hcode _ hm
        simp only [jck, Bool.and_eq_true, decide_eq_true_eq] at hck
        obtain ⟨hd, hck⟩ := hck
        cases i

        case iconst n =>
          dsimp only at h hck
          simp only [Bool.and_eq_true, decide_eq_true_eq, beq_iff_eq] at hck
          obtain ⟨hn, rfl⟩ := hck
          exact jr_iconst hd (by unfold jR; omega) (ih _ _ _ _ _ _ _ h)
        case bipush n =>
          dsimp only at h hck
          simp only [Bool.and_eq_true, decide_eq_true_eq, beq_iff_eq] at hck
          obtain ⟨hn, rfl⟩ := hck
          exact jr_bipush hd hn (ih _ _ _ _ _ _ _ h)
        case sipush n =>
          dsimp only at h hck
          simp only [Bool.and_eq_true, decide_eq_true_eq, beq_iff_eq] at hck
          obtain ⟨hn, rfl⟩ := hck
          exact jr_sipush hd hn (ih _ _ _ _ _ _ _ h)
        case ldc n =>
          dsimp only at h hck
          simp only [Bool.and_eq_true, decide_eq_true_eq, beq_iff_eq] at hck
          obtain ⟨⟨hn, hl⟩, rfl⟩ := hck
          exact jr_ldc hd hn (jlk_mem hl) (ih _ _ _ _ _ _ _ h)
        case ldc2_w n =>
          dsimp only at h hck
          simp only [Bool.and_eq_true, decide_eq_true_eq, beq_iff_eq] at hck
          obtain ⟨⟨hn, hl⟩, rfl⟩ := hck
          exact jr_ldc2 hd ⟨fun h => (by cases h), fun _ => (by simp; omega)⟩ (jlk_mem hl) (ih _ _ _ _ _ _ _ h)
        case lconst n =>
          dsimp only at h hck
          have hck := beq_iff_eq.mp hck
          subst hck
          exact jr_lconst hd (ih _ _ _ _ _ _ _ h)
        case aconst_null =>
          dsimp only at h hck
          have hck := beq_iff_eq.mp hck
          subst hck
          exact jr_null hd (ih _ _ _ _ _ _ _ h)
        case iload k =>
          dsimp only at h hck
          have hck := beq_iff_eq.mp hck
          subst hck
          split at h
          · rename_i hg
            exact jr_iload hd hg (ih _ _ _ _ _ _ _ h)
          · exact h.elim
        case iload_n k =>
          dsimp only at h hck
          have hck := beq_iff_eq.mp hck
          subst hck
          split at h
          · rename_i hg
            exact jr_iload_n hd hg (ih _ _ _ _ _ _ _ h)
          · exact h.elim
        case lload k =>
          dsimp only at h hck
          have hck := beq_iff_eq.mp hck
          subst hck
          split at h
          · rename_i hg
            exact jr_lload hd hg (ih _ _ _ _ _ _ _ h)
          · exact h.elim
        case lload_n k =>
          dsimp only at h hck
          have hck := beq_iff_eq.mp hck
          subst hck
          split at h
          · rename_i hg
            exact jr_lload_n hd hg (ih _ _ _ _ _ _ _ h)
          · exact h.elim
        case aload k =>
          dsimp only at h hck
          have hck := beq_iff_eq.mp hck
          subst hck
          split at h
          · rename_i hg
            exact jr_aload hd hg (ih _ _ _ _ _ _ _ h)
          · exact h.elim
        case aload_n k =>
          dsimp only at h hck
          have hck := beq_iff_eq.mp hck
          subst hck
          split at h
          · rename_i hg
            exact jr_aload_n hd hg (ih _ _ _ _ _ _ _ h)
          · exact h.elim
        case istore k =>
          dsimp only at h hck
          simp only [Bool.and_eq_true, beq_iff_eq, Nat.blt_eq] at hck
          obtain ⟨hk, rfl⟩ := hck
          split at h
          · exact jr_istore hd hk (ih _ _ _ _ _ _ _ h)
          · exact h.elim
        case istore_n k =>
          dsimp only at h hck
          simp only [Bool.and_eq_true, beq_iff_eq, Nat.blt_eq] at hck
          obtain ⟨hk, rfl⟩ := hck
          split at h
          · exact jr_istore_n hd hk (ih _ _ _ _ _ _ _ h)
          · exact h.elim
        case astore k =>
          dsimp only at h hck
          simp only [Bool.and_eq_true, beq_iff_eq, Nat.blt_eq] at hck
          obtain ⟨hk, rfl⟩ := hck
          split at h
          · exact jr_astore hd hk (ih _ _ _ _ _ _ _ h)
          · exact h.elim
        case astore_n k =>
          dsimp only at h hck
          simp only [Bool.and_eq_true, beq_iff_eq, Nat.blt_eq] at hck
          obtain ⟨hk, rfl⟩ := hck
          split at h
          · exact jr_astore_n hd hk (ih _ _ _ _ _ _ _ h)
          · exact h.elim
        case iinc k n =>
          dsimp only at h hck
          simp only [Bool.and_eq_true, beq_iff_eq, Nat.blt_eq] at hck
          obtain ⟨hk, rfl⟩ := hck
          split at h
          · rename_i hg
            exact jr_iinc hd hg hk h.1 (ih _ _ _ _ _ _ _ h.2)
          · exact h.elim
        case iadd =>
          dsimp only at h hck
          have hck := beq_iff_eq.mp hck
          subst hck
          split at h
          · exact jr_iadd hd h.1 (ih _ _ _ _ _ _ _ h.2)
          · exact h.elim
        case isub =>
          dsimp only at h hck
          have hck := beq_iff_eq.mp hck
          subst hck
          split at h
          · exact jr_isub hd h.1 (ih _ _ _ _ _ _ _ h.2)
          · exact h.elim
        case imul =>
          dsimp only at h hck
          have hck := beq_iff_eq.mp hck
          subst hck
          split at h
          · exact jr_imul hd h.1 (ih _ _ _ _ _ _ _ h.2)
          · exact h.elim
        case idiv =>
          dsimp only at h hck
          have hck := beq_iff_eq.mp hck
          subst hck
          split at h
          · exact jr_idiv hd h.1.1 h.1.2 (ih _ _ _ _ _ _ _ h.2)
          · exact h.elim
        case irem =>
          dsimp only at h hck
          have hck := beq_iff_eq.mp hck
          subst hck
          split at h
          · exact jr_irem hd h.1.1 h.1.2 (ih _ _ _ _ _ _ _ h.2)
          · exact h.elim
        case iand =>
          dsimp only at h hck
          have hck := beq_iff_eq.mp hck
          subst hck
          split at h
          · exact jr_iand hd (ih _ _ _ _ _ _ _ h)
          · exact h.elim
        case ishl =>
          dsimp only at h hck
          have hck := beq_iff_eq.mp hck
          subst hck
          split at h
          · exact jr_ishl hd (ih _ _ _ _ _ _ _ h)
          · exact h.elim
        case ishr =>
          dsimp only at h hck
          have hck := beq_iff_eq.mp hck
          subst hck
          split at h
          · exact jr_ishr hd (ih _ _ _ _ _ _ _ h)
          · exact h.elim
        case land =>
          dsimp only at h hck
          have hck := beq_iff_eq.mp hck
          subst hck
          split at h
          · exact jr_land hd (ih _ _ _ _ _ _ _ h)
          · exact h.elim
        case lor =>
          dsimp only at h hck
          have hck := beq_iff_eq.mp hck
          subst hck
          split at h
          · exact jr_lor hd (ih _ _ _ _ _ _ _ h)
          · exact h.elim
        case lshl =>
          dsimp only at h hck
          have hck := beq_iff_eq.mp hck
          subst hck
          split at h
          · exact jr_lshl hd (ih _ _ _ _ _ _ _ h)
          · exact h.elim
        case lshr =>
          dsimp only at h hck
          have hck := beq_iff_eq.mp hck
          subst hck
          split at h
          · exact jr_lshr hd (ih _ _ _ _ _ _ _ h)
          · exact h.elim
        case lushr =>
          dsimp only at h hck
          have hck := beq_iff_eq.mp hck
          subst hck
          split at h
          · exact jr_lushr hd (ih _ _ _ _ _ _ _ h)
          · exact h.elim
        case i2l =>
          dsimp only at h hck
          have hck := beq_iff_eq.mp hck
          subst hck
          split at h
          · exact jr_i2l hd (ih _ _ _ _ _ _ _ h)
          · exact h.elim
        case l2i =>
          dsimp only at h hck
          have hck := beq_iff_eq.mp hck
          subst hck
          split at h
          · exact jr_l2i hd (ih _ _ _ _ _ _ _ h)
          · exact h.elim
        case lcmp =>
          dsimp only at h hck
          have hck := beq_iff_eq.mp hck
          subst hck
          split at h
          · exact jr_lcmp hd (ih _ _ _ _ _ _ _ h)
          · exact h.elim
        case dup =>
          dsimp only at h hck
          have hck := beq_iff_eq.mp hck
          subst hck
          split at h
          · exact jr_dup hd (Or.inl rfl) (ih _ _ _ _ _ _ _ h)
          · exact jr_dup hd (Or.inr (Or.inl rfl)) (ih _ _ _ _ _ _ _ h)
          · exact h.elim
        case dup2 =>
          dsimp only at h hck
          have hck := beq_iff_eq.mp hck
          subst hck
          split at h
          · exact jr_dup2 hd (Or.inl rfl) (Or.inr (Or.inl rfl)) (ih _ _ _ _ _ _ _ h)
          · exact h.elim
        case goto off =>
          dsimp only at h hck
          simp only [Bool.and_eq_true, beq_iff_eq] at hck
          obtain ⟨ht, rfl⟩ := hck
          have ht := of_decide_eq_true ht
          exact jr_goto hd ht (ih _ _ _ _ _ _ _ h)
        case if_icmp cd off =>
          dsimp only at h hck
          simp only [Bool.and_eq_true, beq_iff_eq] at hck
          obtain ⟨ht, rfl⟩ := hck
          have ht := of_decide_eq_true ht
          split at h
          · exact jr_icmp hd ht (fun g => ih _ _ _ _ _ _ _ (h.1 g)) (fun g => ih _ _ _ _ _ _ _ (h.2 g))
          · exact h.elim
        case ifCond cd off =>
          dsimp only at h hck
          simp only [Bool.and_eq_true, beq_iff_eq] at hck
          obtain ⟨ht, rfl⟩ := hck
          have ht := of_decide_eq_true ht
          split at h
          · exact jr_ifc hd ht (fun g => ih _ _ _ _ _ _ _ (h.1 g)) (fun g => ih _ _ _ _ _ _ _ (h.2 g))
          · exact h.elim
        case ifnull off =>
          dsimp only at h hck
          simp only [Bool.and_eq_true, beq_iff_eq] at hck
          obtain ⟨ht, rfl⟩ := hck
          have ht := of_decide_eq_true ht
          split at h
          · exact jr_ifnull hd ht (fun g => ih _ _ _ _ _ _ _ (h.1 g)) (fun g => ih _ _ _ _ _ _ _ (h.2 g))
          · exact h.elim
        case ifnonnull off =>
          dsimp only at h hck
          simp only [Bool.and_eq_true, beq_iff_eq] at hck
          obtain ⟨ht, rfl⟩ := hck
          have ht := of_decide_eq_true ht
          split at h
          · exact jr_ifnonnull hd ht (fun g => ih _ _ _ _ _ _ _ (h.1 g)) (fun g => ih _ _ _ _ _ _ _ (h.2 g))
          · exact h.elim
        case getfield i =>
          dsimp only at h hck
          simp only [Bool.and_eq_true, beq_iff_eq] at hck
          obtain ⟨hf, rfl⟩ := hck
          obtain ⟨C, T, N, g1, g2, g3, g4⟩ := jfc hf
          split at h
          · exact jr_get hd g1 g2 g4 (h.1.trans g3) (ih _ _ _ _ _ _ _ h.2)
          · exact h.elim
        case putfield i =>
          dsimp only at h hck
          simp only [Bool.and_eq_true, beq_iff_eq] at hck
          obtain ⟨hf, rfl⟩ := hck
          obtain ⟨C, T, N, g1, g2, g3, g4⟩ := jpc hf
          split at h
          · exact jr_put (tag := 0) hd g1 g2 g4 (h.1.trans g3) (fun g => by cases g) (ih _ _ _ _ _ _ _ h.2)
          · exact jr_put (tag := 5) hd g1 g2 g4 (h.1.trans g3) (fun _ => h.2.1) (ih _ _ _ _ _ _ _ h.2.2)
          · exact jr_put (tag := 1) hd g1 g2 g4 (h.1.trans g3) (fun g => by cases g) (ih _ _ _ _ _ _ _ h.2)
          · exact h.elim
        case iaload =>
          dsimp only at h hck
          have hck := beq_iff_eq.mp hck
          subst hck
          split at h
          · exact jr_iaload hd h.1.1 h.1.2.1 h.1.2.2 (ih _ _ _ _ _ _ _ h.2)
          · exact h.elim
        case baload =>
          dsimp only at h hck
          have hck := beq_iff_eq.mp hck
          subst hck
          split at h
          · exact jr_baload hd h.1.1 h.1.2.1 h.1.2.2 (ih _ _ _ _ _ _ _ h.2)
          · exact h.elim
        case aaload =>
          dsimp only at h hck
          have hck := beq_iff_eq.mp hck
          subst hck
          split at h
          · exact jr_aaload hd h.1.1 h.1.2.1 h.1.2.2 (ih _ _ _ _ _ _ _ h.2)
          · exact h.elim
        case iastore =>
          dsimp only at h hck
          have hck := beq_iff_eq.mp hck
          subst hck
          split at h
          · exact jr_iastore hd h.1.1 h.1.2.1 h.1.2.2 (ih _ _ _ _ _ _ _ h.2)
          · exact h.elim
        case aastore =>
          dsimp only at h hck
          have hck := beq_iff_eq.mp hck
          subst hck
          split at h
          · exact jr_aastore hd h.1.1 h.1.2.1 h.1.2.2 (ih _ _ _ _ _ _ _ h.2)
          · exact h.elim
        case bastore =>
          dsimp only at h hck
          have hck := beq_iff_eq.mp hck
          subst hck
          split at h
          · exact jr_bastore hd h.1.1 h.1.2.1 h.1.2.2.1 h.1.2.2.2 (ih _ _ _ _ _ _ _ h.2)
          · exact h.elim
        case arraylength =>
          dsimp only at h hck
          have hck := beq_iff_eq.mp hck
          subst hck
          split at h
          · exact jr_alen hd h.1 (ih _ _ _ _ _ _ _ h.2)
          · exact h.elim
        case new i =>
          dsimp only at h hck
          simp only [Bool.and_eq_true, beq_iff_eq] at hck
          obtain ⟨hf, rfl⟩ := hck
          split at hf
          · rename_i C T N hv
            simp only [Bool.and_eq_true, decide_eq_true_eq] at hf
            obtain ⟨⟨⟨⟨g1, g2⟩, g3⟩, rfl⟩, rfl⟩ := hf
            exact jr_new hd (jclass_all c _ hv) (jlk_mem g1) (jlk_mem g2) (jlk_mem g3) h.1.1 h.1.2 (ih _ _ _ _ _ _ _ h.2)
          · cases hf
        case newarray at_ =>
          dsimp only at h hck
          simp only [Bool.and_eq_true, Bool.or_eq_true, beq_iff_eq, decide_eq_true_eq] at hck
          obtain ⟨hf, rfl⟩ := hck
          split at h
          · rcases hf with ⟨⟨rfl, g1⟩, g2⟩ | ⟨⟨rfl, g1⟩, g2⟩
            · exact jr_newarray hd g1 (Or.inl ⟨rfl, rfl, rfl⟩) (jlk_mem g2) h.1.1 h.1.2.1 h.1.2.2.1 h.1.2.2.2 (ih _ _ _ _ _ _ _ h.2)
            · exact jr_newarray hd g1 (Or.inr ⟨rfl, rfl, rfl⟩) (jlk_mem g2) h.1.1 h.1.2.1 h.1.2.2.1 h.1.2.2.2 (ih _ _ _ _ _ _ _ h.2)
          · exact h.elim
        case anewarray i =>
          dsimp only at h hck
          simp only [Bool.and_eq_true, Bool.or_eq_true, beq_iff_eq, decide_eq_true_eq] at hck
          obtain ⟨hf, rfl⟩ := hck
          split at h
          · rcases hf with ⟨⟨rfl, g1⟩, g2⟩ | ⟨⟨rfl, g1⟩, g2⟩
            · exact jr_anewarray hd (Or.inl ⟨rfl, rfl, rfl⟩) (jlk_mem g1) (jlk_mem g2) h.1.1 h.1.2.1 h.1.2.2.1 h.1.2.2.2 (ih _ _ _ _ _ _ _ h.2)
            · exact jr_anewarray hd (Or.inr ⟨rfl, rfl, rfl⟩) (jlk_mem g1) (jlk_mem g2) h.1.1 h.1.2.1 h.1.2.2.1 h.1.2.2.2 (ih _ _ _ _ _ _ _ h.2)
          · exact h.elim
        case tableswitch dflt lo hi offs =>
          dsimp only at h hck
          simp only [Bool.and_eq_true, decide_eq_true_eq] at hck
          obtain ⟨⟨ht, hn⟩, ho⟩ := hck
          have ht := of_decide_eq_true ht
          split at h
          · rename_i v0 st0
            refine jr_table hd ht (fun g => ih _ _ _ _ _ _ _ (h.1 g)) (fun g1 g2 => ?_)
            have hlt : (v0 - lo).toNat < offs.toList.length := by omega
            have hg : offs.toList[(v0 - lo).toNat]? = some (offs.toList[(v0 - lo).toNat]'hlt) := List.getElem?_eq_getElem hlt
            have h0 := of_decide_eq_true (List.all_eq_true.mp ho _ (List.getElem_mem hlt))
            refine ⟨_, ((q0 : Int) + offs.toList[(v0 - lo).toNat]'hlt).toNat, by rw [← Array.getElem?_toList]; exact hg, by omega, ih _ _ _ _ _ _ _ (jsw_of (v0 - lo).toNat h.2 hg (by omega))⟩
          · exact h.elim
        case ireturn =>
          dsimp only at h hck
          simp only [Bool.and_eq_true, Bool.or_eq_true, beq_iff_eq, decide_eq_true_eq] at hck
          obtain ⟨⟨hr, ht⟩, rfl⟩ := hck
          split at h
          · rcases hr with ⟨-, hr⟩ | ⟨hb, -⟩
            · exact jr_ret hd hr ht (jends_of h)
            · cases hb
          · rcases hr with ⟨hb, -⟩ | ⟨-, hr⟩
            · cases hb
            · exact jr_retz hd hr ht (jends_of h).1 (jends_of h).2
          · exact h.elim
        case areturn =>
          dsimp only at h hck
          simp only [Bool.and_eq_true, beq_iff_eq] at hck
          obtain ⟨⟨hr, ht⟩, rfl⟩ := hck
          split at hr
          · rename_i nm hr0
            split at h
            · exact jr_reta hd hr0 ht (jends_of h)
            · exact h.elim
          · cases hr
        case return_ =>
          dsimp only at h hck
          simp only [Bool.and_eq_true, beq_iff_eq, decide_eq_true_eq] at hck
          obtain ⟨⟨hr, ht⟩, rfl⟩ := hck
          split at h
          · exact jr_retv hd hr ht (jends_of h)
          · exact h.elim
        case invokespecial i =>
          dsimp only at h hck
          split at h
          · rw [if_pos rfl] at hck
            simp only [Bool.and_eq_true, beq_iff_eq, Nat.ble_eq] at hck
            obtain ⟨⟨⟨g1, g2⟩, g3⟩, rfl⟩ := hck
            split at h
            · split at h
              · rename_i hw
                exact jr_objInit hd (jlk_mem g1) (Nat.ble_eq.mp hw) g2 g3 h.1 (ih _ _ _ _ _ _ _ h.2)
              · exact h.elim
            · exact h.elim
          · rename_i hne
            rw [if_neg hne] at hck
            simp only [Bool.and_eq_true, beq_iff_eq, decide_eq_true_eq] at hck
            obtain ⟨⟨⟨⟨g1, g2⟩, g3⟩, g4⟩, rfl⟩ := hck
            obtain ⟨k1, k2, k3, k4, k5, k6⟩ := jcc g1
            split at h
            · rename_i x0 as st0 ha
              obtain ⟨-, l1, l2⟩ := jargs_eq ha
              split at h
              · rename_i hw
                obtain ⟨h1, mc', ms', h2, h3, h4⟩ := h
                have l2 : st = as.reverse ++ (1, x0) :: st0 := by
                  have := l2
                  simp at this
                  exact this.symm
                rw [l2]
                subst k5
                exact jr_callI hd k1 g2 g3 k6 k2 (by simp at l1; omega) k3 k4 (Nat.ble_eq.mp hw) h1 h2 h3 h4 (fun r M' hr _ hM => ih _ _ _ _ _ _ _ (hr hM))
              · exact h.elim
            · exact h.elim
        case invokevirtual i =>
          dsimp only at h hck
          simp only [Bool.and_eq_true, beq_iff_eq, decide_eq_true_eq] at hck
          obtain ⟨⟨⟨⟨⟨g1, g2⟩, g3⟩, g4⟩, rfl⟩, g5⟩ := hck
          obtain ⟨k1, k2, k3, k4, k5, k6⟩ := jcc g1
          split at g5
          · rename_i C T N hv
            simp only [Bool.and_eq_true, decide_eq_true_eq] at g5
            have hvc : v = 10 + (((v - 10).toNat : Nat) : Int) := by omega
            split at h
            · rename_i x0 as st0 ha
              obtain ⟨-, l1, l2⟩ := jargs_eq ha
              have l2 : st = as.reverse ++ (1, x0) :: st0 := by
                have := l2
                simp at this
                exact this.symm
              rw [l2]
              subst k5
              split at h
              · rename_i hw
                exact fun hcm hsm => jr_callv (mc' := 0) (ms' := 0) hd k1 ⟨g2, g3⟩ (jclass_all _ _ hv) g5.1 k6 k2 (by simp at l1; omega) k3 k4 (Nat.ble_eq.mp hw) (h.1.trans hvc) hcm hsm h.2 (fun r M' hr _ hM => ih _ _ _ _ _ _ _ (hr hM)) hcm hsm
              · rename_i hw _
                obtain ⟨h1, mc', ms', h2, h3, h4⟩ := h
                exact jr_callv hd k1 ⟨g2, g3⟩ (jclass_all _ _ hv) g5.1 k6 k2 (by simp at l1; omega) k3 k4 (Nat.ble_eq.mp hw) (h1.trans hvc) h2 h3 h4 (fun r M' hr _ hM => ih _ _ _ _ _ _ _ (hr hM))
              · exact h.elim
            · exact h.elim
          · cases g5
        case invokestatic i =>
          dsimp only at h hck
          split at h
          · rw [if_pos rfl] at hck
            simp only [Bool.and_eq_true, beq_iff_eq, Nat.ble_eq] at hck
            obtain ⟨⟨⟨g1, g2⟩, g3⟩, rfl⟩ := hck
            split at h
            · split at h
              · rename_i hw
                exact jr_max hd (jlk_mem g1) (Nat.ble_eq.mp hw) g2 g3 (ih _ _ _ _ _ _ _ h)
              · exact h.elim
            · exact h.elim
          · rw [if_neg (by omega), if_pos rfl] at hck
            simp only [Bool.and_eq_true, beq_iff_eq, Nat.ble_eq] at hck
            obtain ⟨⟨⟨g1, g2⟩, g3⟩, rfl⟩ := hck
            split at h
            · split at h
              · rename_i hw
                exact jr_min hd (jlk_mem g1) (Nat.ble_eq.mp hw) g2 g3 (ih _ _ _ _ _ _ _ h)
              · exact h.elim
            · exact h.elim
          · rw [if_neg (by omega), if_neg (by omega), if_pos rfl] at hck
            simp only [Bool.and_eq_true, beq_iff_eq, Nat.ble_eq] at hck
            obtain ⟨⟨⟨g1, g2⟩, g3⟩, rfl⟩ := hck
            split at h
            · split at h
              · rename_i hw
                obtain ⟨⟨m1, m2, m3, m4, m5, m6, m7⟩, h⟩ := h
                exact jr_copy hd (jlk_mem g1) (Nat.ble_eq.mp hw) g2 g3 m1 m2 m3 m4 m5 m6 m7 (ih _ _ _ _ _ _ _ h)
              · exact h.elim
            · exact h.elim
          · rename_i n1 n2 n3
            rw [if_neg n1, if_neg n2, if_neg n3] at hck
            simp only [Bool.and_eq_true, beq_iff_eq, decide_eq_true_eq] at hck
            obtain ⟨⟨g1, g2⟩, rfl⟩ := hck
            obtain ⟨k1, k2, k3, k4, k5, k6⟩ := jcc g1
            split at h
            · rename_i as st0 ha
              obtain ⟨-, l1, l2⟩ := jargs_eq ha
              split at h
              · rename_i hw
                have l2 : st = as.reverse ++ st0 := by
                  have := l2
                  simp at this
                  exact this.symm
                rw [l2]
                subst k5
                exact fun hcm hsm => jr_callS (mc' := 0) (ms' := 0) hd k1 g2 k6 k2 (by simp at l1; omega) k3 k4 (Nat.ble_eq.mp hw) hcm hsm h (fun r M' hr _ hM => ih _ _ _ _ _ _ _ (hr hM)) hcm hsm
              · exact h.elim
            · exact h.elim
        all_goals exact False.elim h
end
section
/-! instructions, by wip/whole/gen4.py -/
def ji_X0_init : List JI := [(0, .aload_n 0, 1, 0, 0, 0, 0, 0, 0), (1, .invokespecial 3, 3, 1000, 1, 0, 272, 0, 0), (4, .aload_n 0, 1, 0, 0, 0, 0, 0, 0), (5, .sipush 241, 3, 0, 0, 0, 0, 0, 0), (8, .newarray .int, 2, 0, 0, 0, 133, 0, 1), (10, .putfield 9, 3, 100, 1, 0, 273, 0, 10), (13, .aload_n 0, 1, 0, 0, 0, 0, 0, 0), (14, .sipush 241, 3, 0, 0, 0, 0, 0, 0), (17, .newarray .int, 2, 0, 0, 0, 133, 0, 1), (19, .putfield 15, 3, 101, 1, 0, 274, 0, 10), (22, .return_, 1, 0, 0, 0, 0, 0, 0)]
set_option maxRecDepth 100000 in
theorem jk_X0_init : ji_X0_init.all (jck 0) = true := by decide +kernel
def ji_X0_edgeOf : List JI := [(0, .aload_n 1, 1, 0, 0, 0, 0, 0, 0), (1, .iload_n 2, 1, 0, 0, 0, 0, 0, 0), (2, .iload_n 3, 1, 0, 0, 0, 0, 0, 0), (3, .invokevirtual 18, 3, 85, 3, 0, 663, 0, 19), (6, .ifCond .ne 5, 3, 11, 0, 0, 0, 0, 0), (9, .iconst 0, 1, 0, 0, 0, 0, 0, 0), (10, .ireturn, 1, 0, 0, 0, 0, 0, 0), (11, .iload_n 3, 1, 0, 0, 0, 0, 0, 0), (12, .iload_n 2, 1, 0, 0, 0, 0, 0, 0), (13, .isub, 1, 0, 0, 0, 0, 0, 0), (14, .istore 4, 2, 0, 0, 0, 0, 0, 0), (16, .iconst 0, 1, 0, 0, 0, 0, 0, 0), (17, .istore 5, 2, 0, 0, 0, 0, 0, 0), (19, .aload_n 0, 1, 0, 0, 0, 0, 0, 0), (20, .getfield 9, 3, 100, 1, 0, 273, 0, 10), (23, .iconst 0, 1, 0, 0, 0, 0, 0, 0), (24, .iconst 0, 1, 0, 0, 0, 0, 0, 0), (25, .iastore, 1, 0, 0, 0, 0, 0, 0), (26, .iconst 1, 1, 0, 0, 0, 0, 0, 0), (27, .istore 6, 2, 0, 0, 0, 0, 0, 0), (29, .iload 6, 2, 0, 0, 0, 0, 0, 0), (31, .iload 4, 2, 0, 0, 0, 0, 0, 0), (33, .if_icmp .ge 80, 3, 113, 0, 0, 0, 0, 0), (36, .aload_n 0, 1, 0, 0, 0, 0, 0, 0), (37, .getfield 9, 3, 100, 1, 0, 273, 0, 10), (40, .iload 6, 2, 0, 0, 0, 0, 0, 0), (42, .iload 5, 2, 0, 0, 0, 0, 0, 0), (44, .iastore, 1, 0, 0, 0, 0, 0, 0), (45, .iload 5, 2, 0, 0, 0, 0, 0, 0), (47, .ifCond .le 36, 3, 83, 0, 0, 0, 0, 0), (50, .aload_n 1, 1, 0, 0, 0, 0, 0, 0), (51, .getfield 24, 3, 1000, 1, 9, 112, 0, 19), (54, .iload_n 2, 1, 0, 0, 0, 0, 0, 0), (55, .iload 6, 2, 0, 0, 0, 0, 0, 0), (57, .iadd, 1, 0, 0, 0, 0, 0, 0), (58, .iaload, 1, 0, 0, 0, 0, 0, 0), (59, .aload_n 1, 1, 0, 0, 0, 0, 0, 0), (60, .getfield 24, 3, 1000, 1, 9, 112, 0, 19), (63, .iload_n 2, 1, 0, 0, 0, 0, 0, 0), (64, .iload 5, 2, 0, 0, 0, 0, 0, 0), (66, .iadd, 1, 0, 0, 0, 0, 0, 0), (67, .iaload, 1, 0, 0, 0, 0, 0, 0), (68, .if_icmp .eq 15, 3, 83, 0, 0, 0, 0, 0), (71, .aload_n 0, 1, 0, 0, 0, 0, 0, 0), (72, .getfield 9, 3, 100, 1, 0, 273, 0, 10), (75, .iload 5, 2, 0, 0, 0, 0, 0, 0), (77, .iaload, 1, 0, 0, 0, 0, 0, 0), (78, .istore 5, 2, 0, 0, 0, 0, 0, 0), (80, .goto (-35), 3, 45, 0, 0, 0, 0, 0), (83, .aload_n 1, 1, 0, 0, 0, 0, 0, 0), (84, .getfield 24, 3, 1000, 1, 9, 112, 0, 19), (87, .iload_n 2, 1, 0, 0, 0, 0, 0, 0), (88, .iload 6, 2, 0, 0, 0, 0, 0, 0), (90, .iadd, 1, 0, 0, 0, 0, 0, 0), (91, .iaload, 1, 0, 0, 0, 0, 0, 0), (92, .aload_n 1, 1, 0, 0, 0, 0, 0, 0), (93, .getfield 24, 3, 1000, 1, 9, 112, 0, 19), (96, .iload_n 2, 1, 0, 0, 0, 0, 0, 0), (97, .iload 5, 2, 0, 0, 0, 0, 0, 0), (99, .iadd, 1, 0, 0, 0, 0, 0, 0), (100, .iaload, 1, 0, 0, 0, 0, 0, 0), (101, .if_icmp .ne 6, 3, 107, 0, 0, 0, 0, 0), (104, .iinc 5 1, 3, 0, 0, 0, 0, 0, 0), (107, .iinc 6 1, 3, 0, 0, 0, 0, 0, 0), (110, .goto (-81), 3, 29, 0, 0, 0, 0, 0), (113, .iload 5, 2, 0, 0, 0, 0, 0, 0), (115, .ireturn, 1, 0, 0, 0, 0, 0, 0)]
set_option maxRecDepth 100000 in
theorem jk_X0_edgeOf : ji_X0_edgeOf.all (jck 1) = true := by decide +kernel
def ji_X0_squaresIn : List JI := [(0, .iconst 0, 1, 0, 0, 0, 0, 0, 0), (1, .istore_n 1, 1, 0, 0, 0, 0, 0, 0), (2, .iconst 1, 1, 0, 0, 0, 0, 0, 0), (3, .istore_n 2, 1, 0, 0, 0, 0, 0, 0), (4, .iconst 2, 1, 0, 0, 0, 0, 0, 0), (5, .iload_n 2, 1, 0, 0, 0, 0, 0, 0), (6, .imul, 1, 0, 0, 0, 0, 0, 0), (7, .aload_n 0, 1, 0, 0, 0, 0, 0, 0), (8, .getfield 27, 3, 2901, 0, 9, 124, 0, 19), (11, .if_icmp .gt 66, 3, 77, 0, 0, 0, 0, 0), (14, .iconst 0, 1, 0, 0, 0, 0, 0, 0), (15, .istore_n 3, 1, 0, 0, 0, 0, 0, 0), (16, .iconst 0, 1, 0, 0, 0, 0, 0, 0), (17, .istore 4, 2, 0, 0, 0, 0, 0, 0), (19, .iload 4, 2, 0, 0, 0, 0, 0, 0), (21, .iload_n 2, 1, 0, 0, 0, 0, 0, 0), (22, .iadd, 1, 0, 0, 0, 0, 0, 0), (23, .aload_n 0, 1, 0, 0, 0, 0, 0, 0), (24, .getfield 27, 3, 2901, 0, 9, 124, 0, 19), (27, .if_icmp .ge 44, 3, 71, 0, 0, 0, 0, 0), (30, .aload_n 0, 1, 0, 0, 0, 0, 0, 0), (31, .getfield 24, 3, 1000, 1, 9, 112, 0, 19), (34, .iload 4, 2, 0, 0, 0, 0, 0, 0), (36, .iaload, 1, 0, 0, 0, 0, 0, 0), (37, .aload_n 0, 1, 0, 0, 0, 0, 0, 0), (38, .getfield 24, 3, 1000, 1, 9, 112, 0, 19), (41, .iload 4, 2, 0, 0, 0, 0, 0, 0), (43, .iload_n 2, 1, 0, 0, 0, 0, 0, 0), (44, .iadd, 1, 0, 0, 0, 0, 0, 0), (45, .iaload, 1, 0, 0, 0, 0, 0, 0), (46, .if_icmp .ne 9, 3, 55, 0, 0, 0, 0, 0), (49, .iload_n 3, 1, 0, 0, 0, 0, 0, 0), (50, .iconst 1, 1, 0, 0, 0, 0, 0, 0), (51, .iadd, 1, 0, 0, 0, 0, 0, 0), (52, .goto 4, 3, 56, 0, 0, 0, 0, 0), (55, .iconst 0, 1, 0, 0, 0, 0, 0, 0), (56, .istore_n 3, 1, 0, 0, 0, 0, 0, 0), (57, .iload_n 3, 1, 0, 0, 0, 0, 0, 0), (58, .iload_n 2, 1, 0, 0, 0, 0, 0, 0), (59, .if_icmp .lt 6, 3, 65, 0, 0, 0, 0, 0), (62, .iinc 1 1, 3, 0, 0, 0, 0, 0, 0), (65, .iinc 4 1, 3, 0, 0, 0, 0, 0, 0), (68, .goto (-49), 3, 19, 0, 0, 0, 0, 0), (71, .iinc 2 1, 3, 0, 0, 0, 0, 0, 0), (74, .goto (-70), 3, 4, 0, 0, 0, 0, 0), (77, .iload_n 1, 1, 0, 0, 0, 0, 0, 0), (78, .ireturn, 1, 0, 0, 0, 0, 0, 0)]
set_option maxRecDepth 100000 in
theorem jk_X0_squaresIn : ji_X0_squaresIn.all (jck 2) = true := by decide +kernel
def ji_X0_tellRuns : List JI := [(0, .aload_n 1, 1, 0, 0, 0, 0, 0, 0), (1, .invokevirtual 31, 3, 101, 1, 3, 789, 0, 20), (4, .iconst 1, 1, 0, 0, 0, 0, 0, 0), (5, .istore_n 2, 1, 0, 0, 0, 0, 0, 0), (6, .iconst 2, 1, 0, 0, 0, 0, 0, 0), (7, .iload_n 2, 1, 0, 0, 0, 0, 0, 0), (8, .imul, 1, 0, 0, 0, 0, 0, 0), (9, .aload_n 0, 1, 0, 0, 0, 0, 0, 0), (10, .getfield 27, 3, 2901, 0, 9, 124, 0, 19), (13, .if_icmp .gt 82, 3, 95, 0, 0, 0, 0, 0), (16, .iconst 0, 1, 0, 0, 0, 0, 0, 0), (17, .istore_n 3, 1, 0, 0, 0, 0, 0, 0), (18, .iconst 0, 1, 0, 0, 0, 0, 0, 0), (19, .istore 4, 2, 0, 0, 0, 0, 0, 0), (21, .iload 4, 2, 0, 0, 0, 0, 0, 0), (23, .iload_n 2, 1, 0, 0, 0, 0, 0, 0), (24, .iadd, 1, 0, 0, 0, 0, 0, 0), (25, .aload_n 0, 1, 0, 0, 0, 0, 0, 0), (26, .getfield 27, 3, 2901, 0, 9, 124, 0, 19), (29, .if_icmp .gt 60, 3, 89, 0, 0, 0, 0, 0), (32, .iload 4, 2, 0, 0, 0, 0, 0, 0), (34, .iload_n 2, 1, 0, 0, 0, 0, 0, 0), (35, .iadd, 1, 0, 0, 0, 0, 0, 0), (36, .aload_n 0, 1, 0, 0, 0, 0, 0, 0), (37, .getfield 27, 3, 2901, 0, 9, 124, 0, 19), (40, .if_icmp .ge 28, 3, 68, 0, 0, 0, 0, 0), (43, .aload_n 0, 1, 0, 0, 0, 0, 0, 0), (44, .getfield 24, 3, 1000, 1, 9, 112, 0, 19), (47, .iload 4, 2, 0, 0, 0, 0, 0, 0), (49, .iaload, 1, 0, 0, 0, 0, 0, 0), (50, .aload_n 0, 1, 0, 0, 0, 0, 0, 0), (51, .getfield 24, 3, 1000, 1, 9, 112, 0, 19), (54, .iload 4, 2, 0, 0, 0, 0, 0, 0), (56, .iload_n 2, 1, 0, 0, 0, 0, 0, 0), (57, .iadd, 1, 0, 0, 0, 0, 0, 0), (58, .iaload, 1, 0, 0, 0, 0, 0, 0), (59, .if_icmp .ne 9, 3, 68, 0, 0, 0, 0, 0), (62, .iinc 3 1, 3, 0, 0, 0, 0, 0, 0), (65, .goto 18, 3, 83, 0, 0, 0, 0, 0), (68, .iload 4, 2, 0, 0, 0, 0, 0, 0), (70, .iload_n 3, 1, 0, 0, 0, 0, 0, 0), (71, .isub, 1, 0, 0, 0, 0, 0, 0), (72, .iload 4, 2, 0, 0, 0, 0, 0, 0), (74, .iload_n 2, 1, 0, 0, 0, 0, 0, 0), (75, .iadd, 1, 0, 0, 0, 0, 0, 0), (76, .iload_n 2, 1, 0, 0, 0, 0, 0, 0), (77, .aload_n 1, 1, 0, 0, 0, 0, 0, 0), (78, .invokestatic 36, 3, 4, 4, 3, 790, 0, 0), (81, .iconst 0, 1, 0, 0, 0, 0, 0, 0), (82, .istore_n 3, 1, 0, 0, 0, 0, 0, 0), (83, .iinc 4 1, 3, 0, 0, 0, 0, 0, 0), (86, .goto (-65), 3, 21, 0, 0, 0, 0, 0), (89, .iinc 2 1, 3, 0, 0, 0, 0, 0, 0), (92, .goto (-86), 3, 6, 0, 0, 0, 0, 0), (95, .return_, 1, 0, 0, 0, 0, 0, 0)]
set_option maxRecDepth 100000 in
theorem jk_X0_tellRuns : ji_X0_tellRuns.all (jck 3) = true := by decide +kernel
def ji_X0_tellIfRun : List JI := [(0, .iload_n 1, 1, 0, 0, 0, 0, 0, 0), (1, .iload_n 0, 1, 0, 0, 0, 0, 0, 0), (2, .isub, 1, 0, 0, 0, 0, 0, 0), (3, .iconst 2, 1, 0, 0, 0, 0, 0, 0), (4, .iload_n 2, 1, 0, 0, 0, 0, 0, 0), (5, .imul, 1, 0, 0, 0, 0, 0, 0), (6, .if_icmp .lt 20, 3, 26, 0, 0, 0, 0, 0), (9, .aload_n 3, 1, 0, 0, 0, 0, 0, 0), (10, .iload_n 0, 1, 0, 0, 0, 0, 0, 0), (11, .iload_n 1, 1, 0, 0, 0, 0, 0, 0), (12, .invokevirtual 40, 3, 106, 3, 0, 793, 0, 20), (15, .iconst (-1), 1, 0, 0, 0, 0, 0, 0), (16, .if_icmp .ne 10, 3, 26, 0, 0, 0, 0, 0), (19, .aload_n 3, 1, 0, 0, 0, 0, 0, 0), (20, .iload_n 0, 1, 0, 0, 0, 0, 0, 0), (21, .iload_n 1, 1, 0, 0, 0, 0, 0, 0), (22, .iload_n 2, 1, 0, 0, 0, 0, 0, 0), (23, .invokevirtual 44, 3, 104, 4, 3, 798, 0, 20), (26, .return_, 1, 0, 0, 0, 0, 0, 0)]
set_option maxRecDepth 100000 in
theorem jk_X0_tellIfRun : ji_X0_tellIfRun.all (jck 4) = true := by decide +kernel
def ji_X0_mirroredAround : List JI := [(0, .iload_n 1, 1, 0, 0, 0, 0, 0, 0), (1, .iconst 2, 1, 0, 0, 0, 0, 0, 0), (2, .idiv, 1, 0, 0, 0, 0, 0, 0), (3, .istore_n 2, 1, 0, 0, 0, 0, 0, 0), (4, .iload_n 2, 1, 0, 0, 0, 0, 0, 0), (5, .iload_n 1, 1, 0, 0, 0, 0, 0, 0), (6, .iconst 2, 1, 0, 0, 0, 0, 0, 0), (7, .irem, 1, 0, 0, 0, 0, 0, 0), (8, .iadd, 1, 0, 0, 0, 0, 0, 0), (9, .istore_n 3, 1, 0, 0, 0, 0, 0, 0), (10, .iload_n 2, 1, 0, 0, 0, 0, 0, 0), (11, .ifCond .lt 35, 3, 46, 0, 0, 0, 0, 0), (14, .iload_n 3, 1, 0, 0, 0, 0, 0, 0), (15, .aload_n 0, 1, 0, 0, 0, 0, 0, 0), (16, .getfield 27, 3, 2901, 0, 9, 124, 0, 19), (19, .if_icmp .ge 27, 3, 46, 0, 0, 0, 0, 0), (22, .aload_n 0, 1, 0, 0, 0, 0, 0, 0), (23, .getfield 24, 3, 1000, 1, 9, 112, 0, 19), (26, .iload_n 2, 1, 0, 0, 0, 0, 0, 0), (27, .iaload, 1, 0, 0, 0, 0, 0, 0), (28, .aload_n 0, 1, 0, 0, 0, 0, 0, 0), (29, .getfield 24, 3, 1000, 1, 9, 112, 0, 19), (32, .iload_n 3, 1, 0, 0, 0, 0, 0, 0), (33, .iaload, 1, 0, 0, 0, 0, 0, 0), (34, .if_icmp .ne 12, 3, 46, 0, 0, 0, 0, 0), (37, .iinc 2 (-1), 3, 0, 0, 0, 0, 0, 0), (40, .iinc 3 1, 3, 0, 0, 0, 0, 0, 0), (43, .goto (-33), 3, 10, 0, 0, 0, 0, 0), (46, .iload_n 3, 1, 0, 0, 0, 0, 0, 0), (47, .iload_n 2, 1, 0, 0, 0, 0, 0, 0), (48, .isub, 1, 0, 0, 0, 0, 0, 0), (49, .iconst 1, 1, 0, 0, 0, 0, 0, 0), (50, .isub, 1, 0, 0, 0, 0, 0, 0), (51, .ireturn, 1, 0, 0, 0, 0, 0, 0)]
set_option maxRecDepth 100000 in
theorem jk_X0_mirroredAround : ji_X0_mirroredAround.all (jck 5) = true := by decide +kernel
def ji_X0_leastMirrored : List JI := [(0, .iconst 0, 1, 0, 0, 0, 0, 0, 0), (1, .istore_n 2, 1, 0, 0, 0, 0, 0, 0), (2, .iload_n 2, 1, 0, 0, 0, 0, 0, 0), (3, .aload_n 1, 1, 0, 0, 0, 0, 0, 0), (4, .getfield 27, 3, 2901, 0, 9, 124, 0, 19), (7, .if_icmp .gt 16, 3, 23, 0, 0, 0, 0, 0), (10, .aload_n 0, 1, 0, 0, 0, 0, 0, 0), (11, .getfield 15, 3, 101, 1, 0, 274, 0, 10), (14, .iload_n 2, 1, 0, 0, 0, 0, 0, 0), (15, .iload_n 2, 1, 0, 0, 0, 0, 0, 0), (16, .iastore, 1, 0, 0, 0, 0, 0, 0), (17, .iinc 2 1, 3, 0, 0, 0, 0, 0, 0), (20, .goto (-18), 3, 2, 0, 0, 0, 0, 0), (23, .iconst 0, 1, 0, 0, 0, 0, 0, 0), (24, .istore_n 2, 1, 0, 0, 0, 0, 0, 0), (25, .iload_n 2, 1, 0, 0, 0, 0, 0, 0), (26, .iconst 2, 1, 0, 0, 0, 0, 0, 0), (27, .aload_n 1, 1, 0, 0, 0, 0, 0, 0), (28, .getfield 27, 3, 2901, 0, 9, 124, 0, 19), (31, .imul, 1, 0, 0, 0, 0, 0, 0), (32, .iconst 2, 1, 0, 0, 0, 0, 0, 0), (33, .isub, 1, 0, 0, 0, 0, 0, 0), (34, .if_icmp .gt 87, 3, 121, 0, 0, 0, 0, 0), (37, .iload_n 2, 1, 0, 0, 0, 0, 0, 0), (38, .iconst 2, 1, 0, 0, 0, 0, 0, 0), (39, .idiv, 1, 0, 0, 0, 0, 0, 0), (40, .istore_n 3, 1, 0, 0, 0, 0, 0, 0), (41, .iload_n 3, 1, 0, 0, 0, 0, 0, 0), (42, .iload_n 2, 1, 0, 0, 0, 0, 0, 0), (43, .iconst 2, 1, 0, 0, 0, 0, 0, 0), (44, .irem, 1, 0, 0, 0, 0, 0, 0), (45, .iadd, 1, 0, 0, 0, 0, 0, 0), (46, .istore 4, 2, 0, 0, 0, 0, 0, 0), (48, .iload_n 3, 1, 0, 0, 0, 0, 0, 0), (49, .ifCond .lt 66, 3, 115, 0, 0, 0, 0, 0), (52, .iload 4, 2, 0, 0, 0, 0, 0, 0), (54, .aload_n 1, 1, 0, 0, 0, 0, 0, 0), (55, .getfield 27, 3, 2901, 0, 9, 124, 0, 19), (58, .if_icmp .ge 57, 3, 115, 0, 0, 0, 0, 0), (61, .aload_n 1, 1, 0, 0, 0, 0, 0, 0), (62, .getfield 24, 3, 1000, 1, 9, 112, 0, 19), (65, .iload_n 3, 1, 0, 0, 0, 0, 0, 0), (66, .iaload, 1, 0, 0, 0, 0, 0, 0), (67, .aload_n 1, 1, 0, 0, 0, 0, 0, 0), (68, .getfield 24, 3, 1000, 1, 9, 112, 0, 19), (71, .iload 4, 2, 0, 0, 0, 0, 0, 0), (73, .iaload, 1, 0, 0, 0, 0, 0, 0), (74, .if_icmp .ne 41, 3, 115, 0, 0, 0, 0, 0), (77, .aload_n 0, 1, 0, 0, 0, 0, 0, 0), (78, .getfield 15, 3, 101, 1, 0, 274, 0, 10), (81, .iload 4, 2, 0, 0, 0, 0, 0, 0), (83, .iconst 1, 1, 0, 0, 0, 0, 0, 0), (84, .iadd, 1, 0, 0, 0, 0, 0, 0), (85, .aload_n 0, 1, 0, 0, 0, 0, 0, 0), (86, .getfield 15, 3, 101, 1, 0, 274, 0, 10), (89, .iload 4, 2, 0, 0, 0, 0, 0, 0), (91, .iconst 1, 1, 0, 0, 0, 0, 0, 0), (92, .iadd, 1, 0, 0, 0, 0, 0, 0), (93, .iaload, 1, 0, 0, 0, 0, 0, 0), (94, .aload_n 0, 1, 0, 0, 0, 0, 0, 0), (95, .getfield 15, 3, 101, 1, 0, 274, 0, 10), (98, .iload_n 3, 1, 0, 0, 0, 0, 0, 0), (99, .iaload, 1, 0, 0, 0, 0, 0, 0), (100, .iconst 1, 1, 0, 0, 0, 0, 0, 0), (101, .iadd, 1, 0, 0, 0, 0, 0, 0), (102, .invokestatic 48, 3, 1002, 2, 0, 822, 0, 0), (105, .iastore, 1, 0, 0, 0, 0, 0, 0), (106, .iinc 3 (-1), 3, 0, 0, 0, 0, 0, 0), (109, .iinc 4 1, 3, 0, 0, 0, 0, 0, 0), (112, .goto (-64), 3, 48, 0, 0, 0, 0, 0), (115, .iinc 2 1, 3, 0, 0, 0, 0, 0, 0), (118, .goto (-93), 3, 25, 0, 0, 0, 0, 0), (121, .aload_n 0, 1, 0, 0, 0, 0, 0, 0), (122, .getfield 15, 3, 101, 1, 0, 274, 0, 10), (125, .aload_n 1, 1, 0, 0, 0, 0, 0, 0), (126, .getfield 27, 3, 2901, 0, 9, 124, 0, 19), (129, .iaload, 1, 0, 0, 0, 0, 0, 0), (130, .ireturn, 1, 0, 0, 0, 0, 0, 0)]
set_option maxRecDepth 100000 in
theorem jk_X0_leastMirrored : ji_X0_leastMirrored.all (jck 6) = true := by decide +kernel
def ji_X0_leastTurn : List JI := [(0, .iconst 0, 1, 0, 0, 0, 0, 0, 0), (1, .istore_n 1, 1, 0, 0, 0, 0, 0, 0), (2, .iconst 1, 1, 0, 0, 0, 0, 0, 0), (3, .istore_n 2, 1, 0, 0, 0, 0, 0, 0), (4, .iload_n 2, 1, 0, 0, 0, 0, 0, 0), (5, .aload_n 0, 1, 0, 0, 0, 0, 0, 0), (6, .getfield 27, 3, 2901, 0, 9, 124, 0, 19), (9, .if_icmp .ge 20, 3, 29, 0, 0, 0, 0, 0), (12, .aload_n 0, 1, 0, 0, 0, 0, 0, 0), (13, .iload_n 2, 1, 0, 0, 0, 0, 0, 0), (14, .iload_n 1, 1, 0, 0, 0, 0, 0, 0), (15, .invokestatic 53, 3, 8, 3, 0, 830, 0, 0), (18, .ifCond .eq 5, 3, 23, 0, 0, 0, 0, 0), (21, .iload_n 2, 1, 0, 0, 0, 0, 0, 0), (22, .istore_n 1, 1, 0, 0, 0, 0, 0, 0), (23, .iinc 2 1, 3, 0, 0, 0, 0, 0, 0), (26, .goto (-22), 3, 4, 0, 0, 0, 0, 0), (29, .iload_n 1, 1, 0, 0, 0, 0, 0, 0), (30, .ireturn, 1, 0, 0, 0, 0, 0, 0)]
set_option maxRecDepth 100000 in
theorem jk_X0_leastTurn : ji_X0_leastTurn.all (jck 7) = true := by decide +kernel
def ji_X0_turnIsLess : List JI := [(0, .aload_n 0, 1, 0, 0, 0, 0, 0, 0), (1, .getfield 27, 3, 2901, 0, 9, 124, 0, 19), (4, .istore_n 3, 1, 0, 0, 0, 0, 0, 0), (5, .iconst 0, 1, 0, 0, 0, 0, 0, 0), (6, .istore 4, 2, 0, 0, 0, 0, 0, 0), (8, .iload 4, 2, 0, 0, 0, 0, 0, 0), (10, .iload_n 3, 1, 0, 0, 0, 0, 0, 0), (11, .if_icmp .ge 85, 3, 96, 0, 0, 0, 0, 0), (14, .aload_n 0, 1, 0, 0, 0, 0, 0, 0), (15, .getfield 24, 3, 1000, 1, 9, 112, 0, 19), (18, .iload_n 1, 1, 0, 0, 0, 0, 0, 0), (19, .iload 4, 2, 0, 0, 0, 0, 0, 0), (21, .iadd, 1, 0, 0, 0, 0, 0, 0), (22, .iload_n 3, 1, 0, 0, 0, 0, 0, 0), (23, .if_icmp .ge 10, 3, 33, 0, 0, 0, 0, 0), (26, .iload_n 1, 1, 0, 0, 0, 0, 0, 0), (27, .iload 4, 2, 0, 0, 0, 0, 0, 0), (29, .iadd, 1, 0, 0, 0, 0, 0, 0), (30, .goto 9, 3, 39, 0, 0, 0, 0, 0), (33, .iload_n 1, 1, 0, 0, 0, 0, 0, 0), (34, .iload 4, 2, 0, 0, 0, 0, 0, 0), (36, .iadd, 1, 0, 0, 0, 0, 0, 0), (37, .iload_n 3, 1, 0, 0, 0, 0, 0, 0), (38, .isub, 1, 0, 0, 0, 0, 0, 0), (39, .iaload, 1, 0, 0, 0, 0, 0, 0), (40, .istore 5, 2, 0, 0, 0, 0, 0, 0), (42, .aload_n 0, 1, 0, 0, 0, 0, 0, 0), (43, .getfield 24, 3, 1000, 1, 9, 112, 0, 19), (46, .iload_n 2, 1, 0, 0, 0, 0, 0, 0), (47, .iload 4, 2, 0, 0, 0, 0, 0, 0), (49, .iadd, 1, 0, 0, 0, 0, 0, 0), (50, .iload_n 3, 1, 0, 0, 0, 0, 0, 0), (51, .if_icmp .ge 10, 3, 61, 0, 0, 0, 0, 0), (54, .iload_n 2, 1, 0, 0, 0, 0, 0, 0), (55, .iload 4, 2, 0, 0, 0, 0, 0, 0), (57, .iadd, 1, 0, 0, 0, 0, 0, 0), (58, .goto 9, 3, 67, 0, 0, 0, 0, 0), (61, .iload_n 2, 1, 0, 0, 0, 0, 0, 0), (62, .iload 4, 2, 0, 0, 0, 0, 0, 0), (64, .iadd, 1, 0, 0, 0, 0, 0, 0), (65, .iload_n 3, 1, 0, 0, 0, 0, 0, 0), (66, .isub, 1, 0, 0, 0, 0, 0, 0), (67, .iaload, 1, 0, 0, 0, 0, 0, 0), (68, .istore 6, 2, 0, 0, 0, 0, 0, 0), (70, .iload 5, 2, 0, 0, 0, 0, 0, 0), (72, .iload 6, 2, 0, 0, 0, 0, 0, 0), (74, .if_icmp .eq 16, 3, 90, 0, 0, 0, 0, 0), (77, .iload 5, 2, 0, 0, 0, 0, 0, 0), (79, .iload 6, 2, 0, 0, 0, 0, 0, 0), (81, .if_icmp .ge 7, 3, 88, 0, 0, 0, 0, 0), (84, .iconst 1, 1, 0, 0, 0, 0, 0, 0), (85, .goto 4, 3, 89, 0, 0, 0, 0, 0), (88, .iconst 0, 1, 0, 0, 0, 0, 0, 0), (89, .ireturn, 1, 0, 5, 0, 0, 0, 0), (90, .iinc 4 1, 3, 0, 0, 0, 0, 0, 0), (93, .goto (-85), 3, 8, 0, 0, 0, 0, 0), (96, .iconst 0, 1, 0, 0, 0, 0, 0, 0), (97, .ireturn, 1, 0, 5, 0, 0, 0, 0)]
set_option maxRecDepth 100000 in
theorem jk_X0_turnIsLess : ji_X0_turnIsLess.all (jck 8) = true := by decide +kernel
def ji_X1_init : List JI := [(0, .aload_n 0, 1, 0, 0, 0, 0, 0, 0), (1, .invokespecial 3, 3, 1000, 1, 0, 138, 0, 0), (4, .aload_n 0, 1, 0, 0, 0, 0, 0, 0), (5, .new 9, 3, 71, 2, 9, 139, 102, 19), (8, .dup, 1, 0, 0, 0, 0, 0, 0), (9, .sipush 240, 3, 0, 0, 0, 0, 0, 0), (12, .invokespecial 11, 3, 83, 2, 3, 140, 0, 0), (15, .putfield 14, 3, 200, 1, 1, 141, 0, 11), (18, .return_, 1, 0, 0, 0, 0, 0, 0)]
set_option maxRecDepth 100000 in
theorem jk_X1_init : ji_X1_init.all (jck 9) = true := by decide +kernel
def ji_X2_init : List JI := [(0, .aload_n 0, 1, 0, 0, 0, 0, 0, 0), (1, .invokespecial 3, 3, 1000, 1, 0, 285, 0, 0), (4, .aload_n 0, 1, 0, 0, 0, 0, 0, 0), (5, .bipush 16, 2, 0, 0, 0, 0, 0, 0), (7, .anewarray 9, 3, 0, 0, 0, 286, 99, 3), (10, .putfield 11, 3, 300, 1, 2, 288, 0, 12), (13, .aload_n 0, 1, 0, 0, 0, 0, 0, 0), (14, .sipush 241, 3, 0, 0, 0, 0, 0, 0), (17, .newarray .int, 2, 0, 0, 0, 133, 0, 1), (19, .putfield 17, 3, 301, 1, 2, 289, 0, 12), (22, .iconst 0, 1, 0, 0, 0, 0, 0, 0), (23, .istore_n 1, 1, 0, 0, 0, 0, 0, 0), (24, .iload_n 1, 1, 0, 0, 0, 0, 0, 0), (25, .bipush 16, 2, 0, 0, 0, 0, 0, 0), (27, .if_icmp .ge 24, 3, 51, 0, 0, 0, 0, 0), (30, .aload_n 0, 1, 0, 0, 0, 0, 0, 0), (31, .getfield 11, 3, 300, 1, 2, 288, 0, 12), (34, .iload_n 1, 1, 0, 0, 0, 0, 0, 0), (35, .new 9, 3, 71, 2, 9, 286, 102, 19), (38, .dup, 1, 0, 0, 0, 0, 0, 0), (39, .bipush 40, 2, 0, 0, 0, 0, 0, 0), (41, .invokespecial 21, 3, 83, 2, 3, 287, 0, 0), (44, .aastore, 1, 0, 0, 0, 0, 0, 0), (45, .iinc 1 1, 3, 0, 0, 0, 0, 0, 0), (48, .goto (-24), 3, 24, 0, 0, 0, 0, 0), (51, .return_, 1, 0, 0, 0, 0, 0, 0)]
set_option maxRecDepth 100000 in
theorem jk_X2_init : ji_X2_init.all (jck 10) = true := by decide +kernel
def ji_X2_take : List JI := [(0, .aload_n 0, 1, 0, 0, 0, 0, 0, 0), (1, .getfield 24, 3, 2202, 0, 2, 290, 0, 12), (4, .bipush 16, 2, 0, 0, 0, 0, 0, 0), (6, .if_icmp .lt 6, 3, 12, 0, 0, 0, 0, 0), (9, .bipush (-3), 2, 0, 0, 0, 0, 0, 0), (11, .ireturn, 1, 0, 0, 0, 0, 0, 0), (12, .aload_n 0, 1, 0, 0, 0, 0, 0, 0), (13, .getfield 11, 3, 300, 1, 2, 288, 0, 12), (16, .aload_n 0, 1, 0, 0, 0, 0, 0, 0), (17, .getfield 24, 3, 2202, 0, 2, 290, 0, 12), (20, .aaload, 1, 0, 0, 0, 0, 0, 0), (21, .aload_n 1, 1, 0, 0, 0, 0, 0, 0), (22, .invokevirtual 28, 3, 93, 2, 3, 697, 0, 19), (25, .aload_n 0, 1, 0, 0, 0, 0, 0, 0), (26, .dup, 1, 0, 0, 0, 0, 0, 0), (27, .getfield 24, 3, 2202, 0, 2, 290, 0, 12), (30, .iconst 1, 1, 0, 0, 0, 0, 0, 0), (31, .iadd, 1, 0, 0, 0, 0, 0, 0), (32, .putfield 24, 3, 2202, 0, 2, 290, 0, 12), (35, .aload_n 0, 1, 0, 0, 0, 0, 0, 0), (36, .getfield 24, 3, 2202, 0, 2, 290, 0, 12), (39, .iconst 1, 1, 0, 0, 0, 0, 0, 0), (40, .isub, 1, 0, 0, 0, 0, 0, 0), (41, .ireturn, 1, 0, 0, 0, 0, 0, 0)]
set_option maxRecDepth 100000 in
theorem jk_X2_take : ji_X2_take.all (jck 11) = true := by decide +kernel
def ji_X2_tellMatches : List JI := [(0, .aload_n 2, 1, 0, 0, 0, 0, 0, 0), (1, .invokevirtual 32, 3, 101, 1, 3, 706, 0, 20), (4, .iconst 0, 1, 0, 0, 0, 0, 0, 0), (5, .istore_n 3, 1, 0, 0, 0, 0, 0, 0), (6, .iload_n 3, 1, 0, 0, 0, 0, 0, 0), (7, .aload_n 1, 1, 0, 0, 0, 0, 0, 0), (8, .getfield 37, 3, 2901, 0, 9, 123, 0, 19), (11, .if_icmp .ge 52, 3, 63, 0, 0, 0, 0, 0), (14, .iconst 0, 1, 0, 0, 0, 0, 0, 0), (15, .istore 4, 2, 0, 0, 0, 0, 0, 0), (17, .iload 4, 2, 0, 0, 0, 0, 0, 0), (19, .aload_n 0, 1, 0, 0, 0, 0, 0, 0), (20, .getfield 24, 3, 2202, 0, 2, 290, 0, 12), (23, .if_icmp .ge 34, 3, 57, 0, 0, 0, 0, 0), (26, .aload_n 1, 1, 0, 0, 0, 0, 0, 0), (27, .iload_n 3, 1, 0, 0, 0, 0, 0, 0), (28, .aload_n 0, 1, 0, 0, 0, 0, 0, 0), (29, .getfield 11, 3, 300, 1, 2, 288, 0, 12), (32, .iload 4, 2, 0, 0, 0, 0, 0, 0), (34, .aaload, 1, 0, 0, 0, 0, 0, 0), (35, .iconst (-1), 1, 0, 0, 0, 0, 0, 0), (36, .iconst 0, 1, 0, 0, 0, 0, 0, 0), (37, .invokestatic 40, 3, 17, 5, 0, 710, 0, 0), (40, .ifCond .eq 11, 3, 51, 0, 0, 0, 0, 0), (43, .aload_n 2, 1, 0, 0, 0, 0, 0, 0), (44, .iload_n 3, 1, 0, 0, 0, 0, 0, 0), (45, .iload 4, 2, 0, 0, 0, 0, 0, 0), (47, .iconst 0, 1, 0, 0, 0, 0, 0, 0), (48, .invokevirtual 46, 3, 103, 4, 3, 711, 0, 20), (51, .iinc 4 1, 3, 0, 0, 0, 0, 0, 0), (54, .goto (-37), 3, 17, 0, 0, 0, 0, 0), (57, .iinc 3 1, 3, 0, 0, 0, 0, 0, 0), (60, .goto (-54), 3, 6, 0, 0, 0, 0, 0), (63, .return_, 1, 0, 0, 0, 0, 0, 0)]
set_option maxRecDepth 100000 in
theorem jk_X2_tellMatches : ji_X2_tellMatches.all (jck 12) = true := by decide +kernel
def ji_X2_tellCover : List JI := [(0, .aload_n 0, 1, 0, 0, 0, 0, 0, 0), (1, .aload_n 1, 1, 0, 0, 0, 0, 0, 0), (2, .invokevirtual 50, 3, 14, 2, 3, 918, 0, 12), (5, .aload_n 0, 1, 0, 0, 0, 0, 0, 0), (6, .getfield 17, 3, 301, 1, 2, 289, 0, 12), (9, .iconst 0, 1, 0, 0, 0, 0, 0, 0), (10, .iaload, 1, 0, 0, 0, 0, 0, 0), (11, .iconst (-1), 1, 0, 0, 0, 0, 0, 0), (12, .if_icmp .ne 5, 3, 17, 0, 0, 0, 0, 0), (15, .iconst 0, 1, 0, 0, 0, 0, 0, 0), (16, .ireturn, 1, 0, 5, 0, 0, 0, 0), (17, .aload_n 2, 1, 0, 0, 0, 0, 0, 0), (18, .invokevirtual 32, 3, 101, 1, 3, 706, 0, 20), (21, .iconst 0, 1, 0, 0, 0, 0, 0, 0), (22, .istore_n 3, 1, 0, 0, 0, 0, 0, 0), (23, .aload_n 0, 1, 0, 0, 0, 0, 0, 0), (24, .getfield 17, 3, 301, 1, 2, 289, 0, 12), (27, .iconst 0, 1, 0, 0, 0, 0, 0, 0), (28, .iaload, 1, 0, 0, 0, 0, 0, 0), (29, .istore 4, 2, 0, 0, 0, 0, 0, 0), (31, .iload 4, 2, 0, 0, 0, 0, 0, 0), (33, .ifCond .le 44, 3, 77, 0, 0, 0, 0, 0), (36, .aload_n 0, 1, 0, 0, 0, 0, 0, 0), (37, .aload_n 1, 1, 0, 0, 0, 0, 0, 0), (38, .iload_n 3, 1, 0, 0, 0, 0, 0, 0), (39, .invokevirtual 53, 3, 15, 3, 0, 922, 0, 12), (42, .istore 5, 2, 0, 0, 0, 0, 0, 0), (44, .iload 5, 2, 0, 0, 0, 0, 0, 0), (46, .iconst (-1), 1, 0, 0, 0, 0, 0, 0), (47, .if_icmp .eq 24, 3, 71, 0, 0, 0, 0, 0), (50, .aload_n 2, 1, 0, 0, 0, 0, 0, 0), (51, .iload 5, 2, 0, 0, 0, 0, 0, 0), (53, .iconst 0, 1, 0, 0, 0, 0, 0, 0), (54, .iconst 0, 1, 0, 0, 0, 0, 0, 0), (55, .invokevirtual 46, 3, 103, 4, 3, 711, 0, 20), (58, .iload_n 3, 1, 0, 0, 0, 0, 0, 0), (59, .aload_n 0, 1, 0, 0, 0, 0, 0, 0), (60, .getfield 11, 3, 300, 1, 2, 288, 0, 12), (63, .iload 5, 2, 0, 0, 0, 0, 0, 0), (65, .aaload, 1, 0, 0, 0, 0, 0, 0), (66, .getfield 37, 3, 2901, 0, 9, 123, 0, 19), (69, .iadd, 1, 0, 0, 0, 0, 0, 0), (70, .istore_n 3, 1, 0, 0, 0, 0, 0, 0), (71, .iinc 4 (-1), 3, 0, 0, 0, 0, 0, 0), (74, .goto (-43), 3, 31, 0, 0, 0, 0, 0), (77, .iconst 1, 1, 0, 0, 0, 0, 0, 0), (78, .ireturn, 1, 0, 5, 0, 0, 0, 0)]
set_option maxRecDepth 100000 in
theorem jk_X2_tellCover : ji_X2_tellCover.all (jck 13) = true := by decide +kernel
def ji_X2_measureRests : List JI := [(0, .aload_n 0, 1, 0, 0, 0, 0, 0, 0), (1, .getfield 17, 3, 301, 1, 2, 289, 0, 12), (4, .aload_n 1, 1, 0, 0, 0, 0, 0, 0), (5, .getfield 37, 3, 2901, 0, 9, 123, 0, 19), (8, .iconst 0, 1, 0, 0, 0, 0, 0, 0), (9, .iastore, 1, 0, 0, 0, 0, 0, 0), (10, .aload_n 1, 1, 0, 0, 0, 0, 0, 0), (11, .getfield 37, 3, 2901, 0, 9, 123, 0, 19), (14, .iconst 1, 1, 0, 0, 0, 0, 0, 0), (15, .isub, 1, 0, 0, 0, 0, 0, 0), (16, .istore_n 2, 1, 0, 0, 0, 0, 0, 0), (17, .iload_n 2, 1, 0, 0, 0, 0, 0, 0), (18, .ifCond .lt 105, 3, 123, 0, 0, 0, 0, 0), (21, .aload_n 0, 1, 0, 0, 0, 0, 0, 0), (22, .getfield 17, 3, 301, 1, 2, 289, 0, 12), (25, .iload_n 2, 1, 0, 0, 0, 0, 0, 0), (26, .iconst (-1), 1, 0, 0, 0, 0, 0, 0), (27, .iastore, 1, 0, 0, 0, 0, 0, 0), (28, .iconst 0, 1, 0, 0, 0, 0, 0, 0), (29, .istore_n 3, 1, 0, 0, 0, 0, 0, 0), (30, .iload_n 3, 1, 0, 0, 0, 0, 0, 0), (31, .aload_n 0, 1, 0, 0, 0, 0, 0, 0), (32, .getfield 24, 3, 2202, 0, 2, 290, 0, 12), (35, .if_icmp .ge 82, 3, 117, 0, 0, 0, 0, 0), (38, .aload_n 1, 1, 0, 0, 0, 0, 0, 0), (39, .iload_n 2, 1, 0, 0, 0, 0, 0, 0), (40, .aload_n 0, 1, 0, 0, 0, 0, 0, 0), (41, .getfield 11, 3, 300, 1, 2, 288, 0, 12), (44, .iload_n 3, 1, 0, 0, 0, 0, 0, 0), (45, .aaload, 1, 0, 0, 0, 0, 0, 0), (46, .iconst (-1), 1, 0, 0, 0, 0, 0, 0), (47, .iconst 0, 1, 0, 0, 0, 0, 0, 0), (48, .invokestatic 40, 3, 17, 5, 0, 710, 0, 0), (51, .ifCond .eq 60, 3, 111, 0, 0, 0, 0, 0), (54, .aload_n 0, 1, 0, 0, 0, 0, 0, 0), (55, .getfield 17, 3, 301, 1, 2, 289, 0, 12), (58, .iload_n 2, 1, 0, 0, 0, 0, 0, 0), (59, .aload_n 0, 1, 0, 0, 0, 0, 0, 0), (60, .getfield 11, 3, 300, 1, 2, 288, 0, 12), (63, .iload_n 3, 1, 0, 0, 0, 0, 0, 0), (64, .aaload, 1, 0, 0, 0, 0, 0, 0), (65, .getfield 37, 3, 2901, 0, 9, 123, 0, 19), (68, .iadd, 1, 0, 0, 0, 0, 0, 0), (69, .iaload, 1, 0, 0, 0, 0, 0, 0), (70, .istore 4, 2, 0, 0, 0, 0, 0, 0), (72, .iload 4, 2, 0, 0, 0, 0, 0, 0), (74, .iconst (-1), 1, 0, 0, 0, 0, 0, 0), (75, .if_icmp .eq 36, 3, 111, 0, 0, 0, 0, 0), (78, .aload_n 0, 1, 0, 0, 0, 0, 0, 0), (79, .getfield 17, 3, 301, 1, 2, 289, 0, 12), (82, .iload_n 2, 1, 0, 0, 0, 0, 0, 0), (83, .iaload, 1, 0, 0, 0, 0, 0, 0), (84, .iconst (-1), 1, 0, 0, 0, 0, 0, 0), (85, .if_icmp .eq 16, 3, 101, 0, 0, 0, 0, 0), (88, .iload 4, 2, 0, 0, 0, 0, 0, 0), (90, .iconst 1, 1, 0, 0, 0, 0, 0, 0), (91, .iadd, 1, 0, 0, 0, 0, 0, 0), (92, .aload_n 0, 1, 0, 0, 0, 0, 0, 0), (93, .getfield 17, 3, 301, 1, 2, 289, 0, 12), (96, .iload_n 2, 1, 0, 0, 0, 0, 0, 0), (97, .iaload, 1, 0, 0, 0, 0, 0, 0), (98, .if_icmp .ge 13, 3, 111, 0, 0, 0, 0, 0), (101, .aload_n 0, 1, 0, 0, 0, 0, 0, 0), (102, .getfield 17, 3, 301, 1, 2, 289, 0, 12), (105, .iload_n 2, 1, 0, 0, 0, 0, 0, 0), (106, .iload 4, 2, 0, 0, 0, 0, 0, 0), (108, .iconst 1, 1, 0, 0, 0, 0, 0, 0), (109, .iadd, 1, 0, 0, 0, 0, 0, 0), (110, .iastore, 1, 0, 0, 0, 0, 0, 0), (111, .iinc 3 1, 3, 0, 0, 0, 0, 0, 0), (114, .goto (-84), 3, 30, 0, 0, 0, 0, 0), (117, .iinc 2 (-1), 3, 0, 0, 0, 0, 0, 0), (120, .goto (-103), 3, 17, 0, 0, 0, 0, 0), (123, .return_, 1, 0, 0, 0, 0, 0, 0)]
set_option maxRecDepth 100000 in
theorem jk_X2_measureRests : ji_X2_measureRests.all (jck 14) = true := by decide +kernel
def ji_X2_firstOfLeast : List JI := [(0, .iconst 0, 1, 0, 0, 0, 0, 0, 0), (1, .istore_n 3, 1, 0, 0, 0, 0, 0, 0), (2, .iload_n 3, 1, 0, 0, 0, 0, 0, 0), (3, .aload_n 0, 1, 0, 0, 0, 0, 0, 0), (4, .getfield 24, 3, 2202, 0, 2, 290, 0, 12), (7, .if_icmp .ge 54, 3, 61, 0, 0, 0, 0, 0), (10, .aload_n 1, 1, 0, 0, 0, 0, 0, 0), (11, .iload_n 2, 1, 0, 0, 0, 0, 0, 0), (12, .aload_n 0, 1, 0, 0, 0, 0, 0, 0), (13, .getfield 11, 3, 300, 1, 2, 288, 0, 12), (16, .iload_n 3, 1, 0, 0, 0, 0, 0, 0), (17, .aaload, 1, 0, 0, 0, 0, 0, 0), (18, .iconst (-1), 1, 0, 0, 0, 0, 0, 0), (19, .iconst 0, 1, 0, 0, 0, 0, 0, 0), (20, .invokestatic 40, 3, 17, 5, 0, 710, 0, 0), (23, .ifCond .eq 32, 3, 55, 0, 0, 0, 0, 0), (26, .aload_n 0, 1, 0, 0, 0, 0, 0, 0), (27, .getfield 17, 3, 301, 1, 2, 289, 0, 12), (30, .iload_n 2, 1, 0, 0, 0, 0, 0, 0), (31, .aload_n 0, 1, 0, 0, 0, 0, 0, 0), (32, .getfield 11, 3, 300, 1, 2, 288, 0, 12), (35, .iload_n 3, 1, 0, 0, 0, 0, 0, 0), (36, .aaload, 1, 0, 0, 0, 0, 0, 0), (37, .getfield 37, 3, 2901, 0, 9, 123, 0, 19), (40, .iadd, 1, 0, 0, 0, 0, 0, 0), (41, .iaload, 1, 0, 0, 0, 0, 0, 0), (42, .aload_n 0, 1, 0, 0, 0, 0, 0, 0), (43, .getfield 17, 3, 301, 1, 2, 289, 0, 12), (46, .iload_n 2, 1, 0, 0, 0, 0, 0, 0), (47, .iaload, 1, 0, 0, 0, 0, 0, 0), (48, .iconst 1, 1, 0, 0, 0, 0, 0, 0), (49, .isub, 1, 0, 0, 0, 0, 0, 0), (50, .if_icmp .ne 5, 3, 55, 0, 0, 0, 0, 0), (53, .iload_n 3, 1, 0, 0, 0, 0, 0, 0), (54, .ireturn, 1, 0, 0, 0, 0, 0, 0), (55, .iinc 3 1, 3, 0, 0, 0, 0, 0, 0), (58, .goto (-56), 3, 2, 0, 0, 0, 0, 0), (61, .iconst (-1), 1, 0, 0, 0, 0, 0, 0), (62, .ireturn, 1, 0, 0, 0, 0, 0, 0)]
set_option maxRecDepth 100000 in
theorem jk_X2_firstOfLeast : ji_X2_firstOfLeast.all (jck 15) = true := by decide +kernel
def ji_X3_init : List JI := [(0, .aload_n 0, 1, 0, 0, 0, 0, 0, 0), (1, .invokespecial 3, 3, 1000, 1, 0, 236, 0, 0), (4, .aload_n 0, 1, 0, 0, 0, 0, 0, 0), (5, .sipush 241, 3, 0, 0, 0, 0, 0, 0), (8, .newarray .int, 2, 0, 0, 0, 133, 0, 1), (10, .putfield 9, 3, 400, 1, 3, 239, 0, 13), (13, .aload_n 0, 1, 0, 0, 0, 0, 0, 0), (14, .sipush 240, 3, 0, 0, 0, 0, 0, 0), (17, .newarray .int, 2, 0, 0, 0, 133, 0, 1), (19, .putfield 15, 3, 401, 1, 3, 240, 0, 13), (22, .aload_n 0, 1, 0, 0, 0, 0, 0, 0), (23, .sipush 240, 3, 0, 0, 0, 0, 0, 0), (26, .newarray .int, 2, 0, 0, 0, 133, 0, 1), (28, .putfield 18, 3, 402, 1, 3, 241, 0, 13), (31, .aload_n 0, 1, 0, 0, 0, 0, 0, 0), (32, .new 21, 3, 71, 2, 9, 237, 102, 19), (35, .dup, 1, 0, 0, 0, 0, 0, 0), (36, .sipush 240, 3, 0, 0, 0, 0, 0, 0), (39, .invokespecial 23, 3, 83, 2, 3, 238, 0, 0), (42, .putfield 26, 3, 403, 1, 3, 242, 0, 13), (45, .return_, 1, 0, 0, 0, 0, 0, 0)]
set_option maxRecDepth 100000 in
theorem jk_X3_init : ji_X3_init.all (jck 16) = true := by decide +kernel
def ji_X3_fits : List JI := [(0, .iload_n 1, 1, 0, 0, 0, 0, 0, 0), (1, .ifCond .lt 16, 3, 17, 0, 0, 0, 0, 0), (4, .aload_n 2, 1, 0, 0, 0, 0, 0, 0), (5, .getfield 30, 3, 2901, 0, 9, 118, 0, 19), (8, .aload_n 0, 1, 0, 0, 0, 0, 0, 0), (9, .getfield 30, 3, 2901, 0, 9, 118, 0, 19), (12, .iload_n 1, 1, 0, 0, 0, 0, 0, 0), (13, .isub, 1, 0, 0, 0, 0, 0, 0), (14, .if_icmp .le 5, 3, 19, 0, 0, 0, 0, 0), (17, .iconst 0, 1, 0, 0, 0, 0, 0, 0), (18, .ireturn, 1, 0, 5, 0, 0, 0, 0), (19, .iconst 0, 1, 0, 0, 0, 0, 0, 0), (20, .istore 5, 2, 0, 0, 0, 0, 0, 0), (22, .iconst 0, 1, 0, 0, 0, 0, 0, 0), (23, .istore 6, 2, 0, 0, 0, 0, 0, 0), (25, .iload 6, 2, 0, 0, 0, 0, 0, 0), (27, .aload_n 2, 1, 0, 0, 0, 0, 0, 0), (28, .getfield 30, 3, 2901, 0, 9, 118, 0, 19), (31, .if_icmp .ge 60, 3, 91, 0, 0, 0, 0, 0), (34, .aload_n 0, 1, 0, 0, 0, 0, 0, 0), (35, .getfield 34, 3, 1000, 1, 9, 111, 0, 19), (38, .iload_n 1, 1, 0, 0, 0, 0, 0, 0), (39, .iload 6, 2, 0, 0, 0, 0, 0, 0), (41, .iadd, 1, 0, 0, 0, 0, 0, 0), (42, .iaload, 1, 0, 0, 0, 0, 0, 0), (43, .istore 7, 2, 0, 0, 0, 0, 0, 0), (45, .aload_n 2, 1, 0, 0, 0, 0, 0, 0), (46, .getfield 34, 3, 1000, 1, 9, 111, 0, 19), (49, .iload 6, 2, 0, 0, 0, 0, 0, 0), (51, .iaload, 1, 0, 0, 0, 0, 0, 0), (52, .istore 8, 2, 0, 0, 0, 0, 0, 0), (54, .iload 7, 2, 0, 0, 0, 0, 0, 0), (56, .iload 8, 2, 0, 0, 0, 0, 0, 0), (58, .if_icmp .eq 27, 3, 85, 0, 0, 0, 0, 0), (61, .iload 7, 2, 0, 0, 0, 0, 0, 0), (63, .iload_n 3, 1, 0, 0, 0, 0, 0, 0), (64, .if_icmp .eq 21, 3, 85, 0, 0, 0, 0, 0), (67, .iload 8, 2, 0, 0, 0, 0, 0, 0), (69, .iload_n 3, 1, 0, 0, 0, 0, 0, 0), (70, .if_icmp .eq 15, 3, 85, 0, 0, 0, 0, 0), (73, .iinc 5 1, 3, 0, 0, 0, 0, 0, 0), (76, .iload 5, 2, 0, 0, 0, 0, 0, 0), (78, .iload 4, 2, 0, 0, 0, 0, 0, 0), (80, .if_icmp .le 5, 3, 85, 0, 0, 0, 0, 0), (83, .iconst 0, 1, 0, 0, 0, 0, 0, 0), (84, .ireturn, 1, 0, 5, 0, 0, 0, 0), (85, .iinc 6 1, 3, 0, 0, 0, 0, 0, 0), (88, .goto (-63), 3, 25, 0, 0, 0, 0, 0), (91, .iconst 1, 1, 0, 0, 0, 0, 0, 0), (92, .ireturn, 1, 0, 5, 0, 0, 0, 0)]
set_option maxRecDepth 100000 in
theorem jk_X3_fits : ji_X3_fits.all (jck 17) = true := by decide +kernel
def ji_X3_placeOf : List JI := [(0, .iconst 0, 1, 0, 0, 0, 0, 0, 0), (1, .istore 5, 2, 0, 0, 0, 0, 0, 0), (3, .iconst 0, 1, 0, 0, 0, 0, 0, 0), (4, .istore 6, 2, 0, 0, 0, 0, 0, 0), (6, .iload 6, 2, 0, 0, 0, 0, 0, 0), (8, .aload_n 0, 1, 0, 0, 0, 0, 0, 0), (9, .getfield 30, 3, 2901, 0, 9, 118, 0, 19), (12, .aload_n 1, 1, 0, 0, 0, 0, 0, 0), (13, .getfield 30, 3, 2901, 0, 9, 118, 0, 19), (16, .isub, 1, 0, 0, 0, 0, 0, 0), (17, .if_icmp .gt 34, 3, 51, 0, 0, 0, 0, 0), (20, .aload_n 0, 1, 0, 0, 0, 0, 0, 0), (21, .iload 6, 2, 0, 0, 0, 0, 0, 0), (23, .aload_n 1, 1, 0, 0, 0, 0, 0, 0), (24, .iload_n 2, 1, 0, 0, 0, 0, 0, 0), (25, .iload_n 3, 1, 0, 0, 0, 0, 0, 0), (26, .invokestatic 37, 3, 17, 5, 0, 671, 0, 0), (29, .ifCond .eq 16, 3, 45, 0, 0, 0, 0, 0), (32, .iload 5, 2, 0, 0, 0, 0, 0, 0), (34, .iload 4, 2, 0, 0, 0, 0, 0, 0), (36, .if_icmp .ne 6, 3, 42, 0, 0, 0, 0, 0), (39, .iload 6, 2, 0, 0, 0, 0, 0, 0), (41, .ireturn, 1, 0, 0, 0, 0, 0, 0), (42, .iinc 5 1, 3, 0, 0, 0, 0, 0, 0), (45, .iinc 6 1, 3, 0, 0, 0, 0, 0, 0), (48, .goto (-42), 3, 6, 0, 0, 0, 0, 0), (51, .iconst (-1), 1, 0, 0, 0, 0, 0, 0), (52, .ireturn, 1, 0, 0, 0, 0, 0, 0)]
set_option maxRecDepth 100000 in
theorem jk_X3_placeOf : ji_X3_placeOf.all (jck 18) = true := by decide +kernel
def ji_X3_placesOf : List JI := [(0, .iconst 0, 1, 0, 0, 0, 0, 0, 0), (1, .istore_n 2, 1, 0, 0, 0, 0, 0, 0), (2, .iconst 0, 1, 0, 0, 0, 0, 0, 0), (3, .istore_n 3, 1, 0, 0, 0, 0, 0, 0), (4, .iload_n 3, 1, 0, 0, 0, 0, 0, 0), (5, .aload_n 0, 1, 0, 0, 0, 0, 0, 0), (6, .getfield 30, 3, 2901, 0, 9, 118, 0, 19), (9, .aload_n 1, 1, 0, 0, 0, 0, 0, 0), (10, .getfield 30, 3, 2901, 0, 9, 118, 0, 19), (13, .isub, 1, 0, 0, 0, 0, 0, 0), (14, .if_icmp .gt 23, 3, 37, 0, 0, 0, 0, 0), (17, .aload_n 0, 1, 0, 0, 0, 0, 0, 0), (18, .iload_n 3, 1, 0, 0, 0, 0, 0, 0), (19, .aload_n 1, 1, 0, 0, 0, 0, 0, 0), (20, .iconst (-1), 1, 0, 0, 0, 0, 0, 0), (21, .iconst 0, 1, 0, 0, 0, 0, 0, 0), (22, .invokestatic 37, 3, 17, 5, 0, 671, 0, 0), (25, .ifCond .eq 6, 3, 31, 0, 0, 0, 0, 0), (28, .iinc 2 1, 3, 0, 0, 0, 0, 0, 0), (31, .iinc 3 1, 3, 0, 0, 0, 0, 0, 0), (34, .goto (-30), 3, 4, 0, 0, 0, 0, 0), (37, .iload_n 2, 1, 0, 0, 0, 0, 0, 0), (38, .ireturn, 1, 0, 0, 0, 0, 0, 0)]
set_option maxRecDepth 100000 in
theorem jk_X3_placesOf : ji_X3_placesOf.all (jck 19) = true := by decide +kernel
def ji_X3_measureShared : List JI := [(0, .aload_n 0, 1, 0, 0, 0, 0, 0, 0), (1, .iconst 0, 1, 0, 0, 0, 0, 0, 0), (2, .putfield 41, 3, 2305, 0, 3, 244, 0, 13), (5, .aload_n 0, 1, 0, 0, 0, 0, 0, 0), (6, .iconst 0, 1, 0, 0, 0, 0, 0, 0), (7, .putfield 44, 3, 2306, 0, 3, 246, 0, 13), (10, .aload_n 0, 1, 0, 0, 0, 0, 0, 0), (11, .iconst 0, 1, 0, 0, 0, 0, 0, 0), (12, .putfield 47, 3, 2307, 0, 3, 248, 0, 13), (15, .iconst 0, 1, 0, 0, 0, 0, 0, 0), (16, .istore_n 3, 1, 0, 0, 0, 0, 0, 0), (17, .iload_n 3, 1, 0, 0, 0, 0, 0, 0), (18, .aload_n 2, 1, 0, 0, 0, 0, 0, 0), (19, .getfield 30, 3, 2901, 0, 9, 118, 0, 19), (22, .if_icmp .gt 16, 3, 38, 0, 0, 0, 0, 0), (25, .aload_n 0, 1, 0, 0, 0, 0, 0, 0), (26, .getfield 9, 3, 400, 1, 3, 239, 0, 13), (29, .iload_n 3, 1, 0, 0, 0, 0, 0, 0), (30, .iconst 0, 1, 0, 0, 0, 0, 0, 0), (31, .iastore, 1, 0, 0, 0, 0, 0, 0), (32, .iinc 3 1, 3, 0, 0, 0, 0, 0, 0), (35, .goto (-18), 3, 17, 0, 0, 0, 0, 0), (38, .aload_n 1, 1, 0, 0, 0, 0, 0, 0), (39, .getfield 30, 3, 2901, 0, 9, 118, 0, 19), (42, .iconst 1, 1, 0, 0, 0, 0, 0, 0), (43, .isub, 1, 0, 0, 0, 0, 0, 0), (44, .istore_n 3, 1, 0, 0, 0, 0, 0, 0), (45, .iload_n 3, 1, 0, 0, 0, 0, 0, 0), (46, .ifCond .lt 127, 3, 173, 0, 0, 0, 0, 0), (49, .iconst 0, 1, 0, 0, 0, 0, 0, 0), (50, .istore 4, 2, 0, 0, 0, 0, 0, 0), (52, .iconst 0, 1, 0, 0, 0, 0, 0, 0), (53, .istore 5, 2, 0, 0, 0, 0, 0, 0), (55, .iconst 0, 1, 0, 0, 0, 0, 0, 0), (56, .istore 6, 2, 0, 0, 0, 0, 0, 0), (58, .iload 6, 2, 0, 0, 0, 0, 0, 0), (60, .aload_n 2, 1, 0, 0, 0, 0, 0, 0), (61, .getfield 30, 3, 2901, 0, 9, 118, 0, 19), (64, .if_icmp .ge 72, 3, 136, 0, 0, 0, 0, 0), (67, .aload_n 0, 1, 0, 0, 0, 0, 0, 0), (68, .getfield 9, 3, 400, 1, 3, 239, 0, 13), (71, .iload 6, 2, 0, 0, 0, 0, 0, 0), (73, .aload_n 1, 1, 0, 0, 0, 0, 0, 0), (74, .getfield 34, 3, 1000, 1, 9, 111, 0, 19), (77, .iload_n 3, 1, 0, 0, 0, 0, 0, 0), (78, .iaload, 1, 0, 0, 0, 0, 0, 0), (79, .aload_n 2, 1, 0, 0, 0, 0, 0, 0), (80, .getfield 34, 3, 1000, 1, 9, 111, 0, 19), (83, .iload 6, 2, 0, 0, 0, 0, 0, 0), (85, .iaload, 1, 0, 0, 0, 0, 0, 0), (86, .if_icmp .ne 17, 3, 103, 0, 0, 0, 0, 0), (89, .aload_n 0, 1, 0, 0, 0, 0, 0, 0), (90, .getfield 9, 3, 400, 1, 3, 239, 0, 13), (93, .iload 6, 2, 0, 0, 0, 0, 0, 0), (95, .iconst 1, 1, 0, 0, 0, 0, 0, 0), (96, .iadd, 1, 0, 0, 0, 0, 0, 0), (97, .iaload, 1, 0, 0, 0, 0, 0, 0), (98, .iconst 1, 1, 0, 0, 0, 0, 0, 0), (99, .iadd, 1, 0, 0, 0, 0, 0, 0), (100, .goto 4, 3, 104, 0, 0, 0, 0, 0), (103, .iconst 0, 1, 0, 0, 0, 0, 0, 0), (104, .iastore, 1, 0, 0, 0, 0, 0, 0), (105, .aload_n 0, 1, 0, 0, 0, 0, 0, 0), (106, .getfield 9, 3, 400, 1, 3, 239, 0, 13), (109, .iload 6, 2, 0, 0, 0, 0, 0, 0), (111, .iaload, 1, 0, 0, 0, 0, 0, 0), (112, .iload 4, 2, 0, 0, 0, 0, 0, 0), (114, .if_icmp .le 16, 3, 130, 0, 0, 0, 0, 0), (117, .aload_n 0, 1, 0, 0, 0, 0, 0, 0), (118, .getfield 9, 3, 400, 1, 3, 239, 0, 13), (121, .iload 6, 2, 0, 0, 0, 0, 0, 0), (123, .iaload, 1, 0, 0, 0, 0, 0, 0), (124, .istore 4, 2, 0, 0, 0, 0, 0, 0), (126, .iload 6, 2, 0, 0, 0, 0, 0, 0), (128, .istore 5, 2, 0, 0, 0, 0, 0, 0), (130, .iinc 6 1, 3, 0, 0, 0, 0, 0, 0), (133, .goto (-75), 3, 58, 0, 0, 0, 0, 0), (136, .iload 4, 2, 0, 0, 0, 0, 0, 0), (138, .ifCond .le 29, 3, 167, 0, 0, 0, 0, 0), (141, .iload 4, 2, 0, 0, 0, 0, 0, 0), (143, .aload_n 0, 1, 0, 0, 0, 0, 0, 0), (144, .getfield 41, 3, 2305, 0, 3, 244, 0, 13), (147, .if_icmp .lt 20, 3, 167, 0, 0, 0, 0, 0), (150, .aload_n 0, 1, 0, 0, 0, 0, 0, 0), (151, .iload 4, 2, 0, 0, 0, 0, 0, 0), (153, .putfield 41, 3, 2305, 0, 3, 244, 0, 13), (156, .aload_n 0, 1, 0, 0, 0, 0, 0, 0), (157, .iload_n 3, 1, 0, 0, 0, 0, 0, 0), (158, .putfield 44, 3, 2306, 0, 3, 246, 0, 13), (161, .aload_n 0, 1, 0, 0, 0, 0, 0, 0), (162, .iload 5, 2, 0, 0, 0, 0, 0, 0), (164, .putfield 47, 3, 2307, 0, 3, 248, 0, 13), (167, .iinc 3 (-1), 3, 0, 0, 0, 0, 0, 0), (170, .goto (-125), 3, 45, 0, 0, 0, 0, 0), (173, .return_, 1, 0, 0, 0, 0, 0, 0)]
set_option maxRecDepth 100000 in
theorem jk_X3_measureShared : ji_X3_measureShared.all (jck 20) = true := by decide +kernel
def ji_X3_missingIn : List JI := [(0, .aload_n 0, 1, 0, 0, 0, 0, 0, 0), (1, .aload_n 1, 1, 0, 0, 0, 0, 0, 0), (2, .invokevirtual 50, 3, 22, 2, 3, 891, 0, 13), (5, .iconst 2, 1, 0, 0, 0, 0, 0, 0), (6, .istore_n 2, 1, 0, 0, 0, 0, 0, 0), (7, .iload_n 2, 1, 0, 0, 0, 0, 0, 0), (8, .sipush 240, 3, 0, 0, 0, 0, 0, 0), (11, .if_icmp .gt 23, 3, 34, 0, 0, 0, 0, 0), (14, .aload_n 0, 1, 0, 0, 0, 0, 0, 0), (15, .aload_n 1, 1, 0, 0, 0, 0, 0, 0), (16, .iload_n 2, 1, 0, 0, 0, 0, 0, 0), (17, .invokevirtual 54, 3, 23, 3, 0, 896, 0, 13), (20, .ifCond .eq 8, 3, 28, 0, 0, 0, 0, 0), (23, .aload_n 0, 1, 0, 0, 0, 0, 0, 0), (24, .getfield 26, 3, 403, 1, 3, 242, 0, 13), (27, .areturn, 1, 0, 0, 0, 0, 0, 0), (28, .iinc 2 1, 3, 0, 0, 0, 0, 0, 0), (31, .goto (-24), 3, 7, 0, 0, 0, 0, 0), (34, .aconst_null, 1, 0, 0, 0, 0, 0, 0), (35, .areturn, 1, 0, 0, 0, 0, 0, 0)]
set_option maxRecDepth 100000 in
theorem jk_X3_missingIn : ji_X3_missingIn.all (jck 21) = true := by decide +kernel
def ji_X3_gatherLetters : List JI := [(0, .aload_n 0, 1, 0, 0, 0, 0, 0, 0), (1, .iconst 0, 1, 0, 0, 0, 0, 0, 0), (2, .putfield 58, 3, 2304, 0, 3, 243, 0, 13), (5, .iconst 0, 1, 0, 0, 0, 0, 0, 0), (6, .istore_n 2, 1, 0, 0, 0, 0, 0, 0), (7, .iload_n 2, 1, 0, 0, 0, 0, 0, 0), (8, .aload_n 1, 1, 0, 0, 0, 0, 0, 0), (9, .getfield 30, 3, 2901, 0, 9, 118, 0, 19), (12, .if_icmp .ge 119, 3, 131, 0, 0, 0, 0, 0), (15, .aload_n 1, 1, 0, 0, 0, 0, 0, 0), (16, .getfield 34, 3, 1000, 1, 9, 111, 0, 19), (19, .iload_n 2, 1, 0, 0, 0, 0, 0, 0), (20, .iaload, 1, 0, 0, 0, 0, 0, 0), (21, .istore_n 3, 1, 0, 0, 0, 0, 0, 0), (22, .iconst 0, 1, 0, 0, 0, 0, 0, 0), (23, .istore 4, 2, 0, 0, 0, 0, 0, 0), (25, .iload 4, 2, 0, 0, 0, 0, 0, 0), (27, .aload_n 0, 1, 0, 0, 0, 0, 0, 0), (28, .getfield 58, 3, 2304, 0, 3, 243, 0, 13), (31, .if_icmp .ge 20, 3, 51, 0, 0, 0, 0, 0), (34, .aload_n 0, 1, 0, 0, 0, 0, 0, 0), (35, .getfield 15, 3, 401, 1, 3, 240, 0, 13), (38, .iload 4, 2, 0, 0, 0, 0, 0, 0), (40, .iaload, 1, 0, 0, 0, 0, 0, 0), (41, .iload_n 3, 1, 0, 0, 0, 0, 0, 0), (42, .if_icmp .ge 9, 3, 51, 0, 0, 0, 0, 0), (45, .iinc 4 1, 3, 0, 0, 0, 0, 0, 0), (48, .goto (-23), 3, 25, 0, 0, 0, 0, 0), (51, .aload_n 0, 1, 0, 0, 0, 0, 0, 0), (52, .getfield 58, 3, 2304, 0, 3, 243, 0, 13), (55, .aload_n 0, 1, 0, 0, 0, 0, 0, 0), (56, .getfield 15, 3, 401, 1, 3, 240, 0, 13), (59, .arraylength, 1, 0, 0, 0, 0, 0, 0), (60, .if_icmp .ge 65, 3, 125, 0, 0, 0, 0, 0), (63, .iload 4, 2, 0, 0, 0, 0, 0, 0), (65, .aload_n 0, 1, 0, 0, 0, 0, 0, 0), (66, .getfield 58, 3, 2304, 0, 3, 243, 0, 13), (69, .if_icmp .eq 14, 3, 83, 0, 0, 0, 0, 0), (72, .aload_n 0, 1, 0, 0, 0, 0, 0, 0), (73, .getfield 15, 3, 401, 1, 3, 240, 0, 13), (76, .iload 4, 2, 0, 0, 0, 0, 0, 0), (78, .iaload, 1, 0, 0, 0, 0, 0, 0), (79, .iload_n 3, 1, 0, 0, 0, 0, 0, 0), (80, .if_icmp .eq 45, 3, 125, 0, 0, 0, 0, 0), (83, .aload_n 0, 1, 0, 0, 0, 0, 0, 0), (84, .getfield 15, 3, 401, 1, 3, 240, 0, 13), (87, .iload 4, 2, 0, 0, 0, 0, 0, 0), (89, .aload_n 0, 1, 0, 0, 0, 0, 0, 0), (90, .getfield 15, 3, 401, 1, 3, 240, 0, 13), (93, .iload 4, 2, 0, 0, 0, 0, 0, 0), (95, .iconst 1, 1, 0, 0, 0, 0, 0, 0), (96, .iadd, 1, 0, 0, 0, 0, 0, 0), (97, .aload_n 0, 1, 0, 0, 0, 0, 0, 0), (98, .getfield 58, 3, 2304, 0, 3, 243, 0, 13), (101, .iload 4, 2, 0, 0, 0, 0, 0, 0), (103, .isub, 1, 0, 0, 0, 0, 0, 0), (104, .invokestatic 61, 3, 1003, 5, 0, 895, 0, 0), (107, .aload_n 0, 1, 0, 0, 0, 0, 0, 0), (108, .getfield 15, 3, 401, 1, 3, 240, 0, 13), (111, .iload 4, 2, 0, 0, 0, 0, 0, 0), (113, .iload_n 3, 1, 0, 0, 0, 0, 0, 0), (114, .iastore, 1, 0, 0, 0, 0, 0, 0), (115, .aload_n 0, 1, 0, 0, 0, 0, 0, 0), (116, .dup, 1, 0, 0, 0, 0, 0, 0), (117, .getfield 58, 3, 2304, 0, 3, 243, 0, 13), (120, .iconst 1, 1, 0, 0, 0, 0, 0, 0), (121, .iadd, 1, 0, 0, 0, 0, 0, 0), (122, .putfield 58, 3, 2304, 0, 3, 243, 0, 13), (125, .iinc 2 1, 3, 0, 0, 0, 0, 0, 0), (128, .goto (-121), 3, 7, 0, 0, 0, 0, 0), (131, .return_, 1, 0, 0, 0, 0, 0, 0)]
set_option maxRecDepth 100000 in
theorem jk_X3_gatherLetters : ji_X3_gatherLetters.all (jck 22) = true := by decide +kernel
def ji_X3_findMissing : List JI := [(0, .iconst 0, 1, 0, 0, 0, 0, 0, 0), (1, .istore_n 3, 1, 0, 0, 0, 0, 0, 0), (2, .iload_n 3, 1, 0, 0, 0, 0, 0, 0), (3, .iload_n 2, 1, 0, 0, 0, 0, 0, 0), (4, .if_icmp .ge 16, 3, 20, 0, 0, 0, 0, 0), (7, .aload_n 0, 1, 0, 0, 0, 0, 0, 0), (8, .getfield 18, 3, 402, 1, 3, 241, 0, 13), (11, .iload_n 3, 1, 0, 0, 0, 0, 0, 0), (12, .iconst 0, 1, 0, 0, 0, 0, 0, 0), (13, .iastore, 1, 0, 0, 0, 0, 0, 0), (14, .iinc 3 1, 3, 0, 0, 0, 0, 0, 0), (17, .goto (-15), 3, 2, 0, 0, 0, 0, 0), (20, .iconst 0, 1, 0, 0, 0, 0, 0, 0), (21, .istore_n 3, 1, 0, 0, 0, 0, 0, 0), (22, .iload_n 3, 1, 0, 0, 0, 0, 0, 0), (23, .sipush 240, 3, 0, 0, 0, 0, 0, 0), (26, .if_icmp .gt 41, 3, 67, 0, 0, 0, 0, 0), (29, .aload_n 0, 1, 0, 0, 0, 0, 0, 0), (30, .iload_n 2, 1, 0, 0, 0, 0, 0, 0), (31, .invokevirtual 67, 3, 24, 2, 3, 900, 0, 13), (34, .aload_n 1, 1, 0, 0, 0, 0, 0, 0), (35, .aload_n 0, 1, 0, 0, 0, 0, 0, 0), (36, .getfield 26, 3, 403, 1, 3, 242, 0, 13), (39, .iconst (-1), 1, 0, 0, 0, 0, 0, 0), (40, .iconst 0, 1, 0, 0, 0, 0, 0, 0), (41, .iconst 0, 1, 0, 0, 0, 0, 0, 0), (42, .invokestatic 70, 3, 18, 5, 0, 905, 0, 0), (45, .iconst (-1), 1, 0, 0, 0, 0, 0, 0), (46, .if_icmp .ne 5, 3, 51, 0, 0, 0, 0, 0), (49, .iconst 1, 1, 0, 0, 0, 0, 0, 0), (50, .ireturn, 1, 0, 5, 0, 0, 0, 0), (51, .aload_n 0, 1, 0, 0, 0, 0, 0, 0), (52, .iload_n 2, 1, 0, 0, 0, 0, 0, 0), (53, .invokevirtual 74, 3, 25, 2, 0, 906, 0, 13), (56, .ifCond .ne 5, 3, 61, 0, 0, 0, 0, 0), (59, .iconst 0, 1, 0, 0, 0, 0, 0, 0), (60, .ireturn, 1, 0, 5, 0, 0, 0, 0), (61, .iinc 3 1, 3, 0, 0, 0, 0, 0, 0), (64, .goto (-42), 3, 22, 0, 0, 0, 0, 0), (67, .iconst 0, 1, 0, 0, 0, 0, 0, 0), (68, .ireturn, 1, 0, 5, 0, 0, 0, 0)]
set_option maxRecDepth 100000 in
theorem jk_X3_findMissing : ji_X3_findMissing.all (jck 23) = true := by decide +kernel
def ji_X3_spellChosen : List JI := [(0, .aload_n 0, 1, 0, 0, 0, 0, 0, 0), (1, .getfield 26, 3, 403, 1, 3, 242, 0, 13), (4, .iconst 0, 1, 0, 0, 0, 0, 0, 0), (5, .putfield 30, 3, 2901, 0, 9, 118, 0, 19), (8, .iconst 0, 1, 0, 0, 0, 0, 0, 0), (9, .istore_n 2, 1, 0, 0, 0, 0, 0, 0), (10, .iload_n 2, 1, 0, 0, 0, 0, 0, 0), (11, .iload_n 1, 1, 0, 0, 0, 0, 0, 0), (12, .if_icmp .ge 27, 3, 39, 0, 0, 0, 0, 0), (15, .aload_n 0, 1, 0, 0, 0, 0, 0, 0), (16, .getfield 26, 3, 403, 1, 3, 242, 0, 13), (19, .aload_n 0, 1, 0, 0, 0, 0, 0, 0), (20, .getfield 15, 3, 401, 1, 3, 240, 0, 13), (23, .aload_n 0, 1, 0, 0, 0, 0, 0, 0), (24, .getfield 18, 3, 402, 1, 3, 241, 0, 13), (27, .iload_n 2, 1, 0, 0, 0, 0, 0, 0), (28, .iaload, 1, 0, 0, 0, 0, 0, 0), (29, .iaload, 1, 0, 0, 0, 0, 0, 0), (30, .invokevirtual 78, 3, 88, 2, 3, 904, 0, 19), (33, .iinc 2 1, 3, 0, 0, 0, 0, 0, 0), (36, .goto (-26), 3, 10, 0, 0, 0, 0, 0), (39, .return_, 1, 0, 0, 0, 0, 0, 0)]
set_option maxRecDepth 100000 in
theorem jk_X3_spellChosen : ji_X3_spellChosen.all (jck 24) = true := by decide +kernel
def ji_X3_chooseNext : List JI := [(0, .iload_n 1, 1, 0, 0, 0, 0, 0, 0), (1, .iconst 1, 1, 0, 0, 0, 0, 0, 0), (2, .isub, 1, 0, 0, 0, 0, 0, 0), (3, .istore_n 2, 1, 0, 0, 0, 0, 0, 0), (4, .iload_n 2, 1, 0, 0, 0, 0, 0, 0), (5, .ifCond .lt 43, 3, 48, 0, 0, 0, 0, 0), (8, .aload_n 0, 1, 0, 0, 0, 0, 0, 0), (9, .getfield 18, 3, 402, 1, 3, 241, 0, 13), (12, .iload_n 2, 1, 0, 0, 0, 0, 0, 0), (13, .iaload, 1, 0, 0, 0, 0, 0, 0), (14, .iconst 1, 1, 0, 0, 0, 0, 0, 0), (15, .iadd, 1, 0, 0, 0, 0, 0, 0), (16, .aload_n 0, 1, 0, 0, 0, 0, 0, 0), (17, .getfield 58, 3, 2304, 0, 3, 243, 0, 13), (20, .if_icmp .ge 15, 3, 35, 0, 0, 0, 0, 0), (23, .aload_n 0, 1, 0, 0, 0, 0, 0, 0), (24, .getfield 18, 3, 402, 1, 3, 241, 0, 13), (27, .iload_n 2, 1, 0, 0, 0, 0, 0, 0), (28, .dup2, 1, 0, 0, 0, 0, 0, 0), (29, .iaload, 1, 0, 0, 0, 0, 0, 0), (30, .iconst 1, 1, 0, 0, 0, 0, 0, 0), (31, .iadd, 1, 0, 0, 0, 0, 0, 0), (32, .iastore, 1, 0, 0, 0, 0, 0, 0), (33, .iconst 1, 1, 0, 0, 0, 0, 0, 0), (34, .ireturn, 1, 0, 5, 0, 0, 0, 0), (35, .aload_n 0, 1, 0, 0, 0, 0, 0, 0), (36, .getfield 18, 3, 402, 1, 3, 241, 0, 13), (39, .iload_n 2, 1, 0, 0, 0, 0, 0, 0), (40, .iconst 0, 1, 0, 0, 0, 0, 0, 0), (41, .iastore, 1, 0, 0, 0, 0, 0, 0), (42, .iinc 2 (-1), 3, 0, 0, 0, 0, 0, 0), (45, .goto (-41), 3, 4, 0, 0, 0, 0, 0), (48, .iconst 0, 1, 0, 0, 0, 0, 0, 0), (49, .ireturn, 1, 0, 5, 0, 0, 0, 0)]
set_option maxRecDepth 100000 in
theorem jk_X3_chooseNext : ji_X3_chooseNext.all (jck 25) = true := by decide +kernel
def ji_X4_init : List JI := [(0, .aload_n 0, 1, 0, 0, 0, 0, 0, 0), (1, .invokespecial 3, 3, 1000, 1, 0, 97, 0, 0), (4, .aload_n 0, 1, 0, 0, 0, 0, 0, 0), (5, .bipush 40, 2, 0, 0, 0, 0, 0, 0), (7, .anewarray 9, 3, 0, 0, 0, 98, 99, 3), (10, .putfield 11, 3, 500, 1, 4, 152, 0, 14), (13, .aload_n 0, 1, 0, 0, 0, 0, 0, 0), (14, .bipush 20, 2, 0, 0, 0, 0, 0, 0), (16, .anewarray 17, 3, 0, 0, 0, 100, 101, 4), (19, .putfield 19, 3, 501, 1, 4, 154, 0, 14), (22, .iconst 0, 1, 0, 0, 0, 0, 0, 0), (23, .istore_n 1, 1, 0, 0, 0, 0, 0, 0), (24, .iload_n 1, 1, 0, 0, 0, 0, 0, 0), (25, .bipush 40, 2, 0, 0, 0, 0, 0, 0), (27, .if_icmp .ge 25, 3, 52, 0, 0, 0, 0, 0), (30, .aload_n 0, 1, 0, 0, 0, 0, 0, 0), (31, .getfield 11, 3, 500, 1, 4, 152, 0, 14), (34, .iload_n 1, 1, 0, 0, 0, 0, 0, 0), (35, .new 9, 3, 71, 2, 9, 98, 102, 19), (38, .dup, 1, 0, 0, 0, 0, 0, 0), (39, .sipush 240, 3, 0, 0, 0, 0, 0, 0), (42, .invokespecial 23, 3, 83, 2, 3, 103, 0, 0), (45, .aastore, 1, 0, 0, 0, 0, 0, 0), (46, .iinc 1 1, 3, 0, 0, 0, 0, 0, 0), (49, .goto (-25), 3, 24, 0, 0, 0, 0, 0), (52, .iconst 0, 1, 0, 0, 0, 0, 0, 0), (53, .istore_n 1, 1, 0, 0, 0, 0, 0, 0), (54, .iload_n 1, 1, 0, 0, 0, 0, 0, 0), (55, .bipush 20, 2, 0, 0, 0, 0, 0, 0), (57, .if_icmp .ge 22, 3, 79, 0, 0, 0, 0, 0), (60, .aload_n 0, 1, 0, 0, 0, 0, 0, 0), (61, .getfield 19, 3, 501, 1, 4, 154, 0, 14), (64, .iload_n 1, 1, 0, 0, 0, 0, 0, 0), (65, .new 17, 3, 73, 3, 1, 100, 134, 11), (68, .dup, 1, 0, 0, 0, 0, 0, 0), (69, .invokespecial 26, 3, 9, 1, 3, 135, 0, 0), (72, .aastore, 1, 0, 0, 0, 0, 0, 0), (73, .iinc 1 1, 3, 0, 0, 0, 0, 0, 0), (76, .goto (-22), 3, 54, 0, 0, 0, 0, 0), (79, .return_, 1, 0, 0, 0, 0, 0, 0)]
set_option maxRecDepth 100000 in
theorem jk_X4_init : ji_X4_init.all (jck 26) = true := by decide +kernel
def ji_X4_look : List JI := [(0, .iload_n 1, 1, 0, 0, 0, 0, 0, 0), (1, .ifCond .lt 26, 3, 27, 0, 0, 0, 0, 0), (4, .iload_n 1, 1, 0, 0, 0, 0, 0, 0), (5, .aload_n 0, 1, 0, 0, 0, 0, 0, 0), (6, .getfield 27, 3, 2402, 0, 4, 155, 0, 14), (9, .if_icmp .ge 18, 3, 27, 0, 0, 0, 0, 0), (12, .iload_n 1, 1, 0, 0, 0, 0, 0, 0), (13, .bipush 40, 2, 0, 0, 0, 0, 0, 0), (15, .if_icmp .ge 12, 3, 27, 0, 0, 0, 0, 0), (18, .aload_n 0, 1, 0, 0, 0, 0, 0, 0), (19, .getfield 11, 3, 500, 1, 4, 152, 0, 14), (22, .iload_n 1, 1, 0, 0, 0, 0, 0, 0), (23, .aaload, 1, 0, 0, 0, 0, 0, 0), (24, .goto 4, 3, 28, 0, 0, 0, 0, 0), (27, .aconst_null, 1, 0, 0, 0, 0, 0, 0), (28, .areturn, 1, 0, 0, 0, 0, 0, 0)]
set_option maxRecDepth 100000 in
theorem jk_X4_look : ji_X4_look.all (jck 27) = true := by decide +kernel
def ji_X4_isFull : List JI := [(0, .aload_n 0, 1, 0, 0, 0, 0, 0, 0), (1, .getfield 27, 3, 2402, 0, 4, 155, 0, 14), (4, .bipush 40, 2, 0, 0, 0, 0, 0, 0), (6, .if_icmp .lt 7, 3, 13, 0, 0, 0, 0, 0), (9, .iconst 1, 1, 0, 0, 0, 0, 0, 0), (10, .goto 4, 3, 14, 0, 0, 0, 0, 0), (13, .iconst 0, 1, 0, 0, 0, 0, 0, 0), (14, .ireturn, 1, 0, 5, 0, 0, 0, 0)]
set_option maxRecDepth 100000 in
theorem jk_X4_isFull : ji_X4_isFull.all (jck 28) = true := by decide +kernel
def ji_X4_newest : List JI := [(0, .aload_n 0, 1, 0, 0, 0, 0, 0, 0), (1, .getfield 27, 3, 2402, 0, 4, 155, 0, 14), (4, .iconst 1, 1, 0, 0, 0, 0, 0, 0), (5, .isub, 1, 0, 0, 0, 0, 0, 0), (6, .ireturn, 1, 0, 0, 0, 0, 0, 0)]
set_option maxRecDepth 100000 in
theorem jk_X4_newest : ji_X4_newest.all (jck 29) = true := by decide +kernel
def ji_X4_open : List JI := [(0, .aload_n 0, 1, 0, 0, 0, 0, 0, 0), (1, .invokevirtual 31, 3, 28, 1, 0, 413, 0, 14), (4, .ifCond .eq 5, 3, 9, 0, 0, 0, 0, 0), (7, .aconst_null, 1, 0, 0, 0, 0, 0, 0), (8, .areturn, 1, 0, 0, 0, 0, 0, 0), (9, .aload_n 0, 1, 0, 0, 0, 0, 0, 0), (10, .invokevirtual 35, 3, 32, 1, 1, 417, 0, 14), (13, .astore_n 1, 1, 0, 0, 0, 0, 0, 0), (14, .aload_n 1, 1, 0, 0, 0, 0, 0, 0), (15, .iconst 1, 1, 0, 0, 0, 0, 0, 0), (16, .putfield 39, 3, 2102, 5, 1, 144, 0, 11), (19, .aload_n 1, 1, 0, 0, 0, 0, 0, 0), (20, .aload_n 0, 1, 0, 0, 0, 0, 0, 0), (21, .getfield 27, 3, 2402, 0, 4, 155, 0, 14), (24, .putfield 42, 3, 2101, 0, 1, 143, 0, 11), (27, .aload_n 0, 1, 0, 0, 0, 0, 0, 0), (28, .getfield 11, 3, 500, 1, 4, 152, 0, 14), (31, .aload_n 0, 1, 0, 0, 0, 0, 0, 0), (32, .getfield 27, 3, 2402, 0, 4, 155, 0, 14), (35, .aaload, 1, 0, 0, 0, 0, 0, 0), (36, .astore_n 2, 1, 0, 0, 0, 0, 0, 0), (37, .aload_n 2, 1, 0, 0, 0, 0, 0, 0), (38, .iconst 0, 1, 0, 0, 0, 0, 0, 0), (39, .putfield 45, 3, 2901, 0, 9, 127, 0, 19), (42, .aload_n 0, 1, 0, 0, 0, 0, 0, 0), (43, .dup, 1, 0, 0, 0, 0, 0, 0), (44, .getfield 27, 3, 2402, 0, 4, 155, 0, 14), (47, .iconst 1, 1, 0, 0, 0, 0, 0, 0), (48, .iadd, 1, 0, 0, 0, 0, 0, 0), (49, .putfield 27, 3, 2402, 0, 4, 155, 0, 14), (52, .aload_n 2, 1, 0, 0, 0, 0, 0, 0), (53, .areturn, 1, 0, 0, 0, 0, 0, 0)]
set_option maxRecDepth 100000 in
theorem jk_X4_open : ji_X4_open.all (jck 30) = true := by decide +kernel
def ji_X4_keep : List JI := [(0, .aload_n 0, 1, 0, 0, 0, 0, 0, 0), (1, .iload_n 1, 1, 0, 0, 0, 0, 0, 0), (2, .invokevirtual 48, 3, 27, 2, 1, 441, 0, 14), (5, .astore_n 2, 1, 0, 0, 0, 0, 0, 0), (6, .aload_n 2, 1, 0, 0, 0, 0, 0, 0), (7, .ifnonnull 4, 3, 11, 0, 0, 0, 0, 0), (10, .return_, 1, 0, 0, 0, 0, 0, 0), (11, .aload_n 0, 1, 0, 0, 0, 0, 0, 0), (12, .invokevirtual 35, 3, 32, 1, 1, 417, 0, 14), (15, .astore_n 3, 1, 0, 0, 0, 0, 0, 0), (16, .aload_n 3, 1, 0, 0, 0, 0, 0, 0), (17, .iconst 0, 1, 0, 0, 0, 0, 0, 0), (18, .putfield 39, 3, 2102, 5, 1, 144, 0, 11), (21, .aload_n 3, 1, 0, 0, 0, 0, 0, 0), (22, .iload_n 1, 1, 0, 0, 0, 0, 0, 0), (23, .putfield 42, 3, 2101, 0, 1, 143, 0, 11), (26, .aload_n 3, 1, 0, 0, 0, 0, 0, 0), (27, .getfield 52, 3, 200, 1, 1, 142, 0, 11), (30, .aload_n 2, 1, 0, 0, 0, 0, 0, 0), (31, .invokevirtual 56, 3, 93, 2, 3, 442, 0, 19), (34, .return_, 1, 0, 0, 0, 0, 0, 0)]
set_option maxRecDepth 100000 in
theorem jk_X4_keep : ji_X4_keep.all (jck 31) = true := by decide +kernel
def ji_X4_nextKept : List JI := [(0, .aload_n 0, 1, 0, 0, 0, 0, 0, 0), (1, .dup, 1, 0, 0, 0, 0, 0, 0), (2, .getfield 60, 3, 2405, 0, 4, 162, 0, 14), (5, .iconst 1, 1, 0, 0, 0, 0, 0, 0), (6, .iadd, 1, 0, 0, 0, 0, 0, 0), (7, .putfield 60, 3, 2405, 0, 4, 162, 0, 14), (10, .aload_n 0, 1, 0, 0, 0, 0, 0, 0), (11, .getfield 63, 3, 2404, 0, 4, 159, 0, 14), (14, .bipush 20, 2, 0, 0, 0, 0, 0, 0), (16, .if_icmp .ge 16, 3, 32, 0, 0, 0, 0, 0), (19, .aload_n 0, 1, 0, 0, 0, 0, 0, 0), (20, .dup, 1, 0, 0, 0, 0, 0, 0), (21, .getfield 63, 3, 2404, 0, 4, 159, 0, 14), (24, .iconst 1, 1, 0, 0, 0, 0, 0, 0), (25, .iadd, 1, 0, 0, 0, 0, 0, 0), (26, .putfield 63, 3, 2404, 0, 4, 159, 0, 14), (29, .goto 16, 3, 45, 0, 0, 0, 0, 0), (32, .aload_n 0, 1, 0, 0, 0, 0, 0, 0), (33, .aload_n 0, 1, 0, 0, 0, 0, 0, 0), (34, .getfield 66, 3, 2403, 0, 4, 158, 0, 14), (37, .iconst 1, 1, 0, 0, 0, 0, 0, 0), (38, .iadd, 1, 0, 0, 0, 0, 0, 0), (39, .bipush 20, 2, 0, 0, 0, 0, 0, 0), (41, .irem, 1, 0, 0, 0, 0, 0, 0), (42, .putfield 66, 3, 2403, 0, 4, 158, 0, 14), (45, .aload_n 0, 1, 0, 0, 0, 0, 0, 0), (46, .getfield 19, 3, 501, 1, 4, 154, 0, 14), (49, .aload_n 0, 1, 0, 0, 0, 0, 0, 0), (50, .getfield 66, 3, 2403, 0, 4, 158, 0, 14), (53, .aload_n 0, 1, 0, 0, 0, 0, 0, 0), (54, .getfield 63, 3, 2404, 0, 4, 159, 0, 14), (57, .iadd, 1, 0, 0, 0, 0, 0, 0), (58, .iconst 1, 1, 0, 0, 0, 0, 0, 0), (59, .isub, 1, 0, 0, 0, 0, 0, 0), (60, .bipush 20, 2, 0, 0, 0, 0, 0, 0), (62, .irem, 1, 0, 0, 0, 0, 0, 0), (63, .aaload, 1, 0, 0, 0, 0, 0, 0), (64, .areturn, 1, 0, 0, 0, 0, 0, 0)]
set_option maxRecDepth 100000 in
theorem jk_X4_nextKept : ji_X4_nextKept.all (jck 32) = true := by decide +kernel
def ji_X4_takeBack : List JI := [(0, .aload_n 0, 1, 0, 0, 0, 0, 0, 0), (1, .getfield 63, 3, 2404, 0, 4, 159, 0, 14), (4, .ifCond .ne 5, 3, 9, 0, 0, 0, 0, 0), (7, .iconst 0, 1, 0, 0, 0, 0, 0, 0), (8, .ireturn, 1, 0, 5, 0, 0, 0, 0), (9, .aload_n 0, 1, 0, 0, 0, 0, 0, 0), (10, .dup, 1, 0, 0, 0, 0, 0, 0), (11, .getfield 63, 3, 2404, 0, 4, 159, 0, 14), (14, .iconst 1, 1, 0, 0, 0, 0, 0, 0), (15, .isub, 1, 0, 0, 0, 0, 0, 0), (16, .putfield 63, 3, 2404, 0, 4, 159, 0, 14), (19, .aload_n 0, 1, 0, 0, 0, 0, 0, 0), (20, .dup, 1, 0, 0, 0, 0, 0, 0), (21, .getfield 60, 3, 2405, 0, 4, 162, 0, 14), (24, .iconst 1, 1, 0, 0, 0, 0, 0, 0), (25, .iadd, 1, 0, 0, 0, 0, 0, 0), (26, .putfield 60, 3, 2405, 0, 4, 162, 0, 14), (29, .aload_n 0, 1, 0, 0, 0, 0, 0, 0), (30, .getfield 19, 3, 501, 1, 4, 154, 0, 14), (33, .aload_n 0, 1, 0, 0, 0, 0, 0, 0), (34, .getfield 66, 3, 2403, 0, 4, 158, 0, 14), (37, .aload_n 0, 1, 0, 0, 0, 0, 0, 0), (38, .getfield 63, 3, 2404, 0, 4, 159, 0, 14), (41, .iadd, 1, 0, 0, 0, 0, 0, 0), (42, .bipush 20, 2, 0, 0, 0, 0, 0, 0), (44, .irem, 1, 0, 0, 0, 0, 0, 0), (45, .aaload, 1, 0, 0, 0, 0, 0, 0), (46, .astore_n 1, 1, 0, 0, 0, 0, 0, 0), (47, .aload_n 0, 1, 0, 0, 0, 0, 0, 0), (48, .aload_n 1, 1, 0, 0, 0, 0, 0, 0), (49, .getfield 42, 3, 2101, 0, 1, 143, 0, 11), (52, .invokevirtual 48, 3, 27, 2, 1, 441, 0, 14), (55, .astore_n 2, 1, 0, 0, 0, 0, 0, 0), (56, .aload_n 1, 1, 0, 0, 0, 0, 0, 0), (57, .getfield 39, 3, 2102, 5, 1, 144, 0, 11), (60, .ifCond .eq 14, 3, 74, 0, 0, 0, 0, 0), (63, .aload_n 0, 1, 0, 0, 0, 0, 0, 0), (64, .aload_n 1, 1, 0, 0, 0, 0, 0, 0), (65, .getfield 42, 3, 2101, 0, 1, 143, 0, 11), (68, .putfield 27, 3, 2402, 0, 4, 155, 0, 14), (71, .goto 15, 3, 86, 0, 0, 0, 0, 0), (74, .aload_n 2, 1, 0, 0, 0, 0, 0, 0), (75, .ifnull 11, 3, 86, 0, 0, 0, 0, 0), (78, .aload_n 2, 1, 0, 0, 0, 0, 0, 0), (79, .aload_n 1, 1, 0, 0, 0, 0, 0, 0), (80, .getfield 52, 3, 200, 1, 1, 142, 0, 11), (83, .invokevirtual 56, 3, 93, 2, 3, 442, 0, 19), (86, .iconst 1, 1, 0, 0, 0, 0, 0, 0), (87, .ireturn, 1, 0, 5, 0, 0, 0, 0)]
set_option maxRecDepth 100000 in
theorem jk_X4_takeBack : ji_X4_takeBack.all (jck 33) = true := by decide +kernel
def ji_X4_allUnits : List JI := [(0, .iconst 0, 1, 0, 0, 0, 0, 0, 0), (1, .istore_n 1, 1, 0, 0, 0, 0, 0, 0), (2, .iconst 0, 1, 0, 0, 0, 0, 0, 0), (3, .istore_n 2, 1, 0, 0, 0, 0, 0, 0), (4, .iload_n 2, 1, 0, 0, 0, 0, 0, 0), (5, .aload_n 0, 1, 0, 0, 0, 0, 0, 0), (6, .getfield 27, 3, 2402, 0, 4, 155, 0, 14), (9, .if_icmp .ge 27, 3, 36, 0, 0, 0, 0, 0), (12, .iload_n 2, 1, 0, 0, 0, 0, 0, 0), (13, .bipush 40, 2, 0, 0, 0, 0, 0, 0), (15, .if_icmp .ge 21, 3, 36, 0, 0, 0, 0, 0), (18, .iload_n 1, 1, 0, 0, 0, 0, 0, 0), (19, .aload_n 0, 1, 0, 0, 0, 0, 0, 0), (20, .getfield 11, 3, 500, 1, 4, 152, 0, 14), (23, .iload_n 2, 1, 0, 0, 0, 0, 0, 0), (24, .aaload, 1, 0, 0, 0, 0, 0, 0), (25, .getfield 45, 3, 2901, 0, 9, 127, 0, 19), (28, .iadd, 1, 0, 0, 0, 0, 0, 0), (29, .istore_n 1, 1, 0, 0, 0, 0, 0, 0), (30, .iinc 2 1, 3, 0, 0, 0, 0, 0, 0), (33, .goto (-29), 3, 4, 0, 0, 0, 0, 0), (36, .iload_n 1, 1, 0, 0, 0, 0, 0, 0), (37, .ireturn, 1, 0, 0, 0, 0, 0, 0)]
set_option maxRecDepth 100000 in
theorem jk_X4_allUnits : ji_X4_allUnits.all (jck 34) = true := by decide +kernel
def ji_X5_init : List JI := [(0, .aload_n 0, 1, 0, 0, 0, 0, 0, 0), (1, .invokespecial 3, 3, 1000, 1, 0, 349, 0, 0), (4, .aload_n 0, 1, 0, 0, 0, 0, 0, 0), (5, .new 9, 3, 79, 4, 10, 350, 306, 20), (8, .dup, 1, 0, 0, 0, 0, 0, 0), (9, .iconst 1, 1, 0, 0, 0, 0, 0, 0), (10, .sipush 241, 3, 0, 0, 0, 0, 0, 0), (13, .invokespecial 11, 3, 100, 3, 3, 351, 0, 0), (16, .putfield 14, 3, 600, 1, 5, 352, 0, 15), (19, .aload_n 0, 1, 0, 0, 0, 0, 0, 0), (20, .sipush 241, 3, 0, 0, 0, 0, 0, 0), (23, .newarray .int, 2, 0, 0, 0, 133, 0, 1), (25, .putfield 20, 3, 601, 1, 5, 354, 0, 15), (28, .return_, 1, 0, 0, 0, 0, 0, 0)]
set_option maxRecDepth 100000 in
theorem jk_X5_init : ji_X5_init.all (jck 35) = true := by decide +kernel
def ji_X5_arrange : List JI := [(0, .aload_n 0, 1, 0, 0, 0, 0, 0, 0), (1, .getfield 14, 3, 600, 1, 5, 352, 0, 15), (4, .invokevirtual 24, 3, 101, 1, 3, 1049, 0, 20), (7, .aload_n 0, 1, 0, 0, 0, 0, 0, 0), (8, .aload_n 1, 1, 0, 0, 0, 0, 0, 0), (9, .aload_n 1, 1, 0, 0, 0, 0, 0, 0), (10, .getfield 27, 3, 2901, 0, 9, 120, 0, 19), (13, .invokevirtual 33, 3, 37, 3, 3, 1050, 0, 15), (16, .iconst 0, 1, 0, 0, 0, 0, 0, 0), (17, .istore_n 3, 1, 0, 0, 0, 0, 0, 0), (18, .iload_n 3, 1, 0, 0, 0, 0, 0, 0), (19, .aload_n 1, 1, 0, 0, 0, 0, 0, 0), (20, .getfield 27, 3, 2901, 0, 9, 120, 0, 19), (23, .if_icmp .ge 19, 3, 42, 0, 0, 0, 0, 0), (26, .aload_n 0, 1, 0, 0, 0, 0, 0, 0), (27, .aload_n 1, 1, 0, 0, 0, 0, 0, 0), (28, .aload_n 2, 1, 0, 0, 0, 0, 0, 0), (29, .iload_n 3, 1, 0, 0, 0, 0, 0, 0), (30, .invokevirtual 37, 3, 69, 2, 0, 1056, 0, 18), (33, .invokevirtual 33, 3, 37, 3, 3, 1050, 0, 15), (36, .iinc 3 1, 3, 0, 0, 0, 0, 0, 0), (39, .goto (-21), 3, 18, 0, 0, 0, 0, 0), (42, .aload_n 1, 1, 0, 0, 0, 0, 0, 0), (43, .getfield 27, 3, 2901, 0, 9, 120, 0, 19), (46, .ifCond .ne 7, 3, 53, 0, 0, 0, 0, 0), (49, .iconst 0, 1, 0, 0, 0, 0, 0, 0), (50, .goto 10, 3, 60, 0, 0, 0, 0, 0), (53, .aload_n 2, 1, 0, 0, 0, 0, 0, 0), (54, .iconst 0, 1, 0, 0, 0, 0, 0, 0), (55, .invokevirtual 43, 3, 70, 2, 0, 1057, 0, 18), (58, .iconst 1, 1, 0, 0, 0, 0, 0, 0), (59, .iadd, 1, 0, 0, 0, 0, 0, 0), (60, .ireturn, 1, 0, 0, 0, 0, 0, 0)]
set_option maxRecDepth 100000 in
theorem jk_X5_arrange : ji_X5_arrange.all (jck 36) = true := by decide +kernel
def ji_X5_addLast : List JI := [(0, .aload_n 0, 1, 0, 0, 0, 0, 0, 0), (1, .getfield 14, 3, 600, 1, 5, 352, 0, 15), (4, .aload_n 1, 1, 0, 0, 0, 0, 0, 0), (5, .iload_n 2, 1, 0, 0, 0, 0, 0, 0), (6, .iconst 1, 1, 0, 0, 0, 0, 0, 0), (7, .isub, 1, 0, 0, 0, 0, 0, 0), (8, .invokevirtual 46, 3, 84, 2, 0, 1054, 0, 19), (11, .ifCond .eq 14, 3, 25, 0, 0, 0, 0, 0), (14, .aload_n 1, 1, 0, 0, 0, 0, 0, 0), (15, .getfield 50, 3, 1000, 1, 9, 114, 0, 19), (18, .iload_n 2, 1, 0, 0, 0, 0, 0, 0), (19, .iconst 1, 1, 0, 0, 0, 0, 0, 0), (20, .isub, 1, 0, 0, 0, 0, 0, 0), (21, .iaload, 1, 0, 0, 0, 0, 0, 0), (22, .goto 4, 3, 26, 0, 0, 0, 0, 0), (25, .iconst (-1), 1, 0, 0, 0, 0, 0, 0), (26, .iconst 0, 1, 0, 0, 0, 0, 0, 0), (27, .iconst 0, 1, 0, 0, 0, 0, 0, 0), (28, .invokevirtual 53, 3, 103, 4, 3, 1055, 0, 20), (31, .return_, 1, 0, 0, 0, 0, 0, 0)]
set_option maxRecDepth 100000 in
theorem jk_X5_addLast : ji_X5_addLast.all (jck 37) = true := by decide +kernel
def ji_X5_restore : List JI := [(0, .aload_n 0, 1, 0, 0, 0, 0, 0, 0), (1, .invokevirtual 57, 3, 39, 1, 3, 1070, 0, 15), (4, .aload_n 0, 1, 0, 0, 0, 0, 0, 0), (5, .getfield 20, 3, 601, 1, 5, 354, 0, 15), (8, .iconst 0, 1, 0, 0, 0, 0, 0, 0), (9, .iaload, 1, 0, 0, 0, 0, 0, 0), (10, .istore_n 2, 1, 0, 0, 0, 0, 0, 0), (11, .iconst 1, 1, 0, 0, 0, 0, 0, 0), (12, .istore_n 3, 1, 0, 0, 0, 0, 0, 0), (13, .iload_n 3, 1, 0, 0, 0, 0, 0, 0), (14, .aload_n 0, 1, 0, 0, 0, 0, 0, 0), (15, .getfield 14, 3, 600, 1, 5, 352, 0, 15), (18, .getfield 60, 3, 3003, 0, 10, 317, 0, 20), (21, .if_icmp .ge 29, 3, 50, 0, 0, 0, 0, 0), (24, .aload_n 0, 1, 0, 0, 0, 0, 0, 0), (25, .getfield 20, 3, 601, 1, 5, 354, 0, 15), (28, .iload_n 2, 1, 0, 0, 0, 0, 0, 0), (29, .iaload, 1, 0, 0, 0, 0, 0, 0), (30, .istore_n 2, 1, 0, 0, 0, 0, 0, 0), (31, .aload_n 1, 1, 0, 0, 0, 0, 0, 0), (32, .aload_n 0, 1, 0, 0, 0, 0, 0, 0), (33, .getfield 14, 3, 600, 1, 5, 352, 0, 15), (36, .iload_n 2, 1, 0, 0, 0, 0, 0, 0), (37, .iconst 0, 1, 0, 0, 0, 0, 0, 0), (38, .invokevirtual 63, 3, 102, 3, 0, 1074, 0, 20), (41, .invokevirtual 67, 3, 88, 2, 3, 1075, 0, 19), (44, .iinc 3 1, 3, 0, 0, 0, 0, 0, 0), (47, .goto (-34), 3, 13, 0, 0, 0, 0, 0), (50, .return_, 1, 0, 0, 0, 0, 0, 0)]
set_option maxRecDepth 100000 in
theorem jk_X5_restore : ji_X5_restore.all (jck 38) = true := by decide +kernel
def ji_X5_listTurned : List JI := [(0, .aload_n 0, 1, 0, 0, 0, 0, 0, 0), (1, .getfield 14, 3, 600, 1, 5, 352, 0, 15), (4, .getfield 71, 3, 1100, 1, 10, 313, 0, 20), (7, .astore_n 1, 1, 0, 0, 0, 0, 0, 0), (8, .iconst 0, 1, 0, 0, 0, 0, 0, 0), (9, .istore_n 2, 1, 0, 0, 0, 0, 0, 0), (10, .iload_n 2, 1, 0, 0, 0, 0, 0, 0), (11, .aload_n 0, 1, 0, 0, 0, 0, 0, 0), (12, .getfield 14, 3, 600, 1, 5, 352, 0, 15), (15, .getfield 60, 3, 3003, 0, 10, 317, 0, 20), (18, .if_icmp .ge 72, 3, 90, 0, 0, 0, 0, 0), (21, .aload_n 1, 1, 0, 0, 0, 0, 0, 0), (22, .iload_n 2, 1, 0, 0, 0, 0, 0, 0), (23, .iaload, 1, 0, 0, 0, 0, 0, 0), (24, .istore_n 3, 1, 0, 0, 0, 0, 0, 0), (25, .iconst 0, 1, 0, 0, 0, 0, 0, 0), (26, .istore 4, 2, 0, 0, 0, 0, 0, 0), (28, .iconst 0, 1, 0, 0, 0, 0, 0, 0), (29, .istore 5, 2, 0, 0, 0, 0, 0, 0), (31, .iload 5, 2, 0, 0, 0, 0, 0, 0), (33, .aload_n 0, 1, 0, 0, 0, 0, 0, 0), (34, .getfield 14, 3, 600, 1, 5, 352, 0, 15), (37, .getfield 60, 3, 3003, 0, 10, 317, 0, 20), (40, .if_icmp .ge 36, 3, 76, 0, 0, 0, 0, 0), (43, .aload_n 1, 1, 0, 0, 0, 0, 0, 0), (44, .iload 5, 2, 0, 0, 0, 0, 0, 0), (46, .iaload, 1, 0, 0, 0, 0, 0, 0), (47, .istore 6, 2, 0, 0, 0, 0, 0, 0), (49, .iload 6, 2, 0, 0, 0, 0, 0, 0), (51, .iload_n 3, 1, 0, 0, 0, 0, 0, 0), (52, .if_icmp .lt 15, 3, 67, 0, 0, 0, 0, 0), (55, .iload 6, 2, 0, 0, 0, 0, 0, 0), (57, .iload_n 3, 1, 0, 0, 0, 0, 0, 0), (58, .if_icmp .ne 12, 3, 70, 0, 0, 0, 0, 0), (61, .iload 5, 2, 0, 0, 0, 0, 0, 0), (63, .iload_n 2, 1, 0, 0, 0, 0, 0, 0), (64, .if_icmp .ge 6, 3, 70, 0, 0, 0, 0, 0), (67, .iinc 4 1, 3, 0, 0, 0, 0, 0, 0), (70, .iinc 5 1, 3, 0, 0, 0, 0, 0, 0), (73, .goto (-42), 3, 31, 0, 0, 0, 0, 0), (76, .aload_n 0, 1, 0, 0, 0, 0, 0, 0), (77, .getfield 20, 3, 601, 1, 5, 354, 0, 15), (80, .iload 4, 2, 0, 0, 0, 0, 0, 0), (82, .iload_n 2, 1, 0, 0, 0, 0, 0, 0), (83, .iastore, 1, 0, 0, 0, 0, 0, 0), (84, .iinc 2 1, 3, 0, 0, 0, 0, 0, 0), (87, .goto (-77), 3, 10, 0, 0, 0, 0, 0), (90, .return_, 1, 0, 0, 0, 0, 0, 0)]
set_option maxRecDepth 100000 in
theorem jk_X5_listTurned : ji_X5_listTurned.all (jck 39) = true := by decide +kernel
def ji_X6_init : List JI := [(0, .aload_n 0, 1, 0, 0, 0, 0, 0, 0), (1, .invokespecial 3, 3, 1000, 1, 0, 304, 0, 0), (4, .aload_n 0, 1, 0, 0, 0, 0, 0, 0), (5, .new 9, 3, 79, 4, 10, 305, 306, 20), (8, .dup, 1, 0, 0, 0, 0, 0, 0), (9, .iconst 3, 1, 0, 0, 0, 0, 0, 0), (10, .sipush 240, 3, 0, 0, 0, 0, 0, 0), (13, .invokespecial 11, 3, 100, 3, 3, 307, 0, 0), (16, .putfield 14, 3, 700, 1, 6, 329, 0, 16), (19, .aload_n 0, 1, 0, 0, 0, 0, 0, 0), (20, .sipush 241, 3, 0, 0, 0, 0, 0, 0), (23, .newarray .int, 2, 0, 0, 0, 133, 0, 1), (25, .putfield 20, 3, 701, 1, 6, 331, 0, 16), (28, .aload_n 0, 1, 0, 0, 0, 0, 0, 0), (29, .sipush 241, 3, 0, 0, 0, 0, 0, 0), (32, .newarray .int, 2, 0, 0, 0, 133, 0, 1), (34, .putfield 24, 3, 702, 1, 6, 332, 0, 16), (37, .aload_n 0, 1, 0, 0, 0, 0, 0, 0), (38, .iconst (-1), 1, 0, 0, 0, 0, 0, 0), (39, .putfield 27, 3, 2603, 0, 6, 333, 0, 16), (42, .return_, 1, 0, 0, 0, 0, 0, 0)]
set_option maxRecDepth 100000 in
theorem jk_X6_init : ji_X6_init.all (jck 40) = true := by decide +kernel
def ji_X6_press : List JI := [(0, .aload_n 0, 1, 0, 0, 0, 0, 0, 0), (1, .iload_n 2, 1, 0, 0, 0, 0, 0, 0), (2, .putfield 27, 3, 2603, 0, 6, 333, 0, 16), (5, .aload_n 0, 1, 0, 0, 0, 0, 0, 0), (6, .getfield 14, 3, 700, 1, 6, 329, 0, 16), (9, .invokevirtual 31, 3, 101, 1, 3, 1003, 0, 20), (12, .aload_n 0, 1, 0, 0, 0, 0, 0, 0), (13, .getfield 27, 3, 2603, 0, 6, 333, 0, 16), (16, .ifCond .ne 11, 3, 27, 0, 0, 0, 0, 0), (19, .aload_n 0, 1, 0, 0, 0, 0, 0, 0), (20, .aload_n 1, 1, 0, 0, 0, 0, 0, 0), (21, .invokevirtual 34, 3, 42, 2, 3, 1004, 0, 16), (24, .goto 8, 3, 32, 0, 0, 0, 0, 0), (27, .aload_n 0, 1, 0, 0, 0, 0, 0, 0), (28, .aload_n 1, 1, 0, 0, 0, 0, 0, 0), (29, .invokevirtual 38, 3, 44, 2, 3, 1012, 0, 16), (32, .return_, 1, 0, 0, 0, 0, 0, 0)]
set_option maxRecDepth 100000 in
theorem jk_X6_press : ji_X6_press.all (jck 41) = true := by decide +kernel
def ji_X6_pressByCopies : List JI := [(0, .iconst 0, 1, 0, 0, 0, 0, 0, 0), (1, .istore_n 2, 1, 0, 0, 0, 0, 0, 0), (2, .iload_n 2, 1, 0, 0, 0, 0, 0, 0), (3, .aload_n 1, 1, 0, 0, 0, 0, 0, 0), (4, .getfield 41, 3, 2901, 0, 9, 122, 0, 19), (7, .if_icmp .ge 87, 3, 94, 0, 0, 0, 0, 0), (10, .iconst 1, 1, 0, 0, 0, 0, 0, 0), (11, .istore_n 3, 1, 0, 0, 0, 0, 0, 0), (12, .iconst (-1), 1, 0, 0, 0, 0, 0, 0), (13, .istore 4, 2, 0, 0, 0, 0, 0, 0), (15, .iconst 0, 1, 0, 0, 0, 0, 0, 0), (16, .istore 5, 2, 0, 0, 0, 0, 0, 0), (18, .iload 5, 2, 0, 0, 0, 0, 0, 0), (20, .iload_n 2, 1, 0, 0, 0, 0, 0, 0), (21, .if_icmp .ge 31, 3, 52, 0, 0, 0, 0, 0), (24, .aload_n 1, 1, 0, 0, 0, 0, 0, 0), (25, .iload 5, 2, 0, 0, 0, 0, 0, 0), (27, .iload_n 2, 1, 0, 0, 0, 0, 0, 0), (28, .invokestatic 46, 3, 43, 3, 0, 1008, 0, 0), (31, .istore 6, 2, 0, 0, 0, 0, 0, 0), (33, .iload 6, 2, 0, 0, 0, 0, 0, 0), (35, .iload_n 3, 1, 0, 0, 0, 0, 0, 0), (36, .if_icmp .le 10, 3, 46, 0, 0, 0, 0, 0), (39, .iload 6, 2, 0, 0, 0, 0, 0, 0), (41, .istore_n 3, 1, 0, 0, 0, 0, 0, 0), (42, .iload 5, 2, 0, 0, 0, 0, 0, 0), (44, .istore 4, 2, 0, 0, 0, 0, 0, 0), (46, .iinc 5 1, 3, 0, 0, 0, 0, 0, 0), (49, .goto (-31), 3, 18, 0, 0, 0, 0, 0), (52, .iload 4, 2, 0, 0, 0, 0, 0, 0), (54, .iconst (-1), 1, 0, 0, 0, 0, 0, 0), (55, .if_icmp .ne 21, 3, 76, 0, 0, 0, 0, 0), (58, .aload_n 0, 1, 0, 0, 0, 0, 0, 0), (59, .getfield 14, 3, 700, 1, 6, 329, 0, 16), (62, .iconst 0, 1, 0, 0, 0, 0, 0, 0), (63, .aload_n 1, 1, 0, 0, 0, 0, 0, 0), (64, .getfield 50, 3, 1000, 1, 9, 115, 0, 19), (67, .iload_n 2, 1, 0, 0, 0, 0, 0, 0), (68, .iaload, 1, 0, 0, 0, 0, 0, 0), (69, .iconst 1, 1, 0, 0, 0, 0, 0, 0), (70, .invokevirtual 53, 3, 103, 4, 3, 1011, 0, 20), (73, .goto 14, 3, 87, 0, 0, 0, 0, 0), (76, .aload_n 0, 1, 0, 0, 0, 0, 0, 0), (77, .getfield 14, 3, 700, 1, 6, 329, 0, 16), (80, .iconst 1, 1, 0, 0, 0, 0, 0, 0), (81, .iload 4, 2, 0, 0, 0, 0, 0, 0), (83, .iload_n 3, 1, 0, 0, 0, 0, 0, 0), (84, .invokevirtual 53, 3, 103, 4, 3, 1011, 0, 20), (87, .iload_n 2, 1, 0, 0, 0, 0, 0, 0), (88, .iload_n 3, 1, 0, 0, 0, 0, 0, 0), (89, .iadd, 1, 0, 0, 0, 0, 0, 0), (90, .istore_n 2, 1, 0, 0, 0, 0, 0, 0), (91, .goto (-89), 3, 2, 0, 0, 0, 0, 0), (94, .return_, 1, 0, 0, 0, 0, 0, 0)]
set_option maxRecDepth 100000 in
theorem jk_X6_pressByCopies : ji_X6_pressByCopies.all (jck 42) = true := by decide +kernel
def ji_X6_sameFrom : List JI := [(0, .iconst 0, 1, 0, 0, 0, 0, 0, 0), (1, .istore_n 3, 1, 0, 0, 0, 0, 0, 0), (2, .iload_n 2, 1, 0, 0, 0, 0, 0, 0), (3, .iload_n 3, 1, 0, 0, 0, 0, 0, 0), (4, .iadd, 1, 0, 0, 0, 0, 0, 0), (5, .aload_n 0, 1, 0, 0, 0, 0, 0, 0), (6, .getfield 41, 3, 2901, 0, 9, 122, 0, 19), (9, .if_icmp .ge 28, 3, 37, 0, 0, 0, 0, 0), (12, .aload_n 0, 1, 0, 0, 0, 0, 0, 0), (13, .getfield 50, 3, 1000, 1, 9, 115, 0, 19), (16, .iload_n 1, 1, 0, 0, 0, 0, 0, 0), (17, .iload_n 3, 1, 0, 0, 0, 0, 0, 0), (18, .iadd, 1, 0, 0, 0, 0, 0, 0), (19, .iaload, 1, 0, 0, 0, 0, 0, 0), (20, .aload_n 0, 1, 0, 0, 0, 0, 0, 0), (21, .getfield 50, 3, 1000, 1, 9, 115, 0, 19), (24, .iload_n 2, 1, 0, 0, 0, 0, 0, 0), (25, .iload_n 3, 1, 0, 0, 0, 0, 0, 0), (26, .iadd, 1, 0, 0, 0, 0, 0, 0), (27, .iaload, 1, 0, 0, 0, 0, 0, 0), (28, .if_icmp .ne 9, 3, 37, 0, 0, 0, 0, 0), (31, .iinc 3 1, 3, 0, 0, 0, 0, 0, 0), (34, .goto (-32), 3, 2, 0, 0, 0, 0, 0), (37, .iload_n 3, 1, 0, 0, 0, 0, 0, 0), (38, .ireturn, 1, 0, 0, 0, 0, 0, 0)]
set_option maxRecDepth 100000 in
theorem jk_X6_sameFrom : ji_X6_sameFrom.all (jck 43) = true := by decide +kernel
def ji_X6_pressByPhrases : List JI := [(0, .iconst 0, 1, 0, 0, 0, 0, 0, 0), (1, .istore_n 2, 1, 0, 0, 0, 0, 0, 0), (2, .iconst 0, 1, 0, 0, 0, 0, 0, 0), (3, .istore_n 3, 1, 0, 0, 0, 0, 0, 0), (4, .iconst 0, 1, 0, 0, 0, 0, 0, 0), (5, .istore 4, 2, 0, 0, 0, 0, 0, 0), (7, .iload 4, 2, 0, 0, 0, 0, 0, 0), (9, .aload_n 1, 1, 0, 0, 0, 0, 0, 0), (10, .getfield 41, 3, 2901, 0, 9, 122, 0, 19), (13, .if_icmp .ge 67, 3, 80, 0, 0, 0, 0, 0), (16, .aload_n 0, 1, 0, 0, 0, 0, 0, 0), (17, .getfield 14, 3, 700, 1, 6, 329, 0, 16), (20, .iload_n 2, 1, 0, 0, 0, 0, 0, 0), (21, .aload_n 1, 1, 0, 0, 0, 0, 0, 0), (22, .getfield 50, 3, 1000, 1, 9, 115, 0, 19), (25, .iload 4, 2, 0, 0, 0, 0, 0, 0), (27, .iaload, 1, 0, 0, 0, 0, 0, 0), (28, .invokevirtual 57, 3, 106, 3, 0, 1016, 0, 20), (31, .iconst 1, 1, 0, 0, 0, 0, 0, 0), (32, .iadd, 1, 0, 0, 0, 0, 0, 0), (33, .istore 5, 2, 0, 0, 0, 0, 0, 0), (35, .iload 5, 2, 0, 0, 0, 0, 0, 0), (37, .ifCond .le 7, 3, 44, 0, 0, 0, 0, 0), (40, .iconst 1, 1, 0, 0, 0, 0, 0, 0), (41, .goto 4, 3, 45, 0, 0, 0, 0, 0), (44, .iconst 0, 1, 0, 0, 0, 0, 0, 0), (45, .istore_n 3, 1, 0, 0, 0, 0, 0, 0), (46, .iload_n 3, 1, 0, 0, 0, 0, 0, 0), (47, .ifCond .eq 9, 3, 56, 0, 0, 0, 0, 0), (50, .iload 5, 2, 0, 0, 0, 0, 0, 0), (52, .istore_n 2, 1, 0, 0, 0, 0, 0, 0), (53, .goto 21, 3, 74, 0, 0, 0, 0, 0), (56, .aload_n 0, 1, 0, 0, 0, 0, 0, 0), (57, .getfield 14, 3, 700, 1, 6, 329, 0, 16), (60, .iload_n 2, 1, 0, 0, 0, 0, 0, 0), (61, .aload_n 1, 1, 0, 0, 0, 0, 0, 0), (62, .getfield 50, 3, 1000, 1, 9, 115, 0, 19), (65, .iload 4, 2, 0, 0, 0, 0, 0, 0), (67, .iaload, 1, 0, 0, 0, 0, 0, 0), (68, .iconst 0, 1, 0, 0, 0, 0, 0, 0), (69, .invokevirtual 53, 3, 103, 4, 3, 1011, 0, 20), (72, .iconst 0, 1, 0, 0, 0, 0, 0, 0), (73, .istore_n 2, 1, 0, 0, 0, 0, 0, 0), (74, .iinc 4 1, 3, 0, 0, 0, 0, 0, 0), (77, .goto (-70), 3, 7, 0, 0, 0, 0, 0), (80, .iload_n 3, 1, 0, 0, 0, 0, 0, 0), (81, .ifCond .eq 13, 3, 94, 0, 0, 0, 0, 0), (84, .aload_n 0, 1, 0, 0, 0, 0, 0, 0), (85, .getfield 14, 3, 700, 1, 6, 329, 0, 16), (88, .iload_n 2, 1, 0, 0, 0, 0, 0, 0), (89, .iconst (-1), 1, 0, 0, 0, 0, 0, 0), (90, .iconst 0, 1, 0, 0, 0, 0, 0, 0), (91, .invokevirtual 53, 3, 103, 4, 3, 1011, 0, 20), (94, .return_, 1, 0, 0, 0, 0, 0, 0)]
set_option maxRecDepth 100000 in
theorem jk_X6_pressByPhrases : ji_X6_pressByPhrases.all (jck 44) = true := by decide +kernel
def ji_X6_unfold : List JI := [(0, .iconst 0, 1, 0, 0, 0, 0, 0, 0), (1, .istore_n 2, 1, 0, 0, 0, 0, 0, 0), (2, .iload_n 2, 1, 0, 0, 0, 0, 0, 0), (3, .aload_n 0, 1, 0, 0, 0, 0, 0, 0), (4, .getfield 14, 3, 700, 1, 6, 329, 0, 16), (7, .getfield 61, 3, 3003, 0, 10, 318, 0, 20), (10, .if_icmp .ge 31, 3, 41, 0, 0, 0, 0, 0), (13, .aload_n 0, 1, 0, 0, 0, 0, 0, 0), (14, .getfield 27, 3, 2603, 0, 6, 333, 0, 16), (17, .ifCond .ne 12, 3, 29, 0, 0, 0, 0, 0), (20, .aload_n 0, 1, 0, 0, 0, 0, 0, 0), (21, .aload_n 1, 1, 0, 0, 0, 0, 0, 0), (22, .iload_n 2, 1, 0, 0, 0, 0, 0, 0), (23, .invokevirtual 64, 3, 46, 3, 3, 1029, 0, 16), (26, .goto 9, 3, 35, 0, 0, 0, 0, 0), (29, .aload_n 0, 1, 0, 0, 0, 0, 0, 0), (30, .aload_n 1, 1, 0, 0, 0, 0, 0, 0), (31, .iload_n 2, 1, 0, 0, 0, 0, 0, 0), (32, .invokevirtual 68, 3, 47, 3, 3, 1036, 0, 16), (35, .iinc 2 1, 3, 0, 0, 0, 0, 0, 0), (38, .goto (-36), 3, 2, 0, 0, 0, 0, 0), (41, .return_, 1, 0, 0, 0, 0, 0, 0)]
set_option maxRecDepth 100000 in
theorem jk_X6_unfold : ji_X6_unfold.all (jck 45) = true := by decide +kernel
def ji_X6_unfoldCopy : List JI := [(0, .aload_n 0, 1, 0, 0, 0, 0, 0, 0), (1, .getfield 14, 3, 700, 1, 6, 329, 0, 16), (4, .iload_n 2, 1, 0, 0, 0, 0, 0, 0), (5, .iconst 1, 1, 0, 0, 0, 0, 0, 0), (6, .invokevirtual 71, 3, 102, 3, 0, 1033, 0, 20), (9, .istore_n 3, 1, 0, 0, 0, 0, 0, 0), (10, .aload_n 0, 1, 0, 0, 0, 0, 0, 0), (11, .getfield 14, 3, 700, 1, 6, 329, 0, 16), (14, .iload_n 2, 1, 0, 0, 0, 0, 0, 0), (15, .iconst 0, 1, 0, 0, 0, 0, 0, 0), (16, .invokevirtual 71, 3, 102, 3, 0, 1033, 0, 20), (19, .ifCond .ne 9, 3, 28, 0, 0, 0, 0, 0), (22, .aload_n 1, 1, 0, 0, 0, 0, 0, 0), (23, .iload_n 3, 1, 0, 0, 0, 0, 0, 0), (24, .invokevirtual 74, 3, 88, 2, 3, 1034, 0, 19), (27, .return_, 1, 0, 0, 0, 0, 0, 0), (28, .iconst 0, 1, 0, 0, 0, 0, 0, 0), (29, .istore 4, 2, 0, 0, 0, 0, 0, 0), (31, .iload 4, 2, 0, 0, 0, 0, 0, 0), (33, .aload_n 0, 1, 0, 0, 0, 0, 0, 0), (34, .getfield 14, 3, 700, 1, 6, 329, 0, 16), (37, .iload_n 2, 1, 0, 0, 0, 0, 0, 0), (38, .iconst 2, 1, 0, 0, 0, 0, 0, 0), (39, .invokevirtual 71, 3, 102, 3, 0, 1033, 0, 20), (42, .if_icmp .ge 33, 3, 75, 0, 0, 0, 0, 0), (45, .aload_n 1, 1, 0, 0, 0, 0, 0, 0), (46, .iload_n 3, 1, 0, 0, 0, 0, 0, 0), (47, .iload 4, 2, 0, 0, 0, 0, 0, 0), (49, .iadd, 1, 0, 0, 0, 0, 0, 0), (50, .invokevirtual 78, 3, 84, 2, 0, 1035, 0, 19), (53, .ifCond .eq 16, 3, 69, 0, 0, 0, 0, 0), (56, .aload_n 1, 1, 0, 0, 0, 0, 0, 0), (57, .aload_n 1, 1, 0, 0, 0, 0, 0, 0), (58, .getfield 50, 3, 1000, 1, 9, 115, 0, 19), (61, .iload_n 3, 1, 0, 0, 0, 0, 0, 0), (62, .iload 4, 2, 0, 0, 0, 0, 0, 0), (64, .iadd, 1, 0, 0, 0, 0, 0, 0), (65, .iaload, 1, 0, 0, 0, 0, 0, 0), (66, .invokevirtual 74, 3, 88, 2, 3, 1034, 0, 19), (69, .iinc 4 1, 3, 0, 0, 0, 0, 0, 0), (72, .goto (-41), 3, 31, 0, 0, 0, 0, 0), (75, .return_, 1, 0, 0, 0, 0, 0, 0)]
set_option maxRecDepth 100000 in
theorem jk_X6_unfoldCopy : ji_X6_unfoldCopy.all (jck 46) = true := by decide +kernel
def ji_X6_unfoldPhrase : List JI := [(0, .aload_n 0, 1, 0, 0, 0, 0, 0, 0), (1, .getfield 14, 3, 700, 1, 6, 329, 0, 16), (4, .iload_n 2, 1, 0, 0, 0, 0, 0, 0), (5, .iconst 0, 1, 0, 0, 0, 0, 0, 0), (6, .invokevirtual 71, 3, 102, 3, 0, 1033, 0, 20), (9, .istore_n 3, 1, 0, 0, 0, 0, 0, 0), (10, .aload_n 0, 1, 0, 0, 0, 0, 0, 0), (11, .getfield 14, 3, 700, 1, 6, 329, 0, 16), (14, .iload_n 2, 1, 0, 0, 0, 0, 0, 0), (15, .iconst 1, 1, 0, 0, 0, 0, 0, 0), (16, .invokevirtual 71, 3, 102, 3, 0, 1033, 0, 20), (19, .istore 4, 2, 0, 0, 0, 0, 0, 0), (21, .aload_n 1, 1, 0, 0, 0, 0, 0, 0), (22, .getfield 41, 3, 2901, 0, 9, 122, 0, 19), (25, .istore 5, 2, 0, 0, 0, 0, 0, 0), (27, .iload_n 3, 1, 0, 0, 0, 0, 0, 0), (28, .ifCond .le 25, 3, 53, 0, 0, 0, 0, 0), (31, .iload_n 3, 1, 0, 0, 0, 0, 0, 0), (32, .iload_n 2, 1, 0, 0, 0, 0, 0, 0), (33, .if_icmp .gt 20, 3, 53, 0, 0, 0, 0, 0), (36, .aload_n 1, 1, 0, 0, 0, 0, 0, 0), (37, .aload_n 1, 1, 0, 0, 0, 0, 0, 0), (38, .aload_n 0, 1, 0, 0, 0, 0, 0, 0), (39, .getfield 20, 3, 701, 1, 6, 331, 0, 16), (42, .iload_n 3, 1, 0, 0, 0, 0, 0, 0), (43, .iaload, 1, 0, 0, 0, 0, 0, 0), (44, .aload_n 0, 1, 0, 0, 0, 0, 0, 0), (45, .getfield 24, 3, 702, 1, 6, 332, 0, 16), (48, .iload_n 3, 1, 0, 0, 0, 0, 0, 0), (49, .iaload, 1, 0, 0, 0, 0, 0, 0), (50, .invokevirtual 82, 3, 90, 4, 3, 1040, 0, 19), (53, .iload 4, 2, 0, 0, 0, 0, 0, 0), (55, .iconst (-1), 1, 0, 0, 0, 0, 0, 0), (56, .if_icmp .eq 9, 3, 65, 0, 0, 0, 0, 0), (59, .aload_n 1, 1, 0, 0, 0, 0, 0, 0), (60, .iload 4, 2, 0, 0, 0, 0, 0, 0), (62, .invokevirtual 74, 3, 88, 2, 3, 1034, 0, 19), (65, .aload_n 0, 1, 0, 0, 0, 0, 0, 0), (66, .getfield 20, 3, 701, 1, 6, 331, 0, 16), (69, .iload_n 2, 1, 0, 0, 0, 0, 0, 0), (70, .iconst 1, 1, 0, 0, 0, 0, 0, 0), (71, .iadd, 1, 0, 0, 0, 0, 0, 0), (72, .iload 5, 2, 0, 0, 0, 0, 0, 0), (74, .iastore, 1, 0, 0, 0, 0, 0, 0), (75, .aload_n 0, 1, 0, 0, 0, 0, 0, 0), (76, .getfield 24, 3, 702, 1, 6, 332, 0, 16), (79, .iload_n 2, 1, 0, 0, 0, 0, 0, 0), (80, .iconst 1, 1, 0, 0, 0, 0, 0, 0), (81, .iadd, 1, 0, 0, 0, 0, 0, 0), (82, .aload_n 1, 1, 0, 0, 0, 0, 0, 0), (83, .getfield 41, 3, 2901, 0, 9, 122, 0, 19), (86, .iastore, 1, 0, 0, 0, 0, 0, 0), (87, .return_, 1, 0, 0, 0, 0, 0, 0)]
set_option maxRecDepth 100000 in
theorem jk_X6_unfoldPhrase : ji_X6_unfoldPhrase.all (jck 47) = true := by decide +kernel
def ji_X7_init : List JI := [(0, .aload_n 0, 1, 0, 0, 0, 0, 0, 0), (1, .invokespecial 3, 3, 1000, 1, 0, 943, 0, 0), (4, .aload_n 0, 1, 0, 0, 0, 0, 0, 0), (5, .ldc 11, 2, 0, 0, 0, 944, 0, 58081), (7, .newarray .int, 2, 0, 0, 0, 133, 0, 1), (9, .putfield 12, 3, 800, 1, 7, 945, 0, 17), (12, .return_, 1, 0, 0, 0, 0, 0, 0)]
set_option maxRecDepth 100000 in
theorem jk_X7_init : ji_X7_init.all (jck 48) = true := by decide +kernel
def ji_X7_tellScript : List JI := [(0, .aload_n 0, 1, 0, 0, 0, 0, 0, 0), (1, .aload_n 1, 1, 0, 0, 0, 0, 0, 0), (2, .aload_n 2, 1, 0, 0, 0, 0, 0, 0), (3, .invokevirtual 16, 3, 51, 3, 3, 953, 0, 17), (6, .aload_n 3, 1, 0, 0, 0, 0, 0, 0), (7, .invokevirtual 20, 3, 101, 1, 3, 961, 0, 20), (10, .iconst 0, 1, 0, 0, 0, 0, 0, 0), (11, .istore 4, 2, 0, 0, 0, 0, 0, 0), (13, .iconst 0, 1, 0, 0, 0, 0, 0, 0), (14, .istore 5, 2, 0, 0, 0, 0, 0, 0), (16, .iload 4, 2, 0, 0, 0, 0, 0, 0), (18, .aload_n 1, 1, 0, 0, 0, 0, 0, 0), (19, .getfield 25, 3, 2901, 0, 9, 121, 0, 19), (22, .if_icmp .lt 12, 3, 34, 0, 0, 0, 0, 0), (25, .iload 5, 2, 0, 0, 0, 0, 0, 0), (27, .aload_n 2, 1, 0, 0, 0, 0, 0, 0), (28, .getfield 25, 3, 2901, 0, 9, 121, 0, 19), (31, .if_icmp .ge 75, 3, 106, 0, 0, 0, 0, 0), (34, .iconst 2, 1, 0, 0, 0, 0, 0, 0), (35, .istore 6, 2, 0, 0, 0, 0, 0, 0), (37, .aload_n 1, 1, 0, 0, 0, 0, 0, 0), (38, .iload 4, 2, 0, 0, 0, 0, 0, 0), (40, .aload_n 2, 1, 0, 0, 0, 0, 0, 0), (41, .iload 5, 2, 0, 0, 0, 0, 0, 0), (43, .invokestatic 31, 3, 50, 4, 0, 962, 0, 0), (46, .ifCond .ne 40, 3, 86, 0, 0, 0, 0, 0), (49, .aload_n 0, 1, 0, 0, 0, 0, 0, 0), (50, .aload_n 1, 1, 0, 0, 0, 0, 0, 0), (51, .iload 4, 2, 0, 0, 0, 0, 0, 0), (53, .aload_n 2, 1, 0, 0, 0, 0, 0, 0), (54, .iload 5, 2, 0, 0, 0, 0, 0, 0), (56, .invokevirtual 35, 3, 53, 5, 0, 965, 0, 17), (59, .istore 6, 2, 0, 0, 0, 0, 0, 0), (61, .aload_n 3, 1, 0, 0, 0, 0, 0, 0), (62, .iload 6, 2, 0, 0, 0, 0, 0, 0), (64, .iload 4, 2, 0, 0, 0, 0, 0, 0), (66, .iload 6, 2, 0, 0, 0, 0, 0, 0), (68, .iconst 1, 1, 0, 0, 0, 0, 0, 0), (69, .if_icmp .ne 7, 3, 76, 0, 0, 0, 0, 0), (72, .iconst (-1), 1, 0, 0, 0, 0, 0, 0), (73, .goto 10, 3, 83, 0, 0, 0, 0, 0), (76, .aload_n 2, 1, 0, 0, 0, 0, 0, 0), (77, .getfield 39, 3, 1000, 1, 9, 113, 0, 19), (80, .iload 5, 2, 0, 0, 0, 0, 0, 0), (82, .iaload, 1, 0, 0, 0, 0, 0, 0), (83, .invokevirtual 42, 3, 103, 4, 3, 969, 0, 20), (86, .iload 6, 2, 0, 0, 0, 0, 0, 0), (88, .ifCond .eq 6, 3, 94, 0, 0, 0, 0, 0), (91, .iinc 4 1, 3, 0, 0, 0, 0, 0, 0), (94, .iload 6, 2, 0, 0, 0, 0, 0, 0), (96, .iconst 1, 1, 0, 0, 0, 0, 0, 0), (97, .if_icmp .eq 6, 3, 103, 0, 0, 0, 0, 0), (100, .iinc 5 1, 3, 0, 0, 0, 0, 0, 0), (103, .goto (-87), 3, 16, 0, 0, 0, 0, 0), (106, .return_, 1, 0, 0, 0, 0, 0, 0)]
set_option maxRecDepth 100000 in
theorem jk_X7_tellScript : ji_X7_tellScript.all (jck 49) = true := by decide +kernel
def ji_X7_isSame : List JI := [(0, .iload_n 1, 1, 0, 0, 0, 0, 0, 0), (1, .aload_n 0, 1, 0, 0, 0, 0, 0, 0), (2, .getfield 25, 3, 2901, 0, 9, 121, 0, 19), (5, .if_icmp .ge 30, 3, 35, 0, 0, 0, 0, 0), (8, .iload_n 3, 1, 0, 0, 0, 0, 0, 0), (9, .aload_n 2, 1, 0, 0, 0, 0, 0, 0), (10, .getfield 25, 3, 2901, 0, 9, 121, 0, 19), (13, .if_icmp .ge 22, 3, 35, 0, 0, 0, 0, 0), (16, .aload_n 0, 1, 0, 0, 0, 0, 0, 0), (17, .getfield 39, 3, 1000, 1, 9, 113, 0, 19), (20, .iload_n 1, 1, 0, 0, 0, 0, 0, 0), (21, .iaload, 1, 0, 0, 0, 0, 0, 0), (22, .aload_n 2, 1, 0, 0, 0, 0, 0, 0), (23, .getfield 39, 3, 1000, 1, 9, 113, 0, 19), (26, .iload_n 3, 1, 0, 0, 0, 0, 0, 0), (27, .iaload, 1, 0, 0, 0, 0, 0, 0), (28, .if_icmp .ne 7, 3, 35, 0, 0, 0, 0, 0), (31, .iconst 1, 1, 0, 0, 0, 0, 0, 0), (32, .goto 4, 3, 36, 0, 0, 0, 0, 0), (35, .iconst 0, 1, 0, 0, 0, 0, 0, 0), (36, .ireturn, 1, 0, 5, 0, 0, 0, 0)]
set_option maxRecDepth 100000 in
theorem jk_X7_isSame : ji_X7_isSame.all (jck 50) = true := by decide +kernel
def ji_X7_measureDistances : List JI := [(0, .iconst 0, 1, 0, 0, 0, 0, 0, 0), (1, .istore_n 3, 1, 0, 0, 0, 0, 0, 0), (2, .iload_n 3, 1, 0, 0, 0, 0, 0, 0), (3, .aload_n 2, 1, 0, 0, 0, 0, 0, 0), (4, .getfield 25, 3, 2901, 0, 9, 121, 0, 19), (7, .if_icmp .gt 30, 3, 37, 0, 0, 0, 0, 0), (10, .aload_n 0, 1, 0, 0, 0, 0, 0, 0), (11, .getfield 12, 3, 800, 1, 7, 945, 0, 17), (14, .aload_n 1, 1, 0, 0, 0, 0, 0, 0), (15, .getfield 25, 3, 2901, 0, 9, 121, 0, 19), (18, .sipush 241, 3, 0, 0, 0, 0, 0, 0), (21, .imul, 1, 0, 0, 0, 0, 0, 0), (22, .iload_n 3, 1, 0, 0, 0, 0, 0, 0), (23, .iadd, 1, 0, 0, 0, 0, 0, 0), (24, .aload_n 2, 1, 0, 0, 0, 0, 0, 0), (25, .getfield 25, 3, 2901, 0, 9, 121, 0, 19), (28, .iload_n 3, 1, 0, 0, 0, 0, 0, 0), (29, .isub, 1, 0, 0, 0, 0, 0, 0), (30, .iastore, 1, 0, 0, 0, 0, 0, 0), (31, .iinc 3 1, 3, 0, 0, 0, 0, 0, 0), (34, .goto (-32), 3, 2, 0, 0, 0, 0, 0), (37, .aload_n 1, 1, 0, 0, 0, 0, 0, 0), (38, .getfield 25, 3, 2901, 0, 9, 121, 0, 19), (41, .iconst 1, 1, 0, 0, 0, 0, 0, 0), (42, .isub, 1, 0, 0, 0, 0, 0, 0), (43, .istore_n 3, 1, 0, 0, 0, 0, 0, 0), (44, .iload_n 3, 1, 0, 0, 0, 0, 0, 0), (45, .ifCond .lt 42, 3, 87, 0, 0, 0, 0, 0), (48, .aload_n 0, 1, 0, 0, 0, 0, 0, 0), (49, .getfield 12, 3, 800, 1, 7, 945, 0, 17), (52, .iload_n 3, 1, 0, 0, 0, 0, 0, 0), (53, .sipush 241, 3, 0, 0, 0, 0, 0, 0), (56, .imul, 1, 0, 0, 0, 0, 0, 0), (57, .aload_n 2, 1, 0, 0, 0, 0, 0, 0), (58, .getfield 25, 3, 2901, 0, 9, 121, 0, 19), (61, .iadd, 1, 0, 0, 0, 0, 0, 0), (62, .aload_n 1, 1, 0, 0, 0, 0, 0, 0), (63, .getfield 25, 3, 2901, 0, 9, 121, 0, 19), (66, .iload_n 3, 1, 0, 0, 0, 0, 0, 0), (67, .isub, 1, 0, 0, 0, 0, 0, 0), (68, .iastore, 1, 0, 0, 0, 0, 0, 0), (69, .aload_n 0, 1, 0, 0, 0, 0, 0, 0), (70, .iload_n 3, 1, 0, 0, 0, 0, 0, 0), (71, .aload_n 1, 1, 0, 0, 0, 0, 0, 0), (72, .getfield 39, 3, 1000, 1, 9, 113, 0, 19), (75, .iload_n 3, 1, 0, 0, 0, 0, 0, 0), (76, .iaload, 1, 0, 0, 0, 0, 0, 0), (77, .aload_n 2, 1, 0, 0, 0, 0, 0, 0), (78, .invokevirtual 46, 3, 52, 4, 3, 957, 0, 17), (81, .iinc 3 (-1), 3, 0, 0, 0, 0, 0, 0), (84, .goto (-40), 3, 44, 0, 0, 0, 0, 0), (87, .return_, 1, 0, 0, 0, 0, 0, 0)]
set_option maxRecDepth 100000 in
theorem jk_X7_measureDistances : ji_X7_measureDistances.all (jck 51) = true := by decide +kernel
def ji_X7_measureDistancesFrom : List JI := [(0, .aload_n 3, 1, 0, 0, 0, 0, 0, 0), (1, .getfield 25, 3, 2901, 0, 9, 121, 0, 19), (4, .iconst 1, 1, 0, 0, 0, 0, 0, 0), (5, .isub, 1, 0, 0, 0, 0, 0, 0), (6, .istore 4, 2, 0, 0, 0, 0, 0, 0), (8, .iload 4, 2, 0, 0, 0, 0, 0, 0), (10, .ifCond .lt 121, 3, 131, 0, 0, 0, 0, 0), (13, .iload_n 1, 1, 0, 0, 0, 0, 0, 0), (14, .sipush 241, 3, 0, 0, 0, 0, 0, 0), (17, .imul, 1, 0, 0, 0, 0, 0, 0), (18, .iload 4, 2, 0, 0, 0, 0, 0, 0), (20, .iadd, 1, 0, 0, 0, 0, 0, 0), (21, .istore 5, 2, 0, 0, 0, 0, 0, 0), (23, .aload_n 0, 1, 0, 0, 0, 0, 0, 0), (24, .getfield 12, 3, 800, 1, 7, 945, 0, 17), (27, .iload 5, 2, 0, 0, 0, 0, 0, 0), (29, .sipush 241, 3, 0, 0, 0, 0, 0, 0), (32, .iadd, 1, 0, 0, 0, 0, 0, 0), (33, .iconst 1, 1, 0, 0, 0, 0, 0, 0), (34, .iadd, 1, 0, 0, 0, 0, 0, 0), (35, .iaload, 1, 0, 0, 0, 0, 0, 0), (36, .istore 6, 2, 0, 0, 0, 0, 0, 0), (38, .iload_n 2, 1, 0, 0, 0, 0, 0, 0), (39, .aload_n 3, 1, 0, 0, 0, 0, 0, 0), (40, .getfield 39, 3, 1000, 1, 9, 113, 0, 19), (43, .iload 4, 2, 0, 0, 0, 0, 0, 0), (45, .iaload, 1, 0, 0, 0, 0, 0, 0), (46, .if_icmp .eq 70, 3, 116, 0, 0, 0, 0, 0), (49, .iload 6, 2, 0, 0, 0, 0, 0, 0), (51, .aload_n 0, 1, 0, 0, 0, 0, 0, 0), (52, .getfield 12, 3, 800, 1, 7, 945, 0, 17), (55, .iload 5, 2, 0, 0, 0, 0, 0, 0), (57, .sipush 241, 3, 0, 0, 0, 0, 0, 0), (60, .iadd, 1, 0, 0, 0, 0, 0, 0), (61, .iaload, 1, 0, 0, 0, 0, 0, 0), (62, .if_icmp .gt 8, 3, 70, 0, 0, 0, 0, 0), (65, .iload 6, 2, 0, 0, 0, 0, 0, 0), (67, .goto 14, 3, 81, 0, 0, 0, 0, 0), (70, .aload_n 0, 1, 0, 0, 0, 0, 0, 0), (71, .getfield 12, 3, 800, 1, 7, 945, 0, 17), (74, .iload 5, 2, 0, 0, 0, 0, 0, 0), (76, .sipush 241, 3, 0, 0, 0, 0, 0, 0), (79, .iadd, 1, 0, 0, 0, 0, 0, 0), (80, .iaload, 1, 0, 0, 0, 0, 0, 0), (81, .istore 6, 2, 0, 0, 0, 0, 0, 0), (83, .iload 6, 2, 0, 0, 0, 0, 0, 0), (85, .aload_n 0, 1, 0, 0, 0, 0, 0, 0), (86, .getfield 12, 3, 800, 1, 7, 945, 0, 17), (89, .iload 5, 2, 0, 0, 0, 0, 0, 0), (91, .iconst 1, 1, 0, 0, 0, 0, 0, 0), (92, .iadd, 1, 0, 0, 0, 0, 0, 0), (93, .iaload, 1, 0, 0, 0, 0, 0, 0), (94, .if_icmp .gt 8, 3, 102, 0, 0, 0, 0, 0), (97, .iload 6, 2, 0, 0, 0, 0, 0, 0), (99, .goto 12, 3, 111, 0, 0, 0, 0, 0), (102, .aload_n 0, 1, 0, 0, 0, 0, 0, 0), (103, .getfield 12, 3, 800, 1, 7, 945, 0, 17), (106, .iload 5, 2, 0, 0, 0, 0, 0, 0), (108, .iconst 1, 1, 0, 0, 0, 0, 0, 0), (109, .iadd, 1, 0, 0, 0, 0, 0, 0), (110, .iaload, 1, 0, 0, 0, 0, 0, 0), (111, .istore 6, 2, 0, 0, 0, 0, 0, 0), (113, .iinc 6 1, 3, 0, 0, 0, 0, 0, 0), (116, .aload_n 0, 1, 0, 0, 0, 0, 0, 0), (117, .getfield 12, 3, 800, 1, 7, 945, 0, 17), (120, .iload 5, 2, 0, 0, 0, 0, 0, 0), (122, .iload 6, 2, 0, 0, 0, 0, 0, 0), (124, .iastore, 1, 0, 0, 0, 0, 0, 0), (125, .iinc 4 (-1), 3, 0, 0, 0, 0, 0, 0), (128, .goto (-120), 3, 8, 0, 0, 0, 0, 0), (131, .return_, 1, 0, 0, 0, 0, 0, 0)]
set_option maxRecDepth 100000 in
theorem jk_X7_measureDistancesFrom : ji_X7_measureDistancesFrom.all (jck 52) = true := by decide +kernel
def ji_X7_wayOn : List JI := [(0, .iload_n 2, 1, 0, 0, 0, 0, 0, 0), (1, .aload_n 1, 1, 0, 0, 0, 0, 0, 0), (2, .getfield 25, 3, 2901, 0, 9, 121, 0, 19), (5, .if_icmp .ne 5, 3, 10, 0, 0, 0, 0, 0), (8, .iconst 0, 1, 0, 0, 0, 0, 0, 0), (9, .ireturn, 1, 0, 0, 0, 0, 0, 0), (10, .iload 4, 2, 0, 0, 0, 0, 0, 0), (12, .aload_n 3, 1, 0, 0, 0, 0, 0, 0), (13, .getfield 25, 3, 2901, 0, 9, 121, 0, 19), (16, .if_icmp .ne 5, 3, 21, 0, 0, 0, 0, 0), (19, .iconst 1, 1, 0, 0, 0, 0, 0, 0), (20, .ireturn, 1, 0, 0, 0, 0, 0, 0), (21, .iload_n 2, 1, 0, 0, 0, 0, 0, 0), (22, .sipush 241, 3, 0, 0, 0, 0, 0, 0), (25, .imul, 1, 0, 0, 0, 0, 0, 0), (26, .iload 4, 2, 0, 0, 0, 0, 0, 0), (28, .iadd, 1, 0, 0, 0, 0, 0, 0), (29, .istore 5, 2, 0, 0, 0, 0, 0, 0), (31, .aload_n 0, 1, 0, 0, 0, 0, 0, 0), (32, .getfield 12, 3, 800, 1, 7, 945, 0, 17), (35, .iload 5, 2, 0, 0, 0, 0, 0, 0), (37, .iaload, 1, 0, 0, 0, 0, 0, 0), (38, .iconst 1, 1, 0, 0, 0, 0, 0, 0), (39, .isub, 1, 0, 0, 0, 0, 0, 0), (40, .istore 6, 2, 0, 0, 0, 0, 0, 0), (42, .aload_n 0, 1, 0, 0, 0, 0, 0, 0), (43, .getfield 12, 3, 800, 1, 7, 945, 0, 17), (46, .iload 5, 2, 0, 0, 0, 0, 0, 0), (48, .sipush 241, 3, 0, 0, 0, 0, 0, 0), (51, .iadd, 1, 0, 0, 0, 0, 0, 0), (52, .iconst 1, 1, 0, 0, 0, 0, 0, 0), (53, .iadd, 1, 0, 0, 0, 0, 0, 0), (54, .iaload, 1, 0, 0, 0, 0, 0, 0), (55, .iload 6, 2, 0, 0, 0, 0, 0, 0), (57, .if_icmp .ne 5, 3, 62, 0, 0, 0, 0, 0), (60, .iconst 2, 1, 0, 0, 0, 0, 0, 0), (61, .ireturn, 1, 0, 0, 0, 0, 0, 0), (62, .aload_n 0, 1, 0, 0, 0, 0, 0, 0), (63, .getfield 12, 3, 800, 1, 7, 945, 0, 17), (66, .iload 5, 2, 0, 0, 0, 0, 0, 0), (68, .sipush 241, 3, 0, 0, 0, 0, 0, 0), (71, .iadd, 1, 0, 0, 0, 0, 0, 0), (72, .iaload, 1, 0, 0, 0, 0, 0, 0), (73, .iload 6, 2, 0, 0, 0, 0, 0, 0), (75, .if_icmp .ne 7, 3, 82, 0, 0, 0, 0, 0), (78, .iconst 1, 1, 0, 0, 0, 0, 0, 0), (79, .goto 4, 3, 83, 0, 0, 0, 0, 0), (82, .iconst 0, 1, 0, 0, 0, 0, 0, 0), (83, .ireturn, 1, 0, 0, 0, 0, 0, 0)]
set_option maxRecDepth 100000 in
theorem jk_X7_wayOn : ji_X7_wayOn.all (jck 53) = true := by decide +kernel
def ji_X7_tellPairs : List JI := [(0, .aload_n 0, 1, 0, 0, 0, 0, 0, 0), (1, .aload_n 1, 1, 0, 0, 0, 0, 0, 0), (2, .aload_n 2, 1, 0, 0, 0, 0, 0, 0), (3, .invokevirtual 50, 3, 55, 3, 3, 982, 0, 17), (6, .aload_n 3, 1, 0, 0, 0, 0, 0, 0), (7, .invokevirtual 20, 3, 101, 1, 3, 961, 0, 20), (10, .iconst 0, 1, 0, 0, 0, 0, 0, 0), (11, .istore 4, 2, 0, 0, 0, 0, 0, 0), (13, .iconst 0, 1, 0, 0, 0, 0, 0, 0), (14, .istore 5, 2, 0, 0, 0, 0, 0, 0), (16, .iload 5, 2, 0, 0, 0, 0, 0, 0), (18, .aload_n 1, 1, 0, 0, 0, 0, 0, 0), (19, .getfield 25, 3, 2901, 0, 9, 121, 0, 19), (22, .if_icmp .ge 106, 3, 128, 0, 0, 0, 0, 0), (25, .iload 4, 2, 0, 0, 0, 0, 0, 0), (27, .istore 6, 2, 0, 0, 0, 0, 0, 0), (29, .iload 6, 2, 0, 0, 0, 0, 0, 0), (31, .aload_n 2, 1, 0, 0, 0, 0, 0, 0), (32, .getfield 25, 3, 2901, 0, 9, 121, 0, 19), (35, .if_icmp .ge 26, 3, 61, 0, 0, 0, 0, 0), (38, .aload_n 2, 1, 0, 0, 0, 0, 0, 0), (39, .getfield 39, 3, 1000, 1, 9, 113, 0, 19), (42, .iload 6, 2, 0, 0, 0, 0, 0, 0), (44, .iaload, 1, 0, 0, 0, 0, 0, 0), (45, .aload_n 1, 1, 0, 0, 0, 0, 0, 0), (46, .getfield 39, 3, 1000, 1, 9, 113, 0, 19), (49, .iload 5, 2, 0, 0, 0, 0, 0, 0), (51, .iaload, 1, 0, 0, 0, 0, 0, 0), (52, .if_icmp .eq 9, 3, 61, 0, 0, 0, 0, 0), (55, .iinc 6 1, 3, 0, 0, 0, 0, 0, 0), (58, .goto (-29), 3, 29, 0, 0, 0, 0, 0), (61, .iload 6, 2, 0, 0, 0, 0, 0, 0), (63, .aload_n 2, 1, 0, 0, 0, 0, 0, 0), (64, .getfield 25, 3, 2901, 0, 9, 121, 0, 19), (67, .if_icmp .ge 55, 3, 122, 0, 0, 0, 0, 0), (70, .aload_n 0, 1, 0, 0, 0, 0, 0, 0), (71, .getfield 12, 3, 800, 1, 7, 945, 0, 17), (74, .iload 5, 2, 0, 0, 0, 0, 0, 0), (76, .iconst 1, 1, 0, 0, 0, 0, 0, 0), (77, .iadd, 1, 0, 0, 0, 0, 0, 0), (78, .sipush 241, 3, 0, 0, 0, 0, 0, 0), (81, .imul, 1, 0, 0, 0, 0, 0, 0), (82, .iload 6, 2, 0, 0, 0, 0, 0, 0), (84, .iadd, 1, 0, 0, 0, 0, 0, 0), (85, .iconst 1, 1, 0, 0, 0, 0, 0, 0), (86, .iadd, 1, 0, 0, 0, 0, 0, 0), (87, .iaload, 1, 0, 0, 0, 0, 0, 0), (88, .iconst 1, 1, 0, 0, 0, 0, 0, 0), (89, .iadd, 1, 0, 0, 0, 0, 0, 0), (90, .aload_n 0, 1, 0, 0, 0, 0, 0, 0), (91, .getfield 12, 3, 800, 1, 7, 945, 0, 17), (94, .iload 5, 2, 0, 0, 0, 0, 0, 0), (96, .sipush 241, 3, 0, 0, 0, 0, 0, 0), (99, .imul, 1, 0, 0, 0, 0, 0, 0), (100, .iload 4, 2, 0, 0, 0, 0, 0, 0), (102, .iadd, 1, 0, 0, 0, 0, 0, 0), (103, .iaload, 1, 0, 0, 0, 0, 0, 0), (104, .if_icmp .ne 18, 3, 122, 0, 0, 0, 0, 0), (107, .aload_n 3, 1, 0, 0, 0, 0, 0, 0), (108, .iload 5, 2, 0, 0, 0, 0, 0, 0), (110, .iload 6, 2, 0, 0, 0, 0, 0, 0), (112, .iconst 0, 1, 0, 0, 0, 0, 0, 0), (113, .invokevirtual 42, 3, 103, 4, 3, 969, 0, 20), (116, .iload 6, 2, 0, 0, 0, 0, 0, 0), (118, .iconst 1, 1, 0, 0, 0, 0, 0, 0), (119, .iadd, 1, 0, 0, 0, 0, 0, 0), (120, .istore 4, 2, 0, 0, 0, 0, 0, 0), (122, .iinc 5 1, 3, 0, 0, 0, 0, 0, 0), (125, .goto (-109), 3, 16, 0, 0, 0, 0, 0), (128, .return_, 1, 0, 0, 0, 0, 0, 0)]
set_option maxRecDepth 100000 in
theorem jk_X7_tellPairs : ji_X7_tellPairs.all (jck 54) = true := by decide +kernel
end
section
/-! instructions, by wip/whole/gen4.py -/
def ji_X7_measurePairs : List JI := [(0, .iconst 0, 1, 0, 0, 0, 0, 0, 0), (1, .istore_n 3, 1, 0, 0, 0, 0, 0, 0), (2, .iload_n 3, 1, 0, 0, 0, 0, 0, 0), (3, .aload_n 2, 1, 0, 0, 0, 0, 0, 0), (4, .getfield 25, 3, 2901, 0, 9, 121, 0, 19), (7, .if_icmp .gt 25, 3, 32, 0, 0, 0, 0, 0), (10, .aload_n 0, 1, 0, 0, 0, 0, 0, 0), (11, .getfield 12, 3, 800, 1, 7, 945, 0, 17), (14, .aload_n 1, 1, 0, 0, 0, 0, 0, 0), (15, .getfield 25, 3, 2901, 0, 9, 121, 0, 19), (18, .sipush 241, 3, 0, 0, 0, 0, 0, 0), (21, .imul, 1, 0, 0, 0, 0, 0, 0), (22, .iload_n 3, 1, 0, 0, 0, 0, 0, 0), (23, .iadd, 1, 0, 0, 0, 0, 0, 0), (24, .iconst 0, 1, 0, 0, 0, 0, 0, 0), (25, .iastore, 1, 0, 0, 0, 0, 0, 0), (26, .iinc 3 1, 3, 0, 0, 0, 0, 0, 0), (29, .goto (-27), 3, 2, 0, 0, 0, 0, 0), (32, .aload_n 1, 1, 0, 0, 0, 0, 0, 0), (33, .getfield 25, 3, 2901, 0, 9, 121, 0, 19), (36, .iconst 1, 1, 0, 0, 0, 0, 0, 0), (37, .isub, 1, 0, 0, 0, 0, 0, 0), (38, .istore_n 3, 1, 0, 0, 0, 0, 0, 0), (39, .iload_n 3, 1, 0, 0, 0, 0, 0, 0), (40, .ifCond .lt 37, 3, 77, 0, 0, 0, 0, 0), (43, .aload_n 0, 1, 0, 0, 0, 0, 0, 0), (44, .getfield 12, 3, 800, 1, 7, 945, 0, 17), (47, .iload_n 3, 1, 0, 0, 0, 0, 0, 0), (48, .sipush 241, 3, 0, 0, 0, 0, 0, 0), (51, .imul, 1, 0, 0, 0, 0, 0, 0), (52, .aload_n 2, 1, 0, 0, 0, 0, 0, 0), (53, .getfield 25, 3, 2901, 0, 9, 121, 0, 19), (56, .iadd, 1, 0, 0, 0, 0, 0, 0), (57, .iconst 0, 1, 0, 0, 0, 0, 0, 0), (58, .iastore, 1, 0, 0, 0, 0, 0, 0), (59, .aload_n 0, 1, 0, 0, 0, 0, 0, 0), (60, .iload_n 3, 1, 0, 0, 0, 0, 0, 0), (61, .aload_n 1, 1, 0, 0, 0, 0, 0, 0), (62, .getfield 39, 3, 1000, 1, 9, 113, 0, 19), (65, .iload_n 3, 1, 0, 0, 0, 0, 0, 0), (66, .iaload, 1, 0, 0, 0, 0, 0, 0), (67, .aload_n 2, 1, 0, 0, 0, 0, 0, 0), (68, .invokevirtual 53, 3, 56, 4, 3, 986, 0, 17), (71, .iinc 3 (-1), 3, 0, 0, 0, 0, 0, 0), (74, .goto (-35), 3, 39, 0, 0, 0, 0, 0), (77, .return_, 1, 0, 0, 0, 0, 0, 0)]
set_option maxRecDepth 100000 in
theorem jk_X7_measurePairs : ji_X7_measurePairs.all (jck 55) = true := by decide +kernel
def ji_X7_measurePairsFrom : List JI := [(0, .aload_n 3, 1, 0, 0, 0, 0, 0, 0), (1, .getfield 25, 3, 2901, 0, 9, 121, 0, 19), (4, .iconst 1, 1, 0, 0, 0, 0, 0, 0), (5, .isub, 1, 0, 0, 0, 0, 0, 0), (6, .istore 4, 2, 0, 0, 0, 0, 0, 0), (8, .iload 4, 2, 0, 0, 0, 0, 0, 0), (10, .ifCond .lt 85, 3, 95, 0, 0, 0, 0, 0), (13, .iload_n 1, 1, 0, 0, 0, 0, 0, 0), (14, .sipush 241, 3, 0, 0, 0, 0, 0, 0), (17, .imul, 1, 0, 0, 0, 0, 0, 0), (18, .iload 4, 2, 0, 0, 0, 0, 0, 0), (20, .iadd, 1, 0, 0, 0, 0, 0, 0), (21, .istore 5, 2, 0, 0, 0, 0, 0, 0), (23, .iload_n 2, 1, 0, 0, 0, 0, 0, 0), (24, .aload_n 3, 1, 0, 0, 0, 0, 0, 0), (25, .getfield 39, 3, 1000, 1, 9, 113, 0, 19), (28, .iload 4, 2, 0, 0, 0, 0, 0, 0), (30, .iaload, 1, 0, 0, 0, 0, 0, 0), (31, .if_icmp .ne 28, 3, 59, 0, 0, 0, 0, 0), (34, .aload_n 0, 1, 0, 0, 0, 0, 0, 0), (35, .getfield 12, 3, 800, 1, 7, 945, 0, 17), (38, .iload 5, 2, 0, 0, 0, 0, 0, 0), (40, .aload_n 0, 1, 0, 0, 0, 0, 0, 0), (41, .getfield 12, 3, 800, 1, 7, 945, 0, 17), (44, .iload 5, 2, 0, 0, 0, 0, 0, 0), (46, .sipush 241, 3, 0, 0, 0, 0, 0, 0), (49, .iadd, 1, 0, 0, 0, 0, 0, 0), (50, .iconst 1, 1, 0, 0, 0, 0, 0, 0), (51, .iadd, 1, 0, 0, 0, 0, 0, 0), (52, .iaload, 1, 0, 0, 0, 0, 0, 0), (53, .iconst 1, 1, 0, 0, 0, 0, 0, 0), (54, .iadd, 1, 0, 0, 0, 0, 0, 0), (55, .iastore, 1, 0, 0, 0, 0, 0, 0), (56, .goto 33, 3, 89, 0, 0, 0, 0, 0), (59, .aload_n 0, 1, 0, 0, 0, 0, 0, 0), (60, .getfield 12, 3, 800, 1, 7, 945, 0, 17), (63, .iload 5, 2, 0, 0, 0, 0, 0, 0), (65, .aload_n 0, 1, 0, 0, 0, 0, 0, 0), (66, .getfield 12, 3, 800, 1, 7, 945, 0, 17), (69, .iload 5, 2, 0, 0, 0, 0, 0, 0), (71, .sipush 241, 3, 0, 0, 0, 0, 0, 0), (74, .iadd, 1, 0, 0, 0, 0, 0, 0), (75, .iaload, 1, 0, 0, 0, 0, 0, 0), (76, .aload_n 0, 1, 0, 0, 0, 0, 0, 0), (77, .getfield 12, 3, 800, 1, 7, 945, 0, 17), (80, .iload 5, 2, 0, 0, 0, 0, 0, 0), (82, .iconst 1, 1, 0, 0, 0, 0, 0, 0), (83, .iadd, 1, 0, 0, 0, 0, 0, 0), (84, .iaload, 1, 0, 0, 0, 0, 0, 0), (85, .invokestatic 56, 3, 1001, 2, 0, 990, 0, 0), (88, .iastore, 1, 0, 0, 0, 0, 0, 0), (89, .iinc 4 (-1), 3, 0, 0, 0, 0, 0, 0), (92, .goto (-84), 3, 8, 0, 0, 0, 0, 0), (95, .return_, 1, 0, 0, 0, 0, 0, 0)]
set_option maxRecDepth 100000 in
theorem jk_X7_measurePairsFrom : ji_X7_measurePairsFrom.all (jck 56) = true := by decide +kernel
def ji_X8_init : List JI := [(0, .aload_n 0, 1, 0, 0, 0, 0, 0, 0), (1, .invokespecial 3, 3, 1000, 1, 0, 181, 0, 0), (4, .aload_n 0, 1, 0, 0, 0, 0, 0, 0), (5, .bipush 40, 2, 0, 0, 0, 0, 0, 0), (7, .newarray .int, 2, 0, 0, 0, 133, 0, 1), (9, .putfield 9, 3, 902, 1, 8, 185, 0, 18), (12, .aload_n 0, 1, 0, 0, 0, 0, 0, 0), (13, .bipush 40, 2, 0, 0, 0, 0, 0, 0), (15, .newarray .int, 2, 0, 0, 0, 133, 0, 1), (17, .putfield 15, 3, 903, 1, 8, 186, 0, 18), (20, .aload_n 0, 1, 0, 0, 0, 0, 0, 0), (21, .bipush 40, 2, 0, 0, 0, 0, 0, 0), (23, .newarray .int, 2, 0, 0, 0, 133, 0, 1), (25, .putfield 18, 3, 904, 1, 8, 187, 0, 18), (28, .aload_n 0, 1, 0, 0, 0, 0, 0, 0), (29, .iconst (-1), 1, 0, 0, 0, 0, 0, 0), (30, .putfield 21, 3, 2811, 0, 8, 194, 0, 18), (33, .aload_n 0, 1, 0, 0, 0, 0, 0, 0), (34, .iconst (-1), 1, 0, 0, 0, 0, 0, 0), (35, .putfield 25, 3, 2812, 0, 8, 195, 0, 18), (38, .iload_n 1, 1, 0, 0, 0, 0, 0, 0), (39, .iconst 1, 1, 0, 0, 0, 0, 0, 0), (40, .invokestatic 28, 3, 1001, 2, 0, 182, 0, 0), (43, .istore_n 2, 1, 0, 0, 0, 0, 0, 0), (44, .aload_n 0, 1, 0, 0, 0, 0, 0, 0), (45, .iload_n 2, 1, 0, 0, 0, 0, 0, 0), (46, .newarray .int, 2, 0, 0, 0, 133, 0, 1), (48, .putfield 34, 3, 900, 1, 8, 183, 0, 18), (51, .aload_n 0, 1, 0, 0, 0, 0, 0, 0), (52, .iload_n 2, 1, 0, 0, 0, 0, 0, 0), (53, .newarray .int, 2, 0, 0, 0, 133, 0, 1), (55, .putfield 37, 3, 901, 1, 8, 184, 0, 18), (58, .aload_n 0, 1, 0, 0, 0, 0, 0, 0), (59, .iload_n 2, 1, 0, 0, 0, 0, 0, 0), (60, .newarray .int, 2, 0, 0, 0, 133, 0, 1), (62, .putfield 40, 3, 905, 1, 8, 188, 0, 18), (65, .aload_n 0, 1, 0, 0, 0, 0, 0, 0), (66, .iload_n 2, 1, 0, 0, 0, 0, 0, 0), (67, .newarray .int, 2, 0, 0, 0, 133, 0, 1), (69, .putfield 43, 3, 906, 1, 8, 189, 0, 18), (72, .aload_n 0, 1, 0, 0, 0, 0, 0, 0), (73, .iload_n 2, 1, 0, 0, 0, 0, 0, 0), (74, .newarray .int, 2, 0, 0, 0, 133, 0, 1), (76, .putfield 46, 3, 907, 1, 8, 190, 0, 18), (79, .aload_n 0, 1, 0, 0, 0, 0, 0, 0), (80, .iload_n 2, 1, 0, 0, 0, 0, 0, 0), (81, .sipush 512, 3, 0, 0, 0, 0, 0, 0), (84, .invokestatic 28, 3, 1001, 2, 0, 182, 0, 0), (87, .newarray .int, 2, 0, 0, 0, 133, 0, 1), (89, .putfield 49, 3, 908, 1, 8, 191, 0, 18), (92, .aload_n 0, 1, 0, 0, 0, 0, 0, 0), (93, .iload_n 2, 1, 0, 0, 0, 0, 0, 0), (94, .newarray .int, 2, 0, 0, 0, 133, 0, 1), (96, .putfield 52, 3, 909, 1, 8, 192, 0, 18), (99, .return_, 1, 0, 0, 0, 0, 0, 0)]
set_option maxRecDepth 100000 in
theorem jk_X8_init : ji_X8_init.all (jck 57) = true := by decide +kernel
def ji_X8_holdOne : List JI := [(0, .aload_n 1, 1, 0, 0, 0, 0, 0, 0), (1, .iload_n 2, 1, 0, 0, 0, 0, 0, 0), (2, .invokevirtual 55, 3, 27, 2, 1, 600, 0, 14), (5, .astore_n 3, 1, 0, 0, 0, 0, 0, 0), (6, .aload_n 3, 1, 0, 0, 0, 0, 0, 0), (7, .ifnull 22, 3, 29, 0, 0, 0, 0, 0), (10, .aload_n 0, 1, 0, 0, 0, 0, 0, 0), (11, .getfield 21, 3, 2811, 0, 8, 194, 0, 18), (14, .iload_n 2, 1, 0, 0, 0, 0, 0, 0), (15, .if_icmp .ne 15, 3, 30, 0, 0, 0, 0, 0), (18, .aload_n 0, 1, 0, 0, 0, 0, 0, 0), (19, .getfield 25, 3, 2812, 0, 8, 195, 0, 18), (22, .aload_n 1, 1, 0, 0, 0, 0, 0, 0), (23, .getfield 61, 3, 2405, 0, 4, 161, 0, 14), (26, .if_icmp .ne 4, 3, 30, 0, 0, 0, 0, 0), (29, .return_, 1, 0, 0, 0, 0, 0, 0), (30, .aload_n 0, 1, 0, 0, 0, 0, 0, 0), (31, .iconst 0, 1, 0, 0, 0, 0, 0, 0), (32, .putfield 64, 3, 2810, 0, 8, 193, 0, 18), (35, .aload_n 0, 1, 0, 0, 0, 0, 0, 0), (36, .aload_n 3, 1, 0, 0, 0, 0, 0, 0), (37, .iconst 0, 1, 0, 0, 0, 0, 0, 0), (38, .invokevirtual 67, 3, 60, 3, 3, 601, 0, 18), (41, .aload_n 0, 1, 0, 0, 0, 0, 0, 0), (42, .invokevirtual 71, 3, 62, 1, 3, 609, 0, 18), (45, .aload_n 0, 1, 0, 0, 0, 0, 0, 0), (46, .iload_n 2, 1, 0, 0, 0, 0, 0, 0), (47, .putfield 21, 3, 2811, 0, 8, 194, 0, 18), (50, .aload_n 0, 1, 0, 0, 0, 0, 0, 0), (51, .aload_n 1, 1, 0, 0, 0, 0, 0, 0), (52, .getfield 61, 3, 2405, 0, 4, 161, 0, 14), (55, .putfield 25, 3, 2812, 0, 8, 195, 0, 18), (58, .return_, 1, 0, 0, 0, 0, 0, 0)]
set_option maxRecDepth 100000 in
theorem jk_X8_holdOne : ji_X8_holdOne.all (jck 58) = true := by decide +kernel
def ji_X8_holdAll : List JI := [(0, .aload_n 0, 1, 0, 0, 0, 0, 0, 0), (1, .getfield 21, 3, 2811, 0, 8, 194, 0, 18), (4, .bipush 40, 2, 0, 0, 0, 0, 0, 0), (6, .if_icmp .ne 15, 3, 21, 0, 0, 0, 0, 0), (9, .aload_n 0, 1, 0, 0, 0, 0, 0, 0), (10, .getfield 25, 3, 2812, 0, 8, 195, 0, 18), (13, .aload_n 1, 1, 0, 0, 0, 0, 0, 0), (14, .getfield 61, 3, 2405, 0, 4, 161, 0, 14), (17, .if_icmp .ne 4, 3, 21, 0, 0, 0, 0, 0), (20, .return_, 1, 0, 0, 0, 0, 0, 0), (21, .aload_n 0, 1, 0, 0, 0, 0, 0, 0), (22, .iconst 0, 1, 0, 0, 0, 0, 0, 0), (23, .putfield 64, 3, 2810, 0, 8, 193, 0, 18), (26, .iconst 0, 1, 0, 0, 0, 0, 0, 0), (27, .istore_n 2, 1, 0, 0, 0, 0, 0, 0), (28, .iload_n 2, 1, 0, 0, 0, 0, 0, 0), (29, .aload_n 1, 1, 0, 0, 0, 0, 0, 0), (30, .getfield 74, 3, 2402, 0, 4, 156, 0, 14), (33, .if_icmp .ge 32, 3, 65, 0, 0, 0, 0, 0), (36, .iload_n 2, 1, 0, 0, 0, 0, 0, 0), (37, .bipush 40, 2, 0, 0, 0, 0, 0, 0), (39, .if_icmp .ge 26, 3, 65, 0, 0, 0, 0, 0), (42, .aload_n 0, 1, 0, 0, 0, 0, 0, 0), (43, .aload_n 1, 1, 0, 0, 0, 0, 0, 0), (44, .getfield 77, 3, 500, 1, 4, 153, 0, 14), (47, .iload_n 2, 1, 0, 0, 0, 0, 0, 0), (48, .aaload, 1, 0, 0, 0, 0, 0, 0), (49, .iload_n 2, 1, 0, 0, 0, 0, 0, 0), (50, .invokevirtual 67, 3, 60, 3, 3, 601, 0, 18), (53, .aload_n 0, 1, 0, 0, 0, 0, 0, 0), (54, .iload_n 2, 1, 0, 0, 0, 0, 0, 0), (55, .iload_n 2, 1, 0, 0, 0, 0, 0, 0), (56, .invokevirtual 81, 3, 61, 3, 3, 605, 0, 18), (59, .iinc 2 1, 3, 0, 0, 0, 0, 0, 0), (62, .goto (-34), 3, 28, 0, 0, 0, 0, 0), (65, .aload_n 0, 1, 0, 0, 0, 0, 0, 0), (66, .invokevirtual 71, 3, 62, 1, 3, 609, 0, 18), (69, .aload_n 0, 1, 0, 0, 0, 0, 0, 0), (70, .bipush 40, 2, 0, 0, 0, 0, 0, 0), (72, .putfield 21, 3, 2811, 0, 8, 194, 0, 18), (75, .aload_n 0, 1, 0, 0, 0, 0, 0, 0), (76, .aload_n 1, 1, 0, 0, 0, 0, 0, 0), (77, .getfield 61, 3, 2405, 0, 4, 161, 0, 14), (80, .putfield 25, 3, 2812, 0, 8, 195, 0, 18), (83, .return_, 1, 0, 0, 0, 0, 0, 0)]
set_option maxRecDepth 100000 in
theorem jk_X8_holdAll : ji_X8_holdAll.all (jck 59) = true := by decide +kernel
def ji_X8_join : List JI := [(0, .aload_n 0, 1, 0, 0, 0, 0, 0, 0), (1, .getfield 9, 3, 902, 1, 8, 185, 0, 18), (4, .iload_n 2, 1, 0, 0, 0, 0, 0, 0), (5, .aload_n 0, 1, 0, 0, 0, 0, 0, 0), (6, .getfield 64, 3, 2810, 0, 8, 193, 0, 18), (9, .iastore, 1, 0, 0, 0, 0, 0, 0), (10, .iconst 0, 1, 0, 0, 0, 0, 0, 0), (11, .istore_n 3, 1, 0, 0, 0, 0, 0, 0), (12, .iload_n 3, 1, 0, 0, 0, 0, 0, 0), (13, .aload_n 1, 1, 0, 0, 0, 0, 0, 0), (14, .getfield 85, 3, 2901, 0, 9, 126, 0, 19), (17, .if_icmp .ge 23, 3, 40, 0, 0, 0, 0, 0), (20, .aload_n 0, 1, 0, 0, 0, 0, 0, 0), (21, .aload_n 1, 1, 0, 0, 0, 0, 0, 0), (22, .getfield 88, 3, 1000, 1, 9, 116, 0, 19), (25, .iload_n 3, 1, 0, 0, 0, 0, 0, 0), (26, .iaload, 1, 0, 0, 0, 0, 0, 0), (27, .bipush 40, 2, 0, 0, 0, 0, 0, 0), (29, .iadd, 1, 0, 0, 0, 0, 0, 0), (30, .iload_n 2, 1, 0, 0, 0, 0, 0, 0), (31, .invokevirtual 81, 3, 61, 3, 3, 605, 0, 18), (34, .iinc 3 1, 3, 0, 0, 0, 0, 0, 0), (37, .goto (-25), 3, 12, 0, 0, 0, 0, 0), (40, .aload_n 0, 1, 0, 0, 0, 0, 0, 0), (41, .getfield 15, 3, 903, 1, 8, 186, 0, 18), (44, .iload_n 2, 1, 0, 0, 0, 0, 0, 0), (45, .aload_n 0, 1, 0, 0, 0, 0, 0, 0), (46, .getfield 64, 3, 2810, 0, 8, 193, 0, 18), (49, .iastore, 1, 0, 0, 0, 0, 0, 0), (50, .return_, 1, 0, 0, 0, 0, 0, 0)]
set_option maxRecDepth 100000 in
theorem jk_X8_join : ji_X8_join.all (jck 60) = true := by decide +kernel
def ji_X8_addSign : List JI := [(0, .aload_n 0, 1, 0, 0, 0, 0, 0, 0), (1, .getfield 64, 3, 2810, 0, 8, 193, 0, 18), (4, .aload_n 0, 1, 0, 0, 0, 0, 0, 0), (5, .getfield 34, 3, 900, 1, 8, 183, 0, 18), (8, .arraylength, 1, 0, 0, 0, 0, 0, 0), (9, .if_icmp .ge 33, 3, 42, 0, 0, 0, 0, 0), (12, .aload_n 0, 1, 0, 0, 0, 0, 0, 0), (13, .getfield 34, 3, 900, 1, 8, 183, 0, 18), (16, .aload_n 0, 1, 0, 0, 0, 0, 0, 0), (17, .getfield 64, 3, 2810, 0, 8, 193, 0, 18), (20, .iload_n 1, 1, 0, 0, 0, 0, 0, 0), (21, .iastore, 1, 0, 0, 0, 0, 0, 0), (22, .aload_n 0, 1, 0, 0, 0, 0, 0, 0), (23, .getfield 37, 3, 901, 1, 8, 184, 0, 18), (26, .aload_n 0, 1, 0, 0, 0, 0, 0, 0), (27, .getfield 64, 3, 2810, 0, 8, 193, 0, 18), (30, .iload_n 2, 1, 0, 0, 0, 0, 0, 0), (31, .iastore, 1, 0, 0, 0, 0, 0, 0), (32, .aload_n 0, 1, 0, 0, 0, 0, 0, 0), (33, .dup, 1, 0, 0, 0, 0, 0, 0), (34, .getfield 64, 3, 2810, 0, 8, 193, 0, 18), (37, .iconst 1, 1, 0, 0, 0, 0, 0, 0), (38, .iadd, 1, 0, 0, 0, 0, 0, 0), (39, .putfield 64, 3, 2810, 0, 8, 193, 0, 18), (42, .return_, 1, 0, 0, 0, 0, 0, 0)]
set_option maxRecDepth 100000 in
theorem jk_X8_addSign : ji_X8_addSign.all (jck 61) = true := by decide +kernel
def ji_X8_arrange : List JI := [(0, .aload_n 0, 1, 0, 0, 0, 0, 0, 0), (1, .getfield 64, 3, 2810, 0, 8, 193, 0, 18), (4, .ifCond .ne 4, 3, 8, 0, 0, 0, 0, 0), (7, .return_, 1, 0, 0, 0, 0, 0, 0), (8, .aload_n 0, 1, 0, 0, 0, 0, 0, 0), (9, .invokevirtual 91, 3, 63, 1, 3, 613, 0, 18), (12, .aload_n 0, 1, 0, 0, 0, 0, 0, 0), (13, .invokevirtual 94, 3, 65, 1, 0, 622, 0, 18), (16, .istore_n 1, 1, 0, 0, 0, 0, 0, 0), (17, .iconst 1, 1, 0, 0, 0, 0, 0, 0), (18, .istore_n 2, 1, 0, 0, 0, 0, 0, 0), (19, .iload_n 2, 1, 0, 0, 0, 0, 0, 0), (20, .aload_n 0, 1, 0, 0, 0, 0, 0, 0), (21, .getfield 64, 3, 2810, 0, 8, 193, 0, 18), (24, .if_icmp .ge 40, 3, 64, 0, 0, 0, 0, 0), (27, .iload_n 1, 1, 0, 0, 0, 0, 0, 0), (28, .aload_n 0, 1, 0, 0, 0, 0, 0, 0), (29, .getfield 64, 3, 2810, 0, 8, 193, 0, 18), (32, .if_icmp .ge 32, 3, 64, 0, 0, 0, 0, 0), (35, .aload_n 0, 1, 0, 0, 0, 0, 0, 0), (36, .iload_n 2, 1, 0, 0, 0, 0, 0, 0), (37, .invokevirtual 98, 3, 66, 2, 3, 626, 0, 18), (40, .aload_n 0, 1, 0, 0, 0, 0, 0, 0), (41, .aload_n 0, 1, 0, 0, 0, 0, 0, 0), (42, .getfield 43, 3, 906, 1, 8, 189, 0, 18), (45, .iconst 0, 1, 0, 0, 0, 0, 0, 0), (46, .iconst (-1), 1, 0, 0, 0, 0, 0, 0), (47, .iload_n 1, 1, 0, 0, 0, 0, 0, 0), (48, .invokevirtual 102, 3, 64, 5, 3, 617, 0, 18), (51, .aload_n 0, 1, 0, 0, 0, 0, 0, 0), (52, .iload_n 2, 1, 0, 0, 0, 0, 0, 0), (53, .invokevirtual 106, 3, 67, 2, 0, 630, 0, 18), (56, .istore_n 1, 1, 0, 0, 0, 0, 0, 0), (57, .iload_n 2, 1, 0, 0, 0, 0, 0, 0), (58, .iconst 2, 1, 0, 0, 0, 0, 0, 0), (59, .imul, 1, 0, 0, 0, 0, 0, 0), (60, .istore_n 2, 1, 0, 0, 0, 0, 0, 0), (61, .goto (-42), 3, 19, 0, 0, 0, 0, 0), (64, .aload_n 0, 1, 0, 0, 0, 0, 0, 0), (65, .invokevirtual 110, 3, 68, 1, 3, 638, 0, 18), (68, .return_, 1, 0, 0, 0, 0, 0, 0)]
set_option maxRecDepth 100000 in
theorem jk_X8_arrange : ji_X8_arrange.all (jck 62) = true := by decide +kernel
def ji_X8_orderBySign : List JI := [(0, .iconst 0, 1, 0, 0, 0, 0, 0, 0), (1, .istore_n 1, 1, 0, 0, 0, 0, 0, 0), (2, .iload_n 1, 1, 0, 0, 0, 0, 0, 0), (3, .aload_n 0, 1, 0, 0, 0, 0, 0, 0), (4, .getfield 64, 3, 2810, 0, 8, 193, 0, 18), (7, .if_icmp .ge 16, 3, 23, 0, 0, 0, 0, 0), (10, .aload_n 0, 1, 0, 0, 0, 0, 0, 0), (11, .getfield 46, 3, 907, 1, 8, 190, 0, 18), (14, .iload_n 1, 1, 0, 0, 0, 0, 0, 0), (15, .iload_n 1, 1, 0, 0, 0, 0, 0, 0), (16, .iastore, 1, 0, 0, 0, 0, 0, 0), (17, .iinc 1 1, 3, 0, 0, 0, 0, 0, 0), (20, .goto (-18), 3, 2, 0, 0, 0, 0, 0), (23, .aload_n 0, 1, 0, 0, 0, 0, 0, 0), (24, .aload_n 0, 1, 0, 0, 0, 0, 0, 0), (25, .getfield 34, 3, 900, 1, 8, 183, 0, 18), (28, .iconst 0, 1, 0, 0, 0, 0, 0, 0), (29, .sipush 255, 3, 0, 0, 0, 0, 0, 0), (32, .sipush 256, 3, 0, 0, 0, 0, 0, 0), (35, .invokevirtual 102, 3, 64, 5, 3, 617, 0, 18), (38, .aload_n 0, 1, 0, 0, 0, 0, 0, 0), (39, .getfield 40, 3, 905, 1, 8, 188, 0, 18), (42, .iconst 0, 1, 0, 0, 0, 0, 0, 0), (43, .aload_n 0, 1, 0, 0, 0, 0, 0, 0), (44, .getfield 46, 3, 907, 1, 8, 190, 0, 18), (47, .iconst 0, 1, 0, 0, 0, 0, 0, 0), (48, .aload_n 0, 1, 0, 0, 0, 0, 0, 0), (49, .getfield 64, 3, 2810, 0, 8, 193, 0, 18), (52, .invokestatic 113, 3, 1003, 5, 0, 621, 0, 0), (55, .aload_n 0, 1, 0, 0, 0, 0, 0, 0), (56, .aload_n 0, 1, 0, 0, 0, 0, 0, 0), (57, .getfield 34, 3, 900, 1, 8, 183, 0, 18), (60, .bipush 8, 2, 0, 0, 0, 0, 0, 0), (62, .sipush 511, 3, 0, 0, 0, 0, 0, 0), (65, .sipush 512, 3, 0, 0, 0, 0, 0, 0), (68, .invokevirtual 102, 3, 64, 5, 3, 617, 0, 18), (71, .return_, 1, 0, 0, 0, 0, 0, 0)]
set_option maxRecDepth 100000 in
theorem jk_X8_orderBySign : ji_X8_orderBySign.all (jck 63) = true := by decide +kernel
def ji_X8_orderSpare : List JI := [(0, .iconst 0, 1, 0, 0, 0, 0, 0, 0), (1, .istore 5, 2, 0, 0, 0, 0, 0, 0), (3, .iload 5, 2, 0, 0, 0, 0, 0, 0), (5, .iload 4, 2, 0, 0, 0, 0, 0, 0), (7, .if_icmp .ge 17, 3, 24, 0, 0, 0, 0, 0), (10, .aload_n 0, 1, 0, 0, 0, 0, 0, 0), (11, .getfield 49, 3, 908, 1, 8, 191, 0, 18), (14, .iload 5, 2, 0, 0, 0, 0, 0, 0), (16, .iconst 0, 1, 0, 0, 0, 0, 0, 0), (17, .iastore, 1, 0, 0, 0, 0, 0, 0), (18, .iinc 5 1, 3, 0, 0, 0, 0, 0, 0), (21, .goto (-18), 3, 3, 0, 0, 0, 0, 0), (24, .iconst 0, 1, 0, 0, 0, 0, 0, 0), (25, .istore 5, 2, 0, 0, 0, 0, 0, 0), (27, .iload 5, 2, 0, 0, 0, 0, 0, 0), (29, .aload_n 0, 1, 0, 0, 0, 0, 0, 0), (30, .getfield 64, 3, 2810, 0, 8, 193, 0, 18), (33, .if_icmp .ge 31, 3, 64, 0, 0, 0, 0, 0), (36, .aload_n 0, 1, 0, 0, 0, 0, 0, 0), (37, .getfield 49, 3, 908, 1, 8, 191, 0, 18), (40, .aload_n 1, 1, 0, 0, 0, 0, 0, 0), (41, .aload_n 0, 1, 0, 0, 0, 0, 0, 0), (42, .getfield 46, 3, 907, 1, 8, 190, 0, 18), (45, .iload 5, 2, 0, 0, 0, 0, 0, 0), (47, .iaload, 1, 0, 0, 0, 0, 0, 0), (48, .iaload, 1, 0, 0, 0, 0, 0, 0), (49, .iload_n 2, 1, 0, 0, 0, 0, 0, 0), (50, .ishr, 1, 0, 0, 0, 0, 0, 0), (51, .iload_n 3, 1, 0, 0, 0, 0, 0, 0), (52, .iand, 1, 0, 0, 0, 0, 0, 0), (53, .dup2, 1, 0, 0, 0, 0, 0, 0), (54, .iaload, 1, 0, 0, 0, 0, 0, 0), (55, .iconst 1, 1, 0, 0, 0, 0, 0, 0), (56, .iadd, 1, 0, 0, 0, 0, 0, 0), (57, .iastore, 1, 0, 0, 0, 0, 0, 0), (58, .iinc 5 1, 3, 0, 0, 0, 0, 0, 0), (61, .goto (-34), 3, 27, 0, 0, 0, 0, 0), (64, .iconst 0, 1, 0, 0, 0, 0, 0, 0), (65, .istore 5, 2, 0, 0, 0, 0, 0, 0), (67, .iconst 0, 1, 0, 0, 0, 0, 0, 0), (68, .istore 6, 2, 0, 0, 0, 0, 0, 0), (70, .iload 6, 2, 0, 0, 0, 0, 0, 0), (72, .iload 4, 2, 0, 0, 0, 0, 0, 0), (74, .if_icmp .ge 34, 3, 108, 0, 0, 0, 0, 0), (77, .aload_n 0, 1, 0, 0, 0, 0, 0, 0), (78, .getfield 49, 3, 908, 1, 8, 191, 0, 18), (81, .iload 6, 2, 0, 0, 0, 0, 0, 0), (83, .iaload, 1, 0, 0, 0, 0, 0, 0), (84, .istore 7, 2, 0, 0, 0, 0, 0, 0), (86, .aload_n 0, 1, 0, 0, 0, 0, 0, 0), (87, .getfield 49, 3, 908, 1, 8, 191, 0, 18), (90, .iload 6, 2, 0, 0, 0, 0, 0, 0), (92, .iload 5, 2, 0, 0, 0, 0, 0, 0), (94, .iastore, 1, 0, 0, 0, 0, 0, 0), (95, .iload 5, 2, 0, 0, 0, 0, 0, 0), (97, .iload 7, 2, 0, 0, 0, 0, 0, 0), (99, .iadd, 1, 0, 0, 0, 0, 0, 0), (100, .istore 5, 2, 0, 0, 0, 0, 0, 0), (102, .iinc 6 1, 3, 0, 0, 0, 0, 0, 0), (105, .goto (-35), 3, 70, 0, 0, 0, 0, 0), (108, .iconst 0, 1, 0, 0, 0, 0, 0, 0), (109, .istore 6, 2, 0, 0, 0, 0, 0, 0), (111, .iload 6, 2, 0, 0, 0, 0, 0, 0), (113, .aload_n 0, 1, 0, 0, 0, 0, 0, 0), (114, .getfield 64, 3, 2810, 0, 8, 193, 0, 18), (117, .if_icmp .ge 54, 3, 171, 0, 0, 0, 0, 0), (120, .aload_n 1, 1, 0, 0, 0, 0, 0, 0), (121, .aload_n 0, 1, 0, 0, 0, 0, 0, 0), (122, .getfield 46, 3, 907, 1, 8, 190, 0, 18), (125, .iload 6, 2, 0, 0, 0, 0, 0, 0), (127, .iaload, 1, 0, 0, 0, 0, 0, 0), (128, .iaload, 1, 0, 0, 0, 0, 0, 0), (129, .iload_n 2, 1, 0, 0, 0, 0, 0, 0), (130, .ishr, 1, 0, 0, 0, 0, 0, 0), (131, .iload_n 3, 1, 0, 0, 0, 0, 0, 0), (132, .iand, 1, 0, 0, 0, 0, 0, 0), (133, .istore 7, 2, 0, 0, 0, 0, 0, 0), (135, .aload_n 0, 1, 0, 0, 0, 0, 0, 0), (136, .getfield 40, 3, 905, 1, 8, 188, 0, 18), (139, .aload_n 0, 1, 0, 0, 0, 0, 0, 0), (140, .getfield 49, 3, 908, 1, 8, 191, 0, 18), (143, .iload 7, 2, 0, 0, 0, 0, 0, 0), (145, .iaload, 1, 0, 0, 0, 0, 0, 0), (146, .aload_n 0, 1, 0, 0, 0, 0, 0, 0), (147, .getfield 46, 3, 907, 1, 8, 190, 0, 18), (150, .iload 6, 2, 0, 0, 0, 0, 0, 0), (152, .iaload, 1, 0, 0, 0, 0, 0, 0), (153, .iastore, 1, 0, 0, 0, 0, 0, 0), (154, .aload_n 0, 1, 0, 0, 0, 0, 0, 0), (155, .getfield 49, 3, 908, 1, 8, 191, 0, 18), (158, .iload 7, 2, 0, 0, 0, 0, 0, 0), (160, .dup2, 1, 0, 0, 0, 0, 0, 0), (161, .iaload, 1, 0, 0, 0, 0, 0, 0), (162, .iconst 1, 1, 0, 0, 0, 0, 0, 0), (163, .iadd, 1, 0, 0, 0, 0, 0, 0), (164, .iastore, 1, 0, 0, 0, 0, 0, 0), (165, .iinc 6 1, 3, 0, 0, 0, 0, 0, 0), (168, .goto (-57), 3, 111, 0, 0, 0, 0, 0), (171, .return_, 1, 0, 0, 0, 0, 0, 0)]
set_option maxRecDepth 100000 in
theorem jk_X8_orderSpare : ji_X8_orderSpare.all (jck 64) = true := by decide +kernel
def ji_X8_rankBySign : List JI := [(0, .iconst 1, 1, 0, 0, 0, 0, 0, 0), (1, .istore_n 1, 1, 0, 0, 0, 0, 0, 0), (2, .aload_n 0, 1, 0, 0, 0, 0, 0, 0), (3, .getfield 43, 3, 906, 1, 8, 189, 0, 18), (6, .aload_n 0, 1, 0, 0, 0, 0, 0, 0), (7, .getfield 40, 3, 905, 1, 8, 188, 0, 18), (10, .iconst 0, 1, 0, 0, 0, 0, 0, 0), (11, .iaload, 1, 0, 0, 0, 0, 0, 0), (12, .iconst 0, 1, 0, 0, 0, 0, 0, 0), (13, .iastore, 1, 0, 0, 0, 0, 0, 0), (14, .iconst 1, 1, 0, 0, 0, 0, 0, 0), (15, .istore_n 2, 1, 0, 0, 0, 0, 0, 0), (16, .iload_n 2, 1, 0, 0, 0, 0, 0, 0), (17, .aload_n 0, 1, 0, 0, 0, 0, 0, 0), (18, .getfield 64, 3, 2810, 0, 8, 193, 0, 18), (21, .if_icmp .ge 53, 3, 74, 0, 0, 0, 0, 0), (24, .aload_n 0, 1, 0, 0, 0, 0, 0, 0), (25, .getfield 34, 3, 900, 1, 8, 183, 0, 18), (28, .aload_n 0, 1, 0, 0, 0, 0, 0, 0), (29, .getfield 40, 3, 905, 1, 8, 188, 0, 18), (32, .iload_n 2, 1, 0, 0, 0, 0, 0, 0), (33, .iaload, 1, 0, 0, 0, 0, 0, 0), (34, .iaload, 1, 0, 0, 0, 0, 0, 0), (35, .aload_n 0, 1, 0, 0, 0, 0, 0, 0), (36, .getfield 34, 3, 900, 1, 8, 183, 0, 18), (39, .aload_n 0, 1, 0, 0, 0, 0, 0, 0), (40, .getfield 40, 3, 905, 1, 8, 188, 0, 18), (43, .iload_n 2, 1, 0, 0, 0, 0, 0, 0), (44, .iconst 1, 1, 0, 0, 0, 0, 0, 0), (45, .isub, 1, 0, 0, 0, 0, 0, 0), (46, .iaload, 1, 0, 0, 0, 0, 0, 0), (47, .iaload, 1, 0, 0, 0, 0, 0, 0), (48, .if_icmp .eq 6, 3, 54, 0, 0, 0, 0, 0), (51, .iinc 1 1, 3, 0, 0, 0, 0, 0, 0), (54, .aload_n 0, 1, 0, 0, 0, 0, 0, 0), (55, .getfield 43, 3, 906, 1, 8, 189, 0, 18), (58, .aload_n 0, 1, 0, 0, 0, 0, 0, 0), (59, .getfield 40, 3, 905, 1, 8, 188, 0, 18), (62, .iload_n 2, 1, 0, 0, 0, 0, 0, 0), (63, .iaload, 1, 0, 0, 0, 0, 0, 0), (64, .iload_n 1, 1, 0, 0, 0, 0, 0, 0), (65, .iconst 1, 1, 0, 0, 0, 0, 0, 0), (66, .isub, 1, 0, 0, 0, 0, 0, 0), (67, .iastore, 1, 0, 0, 0, 0, 0, 0), (68, .iinc 2 1, 3, 0, 0, 0, 0, 0, 0), (71, .goto (-55), 3, 16, 0, 0, 0, 0, 0), (74, .iload_n 1, 1, 0, 0, 0, 0, 0, 0), (75, .ireturn, 1, 0, 0, 0, 0, 0, 0)]
set_option maxRecDepth 100000 in
theorem jk_X8_rankBySign : ji_X8_rankBySign.all (jck 65) = true := by decide +kernel
def ji_X8_listBySecond : List JI := [(0, .iconst 0, 1, 0, 0, 0, 0, 0, 0), (1, .istore_n 2, 1, 0, 0, 0, 0, 0, 0), (2, .aload_n 0, 1, 0, 0, 0, 0, 0, 0), (3, .getfield 64, 3, 2810, 0, 8, 193, 0, 18), (6, .iload_n 1, 1, 0, 0, 0, 0, 0, 0), (7, .isub, 1, 0, 0, 0, 0, 0, 0), (8, .iconst 0, 1, 0, 0, 0, 0, 0, 0), (9, .invokestatic 28, 3, 1001, 2, 0, 182, 0, 0), (12, .istore_n 3, 1, 0, 0, 0, 0, 0, 0), (13, .iload_n 3, 1, 0, 0, 0, 0, 0, 0), (14, .aload_n 0, 1, 0, 0, 0, 0, 0, 0), (15, .getfield 64, 3, 2810, 0, 8, 193, 0, 18), (18, .if_icmp .ge 19, 3, 37, 0, 0, 0, 0, 0), (21, .aload_n 0, 1, 0, 0, 0, 0, 0, 0), (22, .getfield 46, 3, 907, 1, 8, 190, 0, 18), (25, .iload_n 2, 1, 0, 0, 0, 0, 0, 0), (26, .iload_n 3, 1, 0, 0, 0, 0, 0, 0), (27, .iastore, 1, 0, 0, 0, 0, 0, 0), (28, .iinc 2 1, 3, 0, 0, 0, 0, 0, 0), (31, .iinc 3 1, 3, 0, 0, 0, 0, 0, 0), (34, .goto (-21), 3, 13, 0, 0, 0, 0, 0), (37, .iconst 0, 1, 0, 0, 0, 0, 0, 0), (38, .istore_n 3, 1, 0, 0, 0, 0, 0, 0), (39, .iload_n 3, 1, 0, 0, 0, 0, 0, 0), (40, .aload_n 0, 1, 0, 0, 0, 0, 0, 0), (41, .getfield 64, 3, 2810, 0, 8, 193, 0, 18), (44, .if_icmp .ge 36, 3, 80, 0, 0, 0, 0, 0), (47, .aload_n 0, 1, 0, 0, 0, 0, 0, 0), (48, .getfield 40, 3, 905, 1, 8, 188, 0, 18), (51, .iload_n 3, 1, 0, 0, 0, 0, 0, 0), (52, .iaload, 1, 0, 0, 0, 0, 0, 0), (53, .iload_n 1, 1, 0, 0, 0, 0, 0, 0), (54, .if_icmp .lt 20, 3, 74, 0, 0, 0, 0, 0), (57, .aload_n 0, 1, 0, 0, 0, 0, 0, 0), (58, .getfield 46, 3, 907, 1, 8, 190, 0, 18), (61, .iload_n 2, 1, 0, 0, 0, 0, 0, 0), (62, .aload_n 0, 1, 0, 0, 0, 0, 0, 0), (63, .getfield 40, 3, 905, 1, 8, 188, 0, 18), (66, .iload_n 3, 1, 0, 0, 0, 0, 0, 0), (67, .iaload, 1, 0, 0, 0, 0, 0, 0), (68, .iload_n 1, 1, 0, 0, 0, 0, 0, 0), (69, .isub, 1, 0, 0, 0, 0, 0, 0), (70, .iastore, 1, 0, 0, 0, 0, 0, 0), (71, .iinc 2 1, 3, 0, 0, 0, 0, 0, 0), (74, .iinc 3 1, 3, 0, 0, 0, 0, 0, 0), (77, .goto (-38), 3, 39, 0, 0, 0, 0, 0), (80, .return_, 1, 0, 0, 0, 0, 0, 0)]
set_option maxRecDepth 100000 in
theorem jk_X8_listBySecond : ji_X8_listBySecond.all (jck 66) = true := by decide +kernel
def ji_X8_rankByTwo : List JI := [(0, .iconst 1, 1, 0, 0, 0, 0, 0, 0), (1, .istore_n 2, 1, 0, 0, 0, 0, 0, 0), (2, .aload_n 0, 1, 0, 0, 0, 0, 0, 0), (3, .getfield 46, 3, 907, 1, 8, 190, 0, 18), (6, .aload_n 0, 1, 0, 0, 0, 0, 0, 0), (7, .getfield 40, 3, 905, 1, 8, 188, 0, 18), (10, .iconst 0, 1, 0, 0, 0, 0, 0, 0), (11, .iaload, 1, 0, 0, 0, 0, 0, 0), (12, .iconst 0, 1, 0, 0, 0, 0, 0, 0), (13, .iastore, 1, 0, 0, 0, 0, 0, 0), (14, .iconst 1, 1, 0, 0, 0, 0, 0, 0), (15, .istore_n 3, 1, 0, 0, 0, 0, 0, 0), (16, .iload_n 3, 1, 0, 0, 0, 0, 0, 0), (17, .aload_n 0, 1, 0, 0, 0, 0, 0, 0), (18, .getfield 64, 3, 2810, 0, 8, 193, 0, 18), (21, .if_icmp .ge 76, 3, 97, 0, 0, 0, 0, 0), (24, .aload_n 0, 1, 0, 0, 0, 0, 0, 0), (25, .getfield 40, 3, 905, 1, 8, 188, 0, 18), (28, .iload_n 3, 1, 0, 0, 0, 0, 0, 0), (29, .iaload, 1, 0, 0, 0, 0, 0, 0), (30, .istore 4, 2, 0, 0, 0, 0, 0, 0), (32, .aload_n 0, 1, 0, 0, 0, 0, 0, 0), (33, .getfield 40, 3, 905, 1, 8, 188, 0, 18), (36, .iload_n 3, 1, 0, 0, 0, 0, 0, 0), (37, .iconst 1, 1, 0, 0, 0, 0, 0, 0), (38, .isub, 1, 0, 0, 0, 0, 0, 0), (39, .iaload, 1, 0, 0, 0, 0, 0, 0), (40, .istore 5, 2, 0, 0, 0, 0, 0, 0), (42, .aload_n 0, 1, 0, 0, 0, 0, 0, 0), (43, .getfield 43, 3, 906, 1, 8, 189, 0, 18), (46, .iload 4, 2, 0, 0, 0, 0, 0, 0), (48, .iaload, 1, 0, 0, 0, 0, 0, 0), (49, .aload_n 0, 1, 0, 0, 0, 0, 0, 0), (50, .getfield 43, 3, 906, 1, 8, 189, 0, 18), (53, .iload 5, 2, 0, 0, 0, 0, 0, 0), (55, .iaload, 1, 0, 0, 0, 0, 0, 0), (56, .if_icmp .ne 22, 3, 78, 0, 0, 0, 0, 0), (59, .aload_n 0, 1, 0, 0, 0, 0, 0, 0), (60, .iload 4, 2, 0, 0, 0, 0, 0, 0), (62, .iload_n 1, 1, 0, 0, 0, 0, 0, 0), (63, .iadd, 1, 0, 0, 0, 0, 0, 0), (64, .invokevirtual 119, 3, 70, 2, 0, 634, 0, 18), (67, .aload_n 0, 1, 0, 0, 0, 0, 0, 0), (68, .iload 5, 2, 0, 0, 0, 0, 0, 0), (70, .iload_n 1, 1, 0, 0, 0, 0, 0, 0), (71, .iadd, 1, 0, 0, 0, 0, 0, 0), (72, .invokevirtual 119, 3, 70, 2, 0, 634, 0, 18), (75, .if_icmp .eq 6, 3, 81, 0, 0, 0, 0, 0), (78, .iinc 2 1, 3, 0, 0, 0, 0, 0, 0), (81, .aload_n 0, 1, 0, 0, 0, 0, 0, 0), (82, .getfield 46, 3, 907, 1, 8, 190, 0, 18), (85, .iload 4, 2, 0, 0, 0, 0, 0, 0), (87, .iload_n 2, 1, 0, 0, 0, 0, 0, 0), (88, .iconst 1, 1, 0, 0, 0, 0, 0, 0), (89, .isub, 1, 0, 0, 0, 0, 0, 0), (90, .iastore, 1, 0, 0, 0, 0, 0, 0), (91, .iinc 3 1, 3, 0, 0, 0, 0, 0, 0), (94, .goto (-78), 3, 16, 0, 0, 0, 0, 0), (97, .aload_n 0, 1, 0, 0, 0, 0, 0, 0), (98, .getfield 46, 3, 907, 1, 8, 190, 0, 18), (101, .iconst 0, 1, 0, 0, 0, 0, 0, 0), (102, .aload_n 0, 1, 0, 0, 0, 0, 0, 0), (103, .getfield 43, 3, 906, 1, 8, 189, 0, 18), (106, .iconst 0, 1, 0, 0, 0, 0, 0, 0), (107, .aload_n 0, 1, 0, 0, 0, 0, 0, 0), (108, .getfield 64, 3, 2810, 0, 8, 193, 0, 18), (111, .invokestatic 113, 3, 1003, 5, 0, 621, 0, 0), (114, .iload_n 2, 1, 0, 0, 0, 0, 0, 0), (115, .ireturn, 1, 0, 0, 0, 0, 0, 0)]
set_option maxRecDepth 100000 in
theorem jk_X8_rankByTwo : ji_X8_rankByTwo.all (jck 67) = true := by decide +kernel
def ji_X8_measureShared : List JI := [(0, .iconst 0, 1, 0, 0, 0, 0, 0, 0), (1, .istore_n 1, 1, 0, 0, 0, 0, 0, 0), (2, .iconst 0, 1, 0, 0, 0, 0, 0, 0), (3, .istore_n 2, 1, 0, 0, 0, 0, 0, 0), (4, .iload_n 2, 1, 0, 0, 0, 0, 0, 0), (5, .aload_n 0, 1, 0, 0, 0, 0, 0, 0), (6, .getfield 64, 3, 2810, 0, 8, 193, 0, 18), (9, .if_icmp .ge 97, 3, 106, 0, 0, 0, 0, 0), (12, .aload_n 0, 1, 0, 0, 0, 0, 0, 0), (13, .getfield 43, 3, 906, 1, 8, 189, 0, 18), (16, .iload_n 2, 1, 0, 0, 0, 0, 0, 0), (17, .iaload, 1, 0, 0, 0, 0, 0, 0), (18, .istore_n 3, 1, 0, 0, 0, 0, 0, 0), (19, .iload_n 3, 1, 0, 0, 0, 0, 0, 0), (20, .ifCond .ne 8, 3, 28, 0, 0, 0, 0, 0), (23, .iconst 0, 1, 0, 0, 0, 0, 0, 0), (24, .istore_n 1, 1, 0, 0, 0, 0, 0, 0), (25, .goto 60, 3, 85, 0, 0, 0, 0, 0), (28, .aload_n 0, 1, 0, 0, 0, 0, 0, 0), (29, .getfield 40, 3, 905, 1, 8, 188, 0, 18), (32, .iload_n 3, 1, 0, 0, 0, 0, 0, 0), (33, .iconst 1, 1, 0, 0, 0, 0, 0, 0), (34, .isub, 1, 0, 0, 0, 0, 0, 0), (35, .iaload, 1, 0, 0, 0, 0, 0, 0), (36, .istore 4, 2, 0, 0, 0, 0, 0, 0), (38, .iload_n 2, 1, 0, 0, 0, 0, 0, 0), (39, .iload_n 1, 1, 0, 0, 0, 0, 0, 0), (40, .iadd, 1, 0, 0, 0, 0, 0, 0), (41, .aload_n 0, 1, 0, 0, 0, 0, 0, 0), (42, .getfield 64, 3, 2810, 0, 8, 193, 0, 18), (45, .if_icmp .ge 40, 3, 85, 0, 0, 0, 0, 0), (48, .iload 4, 2, 0, 0, 0, 0, 0, 0), (50, .iload_n 1, 1, 0, 0, 0, 0, 0, 0), (51, .iadd, 1, 0, 0, 0, 0, 0, 0), (52, .aload_n 0, 1, 0, 0, 0, 0, 0, 0), (53, .getfield 64, 3, 2810, 0, 8, 193, 0, 18), (56, .if_icmp .ge 29, 3, 85, 0, 0, 0, 0, 0), (59, .aload_n 0, 1, 0, 0, 0, 0, 0, 0), (60, .getfield 34, 3, 900, 1, 8, 183, 0, 18), (63, .iload_n 2, 1, 0, 0, 0, 0, 0, 0), (64, .iload_n 1, 1, 0, 0, 0, 0, 0, 0), (65, .iadd, 1, 0, 0, 0, 0, 0, 0), (66, .iaload, 1, 0, 0, 0, 0, 0, 0), (67, .aload_n 0, 1, 0, 0, 0, 0, 0, 0), (68, .getfield 34, 3, 900, 1, 8, 183, 0, 18), (71, .iload 4, 2, 0, 0, 0, 0, 0, 0), (73, .iload_n 1, 1, 0, 0, 0, 0, 0, 0), (74, .iadd, 1, 0, 0, 0, 0, 0, 0), (75, .iaload, 1, 0, 0, 0, 0, 0, 0), (76, .if_icmp .ne 9, 3, 85, 0, 0, 0, 0, 0), (79, .iinc 1 1, 3, 0, 0, 0, 0, 0, 0), (82, .goto (-44), 3, 38, 0, 0, 0, 0, 0), (85, .aload_n 0, 1, 0, 0, 0, 0, 0, 0), (86, .getfield 52, 3, 909, 1, 8, 192, 0, 18), (89, .iload_n 3, 1, 0, 0, 0, 0, 0, 0), (90, .iload_n 1, 1, 0, 0, 0, 0, 0, 0), (91, .iastore, 1, 0, 0, 0, 0, 0, 0), (92, .iload_n 1, 1, 0, 0, 0, 0, 0, 0), (93, .iconst 1, 1, 0, 0, 0, 0, 0, 0), (94, .isub, 1, 0, 0, 0, 0, 0, 0), (95, .iconst 0, 1, 0, 0, 0, 0, 0, 0), (96, .invokestatic 28, 3, 1001, 2, 0, 182, 0, 0), (99, .istore_n 1, 1, 0, 0, 0, 0, 0, 0), (100, .iinc 2 1, 3, 0, 0, 0, 0, 0, 0), (103, .goto (-99), 3, 4, 0, 0, 0, 0, 0), (106, .return_, 1, 0, 0, 0, 0, 0, 0)]
set_option maxRecDepth 100000 in
theorem jk_X8_measureShared : ji_X8_measureShared.all (jck 68) = true := by decide +kernel
def ji_X8_placeOf : List JI := [(0, .iload_n 1, 1, 0, 0, 0, 0, 0, 0), (1, .ifCond .lt 20, 3, 21, 0, 0, 0, 0, 0), (4, .iload_n 1, 1, 0, 0, 0, 0, 0, 0), (5, .aload_n 0, 1, 0, 0, 0, 0, 0, 0), (6, .getfield 64, 3, 2810, 0, 8, 193, 0, 18), (9, .if_icmp .ge 12, 3, 21, 0, 0, 0, 0, 0), (12, .aload_n 0, 1, 0, 0, 0, 0, 0, 0), (13, .getfield 40, 3, 905, 1, 8, 188, 0, 18), (16, .iload_n 1, 1, 0, 0, 0, 0, 0, 0), (17, .iaload, 1, 0, 0, 0, 0, 0, 0), (18, .goto 4, 3, 22, 0, 0, 0, 0, 0), (21, .iconst (-1), 1, 0, 0, 0, 0, 0, 0), (22, .ireturn, 1, 0, 0, 0, 0, 0, 0)]
set_option maxRecDepth 100000 in
theorem jk_X8_placeOf : ji_X8_placeOf.all (jck 69) = true := by decide +kernel
def ji_X8_rankOf : List JI := [(0, .iload_n 1, 1, 0, 0, 0, 0, 0, 0), (1, .ifCond .lt 20, 3, 21, 0, 0, 0, 0, 0), (4, .iload_n 1, 1, 0, 0, 0, 0, 0, 0), (5, .aload_n 0, 1, 0, 0, 0, 0, 0, 0), (6, .getfield 64, 3, 2810, 0, 8, 193, 0, 18), (9, .if_icmp .ge 12, 3, 21, 0, 0, 0, 0, 0), (12, .aload_n 0, 1, 0, 0, 0, 0, 0, 0), (13, .getfield 43, 3, 906, 1, 8, 189, 0, 18), (16, .iload_n 1, 1, 0, 0, 0, 0, 0, 0), (17, .iaload, 1, 0, 0, 0, 0, 0, 0), (18, .goto 4, 3, 22, 0, 0, 0, 0, 0), (21, .iconst (-1), 1, 0, 0, 0, 0, 0, 0), (22, .ireturn, 1, 0, 0, 0, 0, 0, 0)]
set_option maxRecDepth 100000 in
theorem jk_X8_rankOf : ji_X8_rankOf.all (jck 70) = true := by decide +kernel
def ji_X8_sharedAt : List JI := [(0, .iload_n 1, 1, 0, 0, 0, 0, 0, 0), (1, .ifCond .lt 20, 3, 21, 0, 0, 0, 0, 0), (4, .iload_n 1, 1, 0, 0, 0, 0, 0, 0), (5, .aload_n 0, 1, 0, 0, 0, 0, 0, 0), (6, .getfield 64, 3, 2810, 0, 8, 193, 0, 18), (9, .if_icmp .ge 12, 3, 21, 0, 0, 0, 0, 0), (12, .aload_n 0, 1, 0, 0, 0, 0, 0, 0), (13, .getfield 52, 3, 909, 1, 8, 192, 0, 18), (16, .iload_n 1, 1, 0, 0, 0, 0, 0, 0), (17, .iaload, 1, 0, 0, 0, 0, 0, 0), (18, .goto 4, 3, 22, 0, 0, 0, 0, 0), (21, .iconst 0, 1, 0, 0, 0, 0, 0, 0), (22, .ireturn, 1, 0, 0, 0, 0, 0, 0)]
set_option maxRecDepth 100000 in
theorem jk_X8_sharedAt : ji_X8_sharedAt.all (jck 71) = true := by decide +kernel
def ji_X8_lyndonStart : List JI := [(0, .aload_n 0, 1, 0, 0, 0, 0, 0, 0), (1, .getfield 64, 3, 2810, 0, 8, 193, 0, 18), (4, .istore_n 2, 1, 0, 0, 0, 0, 0, 0), (5, .iconst 0, 1, 0, 0, 0, 0, 0, 0), (6, .istore_n 3, 1, 0, 0, 0, 0, 0, 0), (7, .iconst 0, 1, 0, 0, 0, 0, 0, 0), (8, .istore 4, 2, 0, 0, 0, 0, 0, 0), (10, .iload 4, 2, 0, 0, 0, 0, 0, 0), (12, .aload_n 0, 1, 0, 0, 0, 0, 0, 0), (13, .getfield 64, 3, 2810, 0, 8, 193, 0, 18), (16, .if_icmp .ge 39, 3, 55, 0, 0, 0, 0, 0), (19, .aload_n 0, 1, 0, 0, 0, 0, 0, 0), (20, .getfield 43, 3, 906, 1, 8, 189, 0, 18), (23, .iload 4, 2, 0, 0, 0, 0, 0, 0), (25, .iaload, 1, 0, 0, 0, 0, 0, 0), (26, .iload_n 2, 1, 0, 0, 0, 0, 0, 0), (27, .if_icmp .ge 22, 3, 49, 0, 0, 0, 0, 0), (30, .iload_n 3, 1, 0, 0, 0, 0, 0, 0), (31, .iload_n 1, 1, 0, 0, 0, 0, 0, 0), (32, .if_icmp .ne 6, 3, 38, 0, 0, 0, 0, 0), (35, .iload 4, 2, 0, 0, 0, 0, 0, 0), (37, .ireturn, 1, 0, 0, 0, 0, 0, 0), (38, .aload_n 0, 1, 0, 0, 0, 0, 0, 0), (39, .getfield 43, 3, 906, 1, 8, 189, 0, 18), (42, .iload 4, 2, 0, 0, 0, 0, 0, 0), (44, .iaload, 1, 0, 0, 0, 0, 0, 0), (45, .istore_n 2, 1, 0, 0, 0, 0, 0, 0), (46, .iinc 3 1, 3, 0, 0, 0, 0, 0, 0), (49, .iinc 4 1, 3, 0, 0, 0, 0, 0, 0), (52, .goto (-42), 3, 10, 0, 0, 0, 0, 0), (55, .iconst (-1), 1, 0, 0, 0, 0, 0, 0), (56, .ireturn, 1, 0, 0, 0, 0, 0, 0)]
set_option maxRecDepth 100000 in
theorem jk_X8_lyndonStart : ji_X8_lyndonStart.all (jck 72) = true := by decide +kernel
def ji_X8_freshParts : List JI := [(0, .aload_n 0, 1, 0, 0, 0, 0, 0, 0), (1, .getfield 64, 3, 2810, 0, 8, 193, 0, 18), (4, .aload_n 0, 1, 0, 0, 0, 0, 0, 0), (5, .getfield 40, 3, 905, 1, 8, 188, 0, 18), (8, .iload_n 1, 1, 0, 0, 0, 0, 0, 0), (9, .iaload, 1, 0, 0, 0, 0, 0, 0), (10, .isub, 1, 0, 0, 0, 0, 0, 0), (11, .aload_n 0, 1, 0, 0, 0, 0, 0, 0), (12, .getfield 52, 3, 909, 1, 8, 192, 0, 18), (15, .iload_n 1, 1, 0, 0, 0, 0, 0, 0), (16, .iaload, 1, 0, 0, 0, 0, 0, 0), (17, .isub, 1, 0, 0, 0, 0, 0, 0), (18, .ireturn, 1, 0, 0, 0, 0, 0, 0)]
set_option maxRecDepth 100000 in
theorem jk_X8_freshParts : ji_X8_freshParts.all (jck 73) = true := by decide +kernel
def ji_X8_differentParts : List JI := [(0, .iconst 0, 1, 0, 0, 0, 0, 0, 0), (1, .istore_n 1, 1, 0, 0, 0, 0, 0, 0), (2, .iconst 0, 1, 0, 0, 0, 0, 0, 0), (3, .istore_n 2, 1, 0, 0, 0, 0, 0, 0), (4, .iload_n 2, 1, 0, 0, 0, 0, 0, 0), (5, .aload_n 0, 1, 0, 0, 0, 0, 0, 0), (6, .getfield 64, 3, 2810, 0, 8, 193, 0, 18), (9, .if_icmp .ge 17, 3, 26, 0, 0, 0, 0, 0), (12, .iload_n 1, 1, 0, 0, 0, 0, 0, 0), (13, .aload_n 0, 1, 0, 0, 0, 0, 0, 0), (14, .iload_n 2, 1, 0, 0, 0, 0, 0, 0), (15, .invokevirtual 122, 3, 73, 2, 0, 849, 0, 18), (18, .iadd, 1, 0, 0, 0, 0, 0, 0), (19, .istore_n 1, 1, 0, 0, 0, 0, 0, 0), (20, .iinc 2 1, 3, 0, 0, 0, 0, 0, 0), (23, .goto (-19), 3, 4, 0, 0, 0, 0, 0), (26, .iload_n 1, 1, 0, 0, 0, 0, 0, 0), (27, .ireturn, 1, 0, 0, 0, 0, 0, 0)]
set_option maxRecDepth 100000 in
theorem jk_X8_differentParts : ji_X8_differentParts.all (jck 74) = true := by decide +kernel
def ji_X8_choosePart : List JI := [(0, .iload_n 1, 1, 0, 0, 0, 0, 0, 0), (1, .istore_n 2, 1, 0, 0, 0, 0, 0, 0), (2, .iconst 0, 1, 0, 0, 0, 0, 0, 0), (3, .istore_n 3, 1, 0, 0, 0, 0, 0, 0), (4, .iload_n 3, 1, 0, 0, 0, 0, 0, 0), (5, .aload_n 0, 1, 0, 0, 0, 0, 0, 0), (6, .getfield 64, 3, 2810, 0, 8, 193, 0, 18), (9, .if_icmp .ge 62, 3, 71, 0, 0, 0, 0, 0), (12, .iload_n 2, 1, 0, 0, 0, 0, 0, 0), (13, .ifCond .lt 58, 3, 71, 0, 0, 0, 0, 0), (16, .aload_n 0, 1, 0, 0, 0, 0, 0, 0), (17, .iload_n 3, 1, 0, 0, 0, 0, 0, 0), (18, .invokevirtual 122, 3, 73, 2, 0, 849, 0, 18), (21, .istore 4, 2, 0, 0, 0, 0, 0, 0), (23, .iload_n 2, 1, 0, 0, 0, 0, 0, 0), (24, .iload 4, 2, 0, 0, 0, 0, 0, 0), (26, .if_icmp .ge 34, 3, 60, 0, 0, 0, 0, 0), (29, .aload_n 0, 1, 0, 0, 0, 0, 0, 0), (30, .aload_n 0, 1, 0, 0, 0, 0, 0, 0), (31, .getfield 40, 3, 905, 1, 8, 188, 0, 18), (34, .iload_n 3, 1, 0, 0, 0, 0, 0, 0), (35, .iaload, 1, 0, 0, 0, 0, 0, 0), (36, .putfield 125, 3, 2813, 0, 8, 196, 0, 18), (39, .aload_n 0, 1, 0, 0, 0, 0, 0, 0), (40, .aload_n 0, 1, 0, 0, 0, 0, 0, 0), (41, .getfield 125, 3, 2813, 0, 8, 196, 0, 18), (44, .aload_n 0, 1, 0, 0, 0, 0, 0, 0), (45, .getfield 52, 3, 909, 1, 8, 192, 0, 18), (48, .iload_n 3, 1, 0, 0, 0, 0, 0, 0), (49, .iaload, 1, 0, 0, 0, 0, 0, 0), (50, .iadd, 1, 0, 0, 0, 0, 0, 0), (51, .iload_n 2, 1, 0, 0, 0, 0, 0, 0), (52, .iadd, 1, 0, 0, 0, 0, 0, 0), (53, .iconst 1, 1, 0, 0, 0, 0, 0, 0), (54, .iadd, 1, 0, 0, 0, 0, 0, 0), (55, .putfield 128, 3, 2814, 0, 8, 198, 0, 18), (58, .iconst 1, 1, 0, 0, 0, 0, 0, 0), (59, .ireturn, 1, 0, 5, 0, 0, 0, 0), (60, .iload_n 2, 1, 0, 0, 0, 0, 0, 0), (61, .iload 4, 2, 0, 0, 0, 0, 0, 0), (63, .isub, 1, 0, 0, 0, 0, 0, 0), (64, .istore_n 2, 1, 0, 0, 0, 0, 0, 0), (65, .iinc 3 1, 3, 0, 0, 0, 0, 0, 0), (68, .goto (-64), 3, 4, 0, 0, 0, 0, 0), (71, .iconst 0, 1, 0, 0, 0, 0, 0, 0), (72, .ireturn, 1, 0, 5, 0, 0, 0, 0)]
set_option maxRecDepth 100000 in
theorem jk_X8_choosePart : ji_X8_choosePart.all (jck 75) = true := by decide +kernel
def ji_X8_aloneFrom : List JI := [(0, .aload_n 0, 1, 0, 0, 0, 0, 0, 0), (1, .iload_n 1, 1, 0, 0, 0, 0, 0, 0), (2, .invokevirtual 119, 3, 70, 2, 0, 634, 0, 18), (5, .istore_n 2, 1, 0, 0, 0, 0, 0, 0), (6, .iload_n 2, 1, 0, 0, 0, 0, 0, 0), (7, .iconst (-1), 1, 0, 0, 0, 0, 0, 0), (8, .if_icmp .ne 5, 3, 13, 0, 0, 0, 0, 0), (11, .iconst (-1), 1, 0, 0, 0, 0, 0, 0), (12, .ireturn, 1, 0, 0, 0, 0, 0, 0), (13, .aload_n 0, 1, 0, 0, 0, 0, 0, 0), (14, .iload_n 2, 1, 0, 0, 0, 0, 0, 0), (15, .invokevirtual 131, 3, 71, 2, 0, 870, 0, 18), (18, .aload_n 0, 1, 0, 0, 0, 0, 0, 0), (19, .iload_n 2, 1, 0, 0, 0, 0, 0, 0), (20, .iconst 1, 1, 0, 0, 0, 0, 0, 0), (21, .iadd, 1, 0, 0, 0, 0, 0, 0), (22, .invokevirtual 131, 3, 71, 2, 0, 870, 0, 18), (25, .invokestatic 28, 3, 1001, 2, 0, 182, 0, 0), (28, .iconst 1, 1, 0, 0, 0, 0, 0, 0), (29, .iadd, 1, 0, 0, 0, 0, 0, 0), (30, .istore_n 3, 1, 0, 0, 0, 0, 0, 0), (31, .iload_n 3, 1, 0, 0, 0, 0, 0, 0), (32, .aload_n 0, 1, 0, 0, 0, 0, 0, 0), (33, .getfield 64, 3, 2810, 0, 8, 193, 0, 18), (36, .iload_n 1, 1, 0, 0, 0, 0, 0, 0), (37, .isub, 1, 0, 0, 0, 0, 0, 0), (38, .if_icmp .gt 7, 3, 45, 0, 0, 0, 0, 0), (41, .iload_n 3, 1, 0, 0, 0, 0, 0, 0), (42, .goto 4, 3, 46, 0, 0, 0, 0, 0), (45, .iconst (-1), 1, 0, 0, 0, 0, 0, 0), (46, .ireturn, 1, 0, 0, 0, 0, 0, 0)]
set_option maxRecDepth 100000 in
theorem jk_X8_aloneFrom : ji_X8_aloneFrom.all (jck 76) = true := by decide +kernel
def ji_X8_leastAlone : List JI := [(0, .iconst 0, 1, 0, 0, 0, 0, 0, 0), (1, .istore_n 1, 1, 0, 0, 0, 0, 0, 0), (2, .iconst 0, 1, 0, 0, 0, 0, 0, 0), (3, .istore_n 2, 1, 0, 0, 0, 0, 0, 0), (4, .iload_n 2, 1, 0, 0, 0, 0, 0, 0), (5, .aload_n 0, 1, 0, 0, 0, 0, 0, 0), (6, .getfield 64, 3, 2810, 0, 8, 193, 0, 18), (9, .if_icmp .ge 44, 3, 53, 0, 0, 0, 0, 0), (12, .aload_n 0, 1, 0, 0, 0, 0, 0, 0), (13, .iload_n 2, 1, 0, 0, 0, 0, 0, 0), (14, .invokevirtual 134, 3, 76, 2, 0, 882, 0, 18), (17, .istore_n 3, 1, 0, 0, 0, 0, 0, 0), (18, .aload_n 0, 1, 0, 0, 0, 0, 0, 0), (19, .iload_n 2, 1, 0, 0, 0, 0, 0, 0), (20, .iconst 1, 1, 0, 0, 0, 0, 0, 0), (21, .iadd, 1, 0, 0, 0, 0, 0, 0), (22, .invokevirtual 134, 3, 76, 2, 0, 882, 0, 18), (25, .istore 4, 2, 0, 0, 0, 0, 0, 0), (27, .iload_n 3, 1, 0, 0, 0, 0, 0, 0), (28, .iconst (-1), 1, 0, 0, 0, 0, 0, 0), (29, .if_icmp .eq 18, 3, 47, 0, 0, 0, 0, 0), (32, .iload 4, 2, 0, 0, 0, 0, 0, 0), (34, .iconst (-1), 1, 0, 0, 0, 0, 0, 0), (35, .if_icmp .eq 9, 3, 44, 0, 0, 0, 0, 0), (38, .iload 4, 2, 0, 0, 0, 0, 0, 0), (40, .iload_n 3, 1, 0, 0, 0, 0, 0, 0), (41, .if_icmp .lt 6, 3, 47, 0, 0, 0, 0, 0), (44, .iinc 1 1, 3, 0, 0, 0, 0, 0, 0), (47, .iinc 2 1, 3, 0, 0, 0, 0, 0, 0), (50, .goto (-46), 3, 4, 0, 0, 0, 0, 0), (53, .iload_n 1, 1, 0, 0, 0, 0, 0, 0), (54, .ireturn, 1, 0, 0, 0, 0, 0, 0)]
set_option maxRecDepth 100000 in
theorem jk_X8_leastAlone : ji_X8_leastAlone.all (jck 77) = true := by decide +kernel
def ji_X8_longestIn : List JI := [(0, .iconst 0, 1, 0, 0, 0, 0, 0, 0), (1, .istore_n 2, 1, 0, 0, 0, 0, 0, 0), (2, .sipush 240, 3, 0, 0, 0, 0, 0, 0), (5, .istore_n 3, 1, 0, 0, 0, 0, 0, 0), (6, .iload_n 2, 1, 0, 0, 0, 0, 0, 0), (7, .iload_n 3, 1, 0, 0, 0, 0, 0, 0), (8, .if_icmp .ge 37, 3, 45, 0, 0, 0, 0, 0), (11, .iload_n 2, 1, 0, 0, 0, 0, 0, 0), (12, .iload_n 3, 1, 0, 0, 0, 0, 0, 0), (13, .iadd, 1, 0, 0, 0, 0, 0, 0), (14, .iconst 1, 1, 0, 0, 0, 0, 0, 0), (15, .iadd, 1, 0, 0, 0, 0, 0, 0), (16, .iconst 2, 1, 0, 0, 0, 0, 0, 0), (17, .idiv, 1, 0, 0, 0, 0, 0, 0), (18, .istore 4, 2, 0, 0, 0, 0, 0, 0), (20, .aload_n 0, 1, 0, 0, 0, 0, 0, 0), (21, .iload 4, 2, 0, 0, 0, 0, 0, 0), (23, .iload_n 1, 1, 0, 0, 0, 0, 0, 0), (24, .invokevirtual 137, 3, 79, 3, 0, 747, 0, 18), (27, .iconst (-1), 1, 0, 0, 0, 0, 0, 0), (28, .if_icmp .ne 11, 3, 39, 0, 0, 0, 0, 0), (31, .iload 4, 2, 0, 0, 0, 0, 0, 0), (33, .iconst 1, 1, 0, 0, 0, 0, 0, 0), (34, .isub, 1, 0, 0, 0, 0, 0, 0), (35, .istore_n 3, 1, 0, 0, 0, 0, 0, 0), (36, .goto 6, 3, 42, 0, 0, 0, 0, 0), (39, .iload 4, 2, 0, 0, 0, 0, 0, 0), (41, .istore_n 2, 1, 0, 0, 0, 0, 0, 0), (42, .goto (-36), 3, 6, 0, 0, 0, 0, 0), (45, .iload_n 2, 1, 0, 0, 0, 0, 0, 0), (46, .ireturn, 1, 0, 0, 0, 0, 0, 0)]
set_option maxRecDepth 100000 in
theorem jk_X8_longestIn : ji_X8_longestIn.all (jck 78) = true := by decide +kernel
def ji_X8_stretchOf : List JI := [(0, .iconst 0, 1, 0, 0, 0, 0, 0, 0), (1, .istore_n 3, 1, 0, 0, 0, 0, 0, 0), (2, .iload_n 3, 1, 0, 0, 0, 0, 0, 0), (3, .bipush 40, 2, 0, 0, 0, 0, 0, 0), (5, .if_icmp .ge 16, 3, 21, 0, 0, 0, 0, 0), (8, .aload_n 0, 1, 0, 0, 0, 0, 0, 0), (9, .getfield 18, 3, 904, 1, 8, 187, 0, 18), (12, .iload_n 3, 1, 0, 0, 0, 0, 0, 0), (13, .iconst (-1), 1, 0, 0, 0, 0, 0, 0), (14, .iastore, 1, 0, 0, 0, 0, 0, 0), (15, .iinc 3 1, 3, 0, 0, 0, 0, 0, 0), (18, .goto (-16), 3, 2, 0, 0, 0, 0, 0), (21, .iconst 0, 1, 0, 0, 0, 0, 0, 0), (22, .istore_n 3, 1, 0, 0, 0, 0, 0, 0), (23, .iconst 0, 1, 0, 0, 0, 0, 0, 0), (24, .istore 4, 2, 0, 0, 0, 0, 0, 0), (26, .iconst 0, 1, 0, 0, 0, 0, 0, 0), (27, .istore 5, 2, 0, 0, 0, 0, 0, 0), (29, .iload 5, 2, 0, 0, 0, 0, 0, 0), (31, .aload_n 0, 1, 0, 0, 0, 0, 0, 0), (32, .getfield 64, 3, 2810, 0, 8, 193, 0, 18), (35, .if_icmp .ge 89, 3, 124, 0, 0, 0, 0, 0), (38, .aload_n 0, 1, 0, 0, 0, 0, 0, 0), (39, .getfield 52, 3, 909, 1, 8, 192, 0, 18), (42, .iload 5, 2, 0, 0, 0, 0, 0, 0), (44, .iaload, 1, 0, 0, 0, 0, 0, 0), (45, .iload_n 1, 1, 0, 0, 0, 0, 0, 0), (46, .if_icmp .ge 9, 3, 55, 0, 0, 0, 0, 0), (49, .iload 5, 2, 0, 0, 0, 0, 0, 0), (51, .istore_n 3, 1, 0, 0, 0, 0, 0, 0), (52, .iconst 0, 1, 0, 0, 0, 0, 0, 0), (53, .istore 4, 2, 0, 0, 0, 0, 0, 0), (55, .aload_n 0, 1, 0, 0, 0, 0, 0, 0), (56, .getfield 37, 3, 901, 1, 8, 184, 0, 18), (59, .aload_n 0, 1, 0, 0, 0, 0, 0, 0), (60, .getfield 40, 3, 905, 1, 8, 188, 0, 18), (63, .iload 5, 2, 0, 0, 0, 0, 0, 0), (65, .iaload, 1, 0, 0, 0, 0, 0, 0), (66, .iaload, 1, 0, 0, 0, 0, 0, 0), (67, .istore 6, 2, 0, 0, 0, 0, 0, 0), (69, .aload_n 0, 1, 0, 0, 0, 0, 0, 0), (70, .getfield 18, 3, 904, 1, 8, 187, 0, 18), (73, .iload 6, 2, 0, 0, 0, 0, 0, 0), (75, .iaload, 1, 0, 0, 0, 0, 0, 0), (76, .iload_n 3, 1, 0, 0, 0, 0, 0, 0), (77, .if_icmp .eq 33, 3, 110, 0, 0, 0, 0, 0), (80, .aload_n 0, 1, 0, 0, 0, 0, 0, 0), (81, .getfield 15, 3, 903, 1, 8, 186, 0, 18), (84, .iload 6, 2, 0, 0, 0, 0, 0, 0), (86, .iaload, 1, 0, 0, 0, 0, 0, 0), (87, .aload_n 0, 1, 0, 0, 0, 0, 0, 0), (88, .getfield 40, 3, 905, 1, 8, 188, 0, 18), (91, .iload 5, 2, 0, 0, 0, 0, 0, 0), (93, .iaload, 1, 0, 0, 0, 0, 0, 0), (94, .isub, 1, 0, 0, 0, 0, 0, 0), (95, .iload_n 1, 1, 0, 0, 0, 0, 0, 0), (96, .if_icmp .lt 14, 3, 110, 0, 0, 0, 0, 0), (99, .aload_n 0, 1, 0, 0, 0, 0, 0, 0), (100, .getfield 18, 3, 904, 1, 8, 187, 0, 18), (103, .iload 6, 2, 0, 0, 0, 0, 0, 0), (105, .iload_n 3, 1, 0, 0, 0, 0, 0, 0), (106, .iastore, 1, 0, 0, 0, 0, 0, 0), (107, .iinc 4 1, 3, 0, 0, 0, 0, 0, 0), (110, .iload 4, 2, 0, 0, 0, 0, 0, 0), (112, .iload_n 2, 1, 0, 0, 0, 0, 0, 0), (113, .if_icmp .lt 5, 3, 118, 0, 0, 0, 0, 0), (116, .iload_n 3, 1, 0, 0, 0, 0, 0, 0), (117, .ireturn, 1, 0, 0, 0, 0, 0, 0), (118, .iinc 5 1, 3, 0, 0, 0, 0, 0, 0), (121, .goto (-92), 3, 29, 0, 0, 0, 0, 0), (124, .iconst (-1), 1, 0, 0, 0, 0, 0, 0), (125, .ireturn, 1, 0, 0, 0, 0, 0, 0)]
set_option maxRecDepth 100000 in
theorem jk_X8_stretchOf : ji_X8_stretchOf.all (jck 79) = true := by decide +kernel
def ji_X8_firstOf : List JI := [(0, .iload_n 1, 1, 0, 0, 0, 0, 0, 0), (1, .ifCond .le 12, 3, 13, 0, 0, 0, 0, 0), (4, .aload_n 0, 1, 0, 0, 0, 0, 0, 0), (5, .iload_n 1, 1, 0, 0, 0, 0, 0, 0), (6, .iload_n 2, 1, 0, 0, 0, 0, 0, 0), (7, .invokevirtual 137, 3, 79, 3, 0, 747, 0, 18), (10, .goto 4, 3, 14, 0, 0, 0, 0, 0), (13, .iconst (-1), 1, 0, 0, 0, 0, 0, 0), (14, .istore_n 3, 1, 0, 0, 0, 0, 0, 0), (15, .iload_n 3, 1, 0, 0, 0, 0, 0, 0), (16, .iconst (-1), 1, 0, 0, 0, 0, 0, 0), (17, .if_icmp .ne 5, 3, 22, 0, 0, 0, 0, 0), (20, .iconst 0, 1, 0, 0, 0, 0, 0, 0), (21, .ireturn, 1, 0, 0, 0, 0, 0, 0), (22, .aload_n 0, 1, 0, 0, 0, 0, 0, 0), (23, .getfield 40, 3, 905, 1, 8, 188, 0, 18), (26, .iload_n 3, 1, 0, 0, 0, 0, 0, 0), (27, .iaload, 1, 0, 0, 0, 0, 0, 0), (28, .istore 4, 2, 0, 0, 0, 0, 0, 0), (30, .iload_n 3, 1, 0, 0, 0, 0, 0, 0), (31, .iconst 1, 1, 0, 0, 0, 0, 0, 0), (32, .iadd, 1, 0, 0, 0, 0, 0, 0), (33, .istore 5, 2, 0, 0, 0, 0, 0, 0), (35, .iload 5, 2, 0, 0, 0, 0, 0, 0), (37, .aload_n 0, 1, 0, 0, 0, 0, 0, 0), (38, .getfield 64, 3, 2810, 0, 8, 193, 0, 18), (41, .if_icmp .ge 34, 3, 75, 0, 0, 0, 0, 0), (44, .aload_n 0, 1, 0, 0, 0, 0, 0, 0), (45, .getfield 52, 3, 909, 1, 8, 192, 0, 18), (48, .iload 5, 2, 0, 0, 0, 0, 0, 0), (50, .iaload, 1, 0, 0, 0, 0, 0, 0), (51, .iload_n 1, 1, 0, 0, 0, 0, 0, 0), (52, .if_icmp .lt 23, 3, 75, 0, 0, 0, 0, 0), (55, .iload 4, 2, 0, 0, 0, 0, 0, 0), (57, .aload_n 0, 1, 0, 0, 0, 0, 0, 0), (58, .getfield 40, 3, 905, 1, 8, 188, 0, 18), (61, .iload 5, 2, 0, 0, 0, 0, 0, 0), (63, .iaload, 1, 0, 0, 0, 0, 0, 0), (64, .invokestatic 140, 3, 1002, 2, 0, 755, 0, 0), (67, .istore 4, 2, 0, 0, 0, 0, 0, 0), (69, .iinc 5 1, 3, 0, 0, 0, 0, 0, 0), (72, .goto (-37), 3, 35, 0, 0, 0, 0, 0), (75, .iload 4, 2, 0, 0, 0, 0, 0, 0), (77, .ireturn, 1, 0, 0, 0, 0, 0, 0)]
set_option maxRecDepth 100000 in
theorem jk_X8_firstOf : ji_X8_firstOf.all (jck 80) = true := by decide +kernel
def ji_X8_ownerOf : List JI := [(0, .iload_n 1, 1, 0, 0, 0, 0, 0, 0), (1, .ifCond .lt 20, 3, 21, 0, 0, 0, 0, 0), (4, .iload_n 1, 1, 0, 0, 0, 0, 0, 0), (5, .aload_n 0, 1, 0, 0, 0, 0, 0, 0), (6, .getfield 64, 3, 2810, 0, 8, 193, 0, 18), (9, .if_icmp .ge 12, 3, 21, 0, 0, 0, 0, 0), (12, .aload_n 0, 1, 0, 0, 0, 0, 0, 0), (13, .getfield 37, 3, 901, 1, 8, 184, 0, 18), (16, .iload_n 1, 1, 0, 0, 0, 0, 0, 0), (17, .iaload, 1, 0, 0, 0, 0, 0, 0), (18, .goto 4, 3, 22, 0, 0, 0, 0, 0), (21, .iconst 0, 1, 0, 0, 0, 0, 0, 0), (22, .ireturn, 1, 0, 0, 0, 0, 0, 0)]
set_option maxRecDepth 100000 in
theorem jk_X8_ownerOf : ji_X8_ownerOf.all (jck 81) = true := by decide +kernel
def ji_X8_placeInOwner : List JI := [(0, .iload_n 1, 1, 0, 0, 0, 0, 0, 0), (1, .aload_n 0, 1, 0, 0, 0, 0, 0, 0), (2, .getfield 9, 3, 902, 1, 8, 185, 0, 18), (5, .aload_n 0, 1, 0, 0, 0, 0, 0, 0), (6, .iload_n 1, 1, 0, 0, 0, 0, 0, 0), (7, .invokevirtual 143, 3, 81, 2, 0, 766, 0, 18), (10, .iaload, 1, 0, 0, 0, 0, 0, 0), (11, .isub, 1, 0, 0, 0, 0, 0, 0), (12, .ireturn, 1, 0, 0, 0, 0, 0, 0)]
set_option maxRecDepth 100000 in
theorem jk_X8_placeInOwner : ji_X8_placeInOwner.all (jck 82) = true := by decide +kernel
def ji_X9_init : List JI := [(0, .aload_n 0, 1, 0, 0, 0, 0, 0, 0), (1, .invokespecial 3, 3, 1000, 1, 0, 106, 0, 0), (4, .aload_n 0, 1, 0, 0, 0, 0, 0, 0), (5, .iload_n 1, 1, 0, 0, 0, 0, 0, 0), (6, .iconst 0, 1, 0, 0, 0, 0, 0, 0), (7, .invokestatic 9, 3, 1001, 2, 0, 107, 0, 0), (10, .newarray .int, 2, 0, 0, 0, 133, 0, 1), (12, .putfield 15, 3, 1000, 1, 9, 110, 0, 19), (15, .return_, 1, 0, 0, 0, 0, 0, 0)]
set_option maxRecDepth 100000 in
theorem jk_X9_init : ji_X9_init.all (jck 83) = true := by decide +kernel
def ji_X9_hasPlace : List JI := [(0, .iload_n 1, 1, 0, 0, 0, 0, 0, 0), (1, .ifCond .lt 15, 3, 16, 0, 0, 0, 0, 0), (4, .iload_n 1, 1, 0, 0, 0, 0, 0, 0), (5, .aload_n 0, 1, 0, 0, 0, 0, 0, 0), (6, .getfield 21, 3, 2901, 0, 9, 119, 0, 19), (9, .if_icmp .ge 7, 3, 16, 0, 0, 0, 0, 0), (12, .iconst 1, 1, 0, 0, 0, 0, 0, 0), (13, .goto 4, 3, 17, 0, 0, 0, 0, 0), (16, .iconst 0, 1, 0, 0, 0, 0, 0, 0), (17, .ireturn, 1, 0, 5, 0, 0, 0, 0)]
set_option maxRecDepth 100000 in
theorem jk_X9_hasPlace : ji_X9_hasPlace.all (jck 84) = true := by decide +kernel
def ji_X9_hasPart : List JI := [(0, .iload_n 1, 1, 0, 0, 0, 0, 0, 0), (1, .ifCond .lt 20, 3, 21, 0, 0, 0, 0, 0), (4, .iload_n 1, 1, 0, 0, 0, 0, 0, 0), (5, .iload_n 2, 1, 0, 0, 0, 0, 0, 0), (6, .if_icmp .gt 15, 3, 21, 0, 0, 0, 0, 0), (9, .iload_n 2, 1, 0, 0, 0, 0, 0, 0), (10, .aload_n 0, 1, 0, 0, 0, 0, 0, 0), (11, .getfield 21, 3, 2901, 0, 9, 119, 0, 19), (14, .if_icmp .gt 7, 3, 21, 0, 0, 0, 0, 0), (17, .iconst 1, 1, 0, 0, 0, 0, 0, 0), (18, .goto 4, 3, 22, 0, 0, 0, 0, 0), (21, .iconst 0, 1, 0, 0, 0, 0, 0, 0), (22, .ireturn, 1, 0, 5, 0, 0, 0, 0)]
set_option maxRecDepth 100000 in
theorem jk_X9_hasPart : ji_X9_hasPart.all (jck 85) = true := by decide +kernel
def ji_X9_hasSome : List JI := [(0, .iload_n 1, 1, 0, 0, 0, 0, 0, 0), (1, .ifCond .lt 29, 3, 30, 0, 0, 0, 0, 0), (4, .iload_n 2, 1, 0, 0, 0, 0, 0, 0), (5, .ifCond .lt 25, 3, 30, 0, 0, 0, 0, 0), (8, .iload_n 1, 1, 0, 0, 0, 0, 0, 0), (9, .aload_n 0, 1, 0, 0, 0, 0, 0, 0), (10, .getfield 21, 3, 2901, 0, 9, 119, 0, 19), (13, .if_icmp .gt 17, 3, 30, 0, 0, 0, 0, 0), (16, .iload_n 2, 1, 0, 0, 0, 0, 0, 0), (17, .aload_n 0, 1, 0, 0, 0, 0, 0, 0), (18, .getfield 21, 3, 2901, 0, 9, 119, 0, 19), (21, .iload_n 1, 1, 0, 0, 0, 0, 0, 0), (22, .isub, 1, 0, 0, 0, 0, 0, 0), (23, .if_icmp .gt 7, 3, 30, 0, 0, 0, 0, 0), (26, .iconst 1, 1, 0, 0, 0, 0, 0, 0), (27, .goto 4, 3, 31, 0, 0, 0, 0, 0), (30, .iconst 0, 1, 0, 0, 0, 0, 0, 0), (31, .ireturn, 1, 0, 5, 0, 0, 0, 0)]
set_option maxRecDepth 100000 in
theorem jk_X9_hasSome : ji_X9_hasSome.all (jck 86) = true := by decide +kernel
def ji_X9_room : List JI := [(0, .aload_n 0, 1, 0, 0, 0, 0, 0, 0), (1, .getfield 15, 3, 1000, 1, 9, 110, 0, 19), (4, .arraylength, 1, 0, 0, 0, 0, 0, 0), (5, .aload_n 0, 1, 0, 0, 0, 0, 0, 0), (6, .getfield 21, 3, 2901, 0, 9, 119, 0, 19), (9, .isub, 1, 0, 0, 0, 0, 0, 0), (10, .ireturn, 1, 0, 0, 0, 0, 0, 0)]
set_option maxRecDepth 100000 in
theorem jk_X9_room : ji_X9_room.all (jck 87) = true := by decide +kernel
def ji_X9_put : List JI := [(0, .aload_n 0, 1, 0, 0, 0, 0, 0, 0), (1, .getfield 21, 3, 2901, 0, 9, 119, 0, 19), (4, .aload_n 0, 1, 0, 0, 0, 0, 0, 0), (5, .getfield 15, 3, 1000, 1, 9, 110, 0, 19), (8, .arraylength, 1, 0, 0, 0, 0, 0, 0), (9, .if_icmp .ge 23, 3, 32, 0, 0, 0, 0, 0), (12, .aload_n 0, 1, 0, 0, 0, 0, 0, 0), (13, .getfield 15, 3, 1000, 1, 9, 110, 0, 19), (16, .aload_n 0, 1, 0, 0, 0, 0, 0, 0), (17, .getfield 21, 3, 2901, 0, 9, 119, 0, 19), (20, .iload_n 1, 1, 0, 0, 0, 0, 0, 0), (21, .iastore, 1, 0, 0, 0, 0, 0, 0), (22, .aload_n 0, 1, 0, 0, 0, 0, 0, 0), (23, .dup, 1, 0, 0, 0, 0, 0, 0), (24, .getfield 21, 3, 2901, 0, 9, 119, 0, 19), (27, .iconst 1, 1, 0, 0, 0, 0, 0, 0), (28, .iadd, 1, 0, 0, 0, 0, 0, 0), (29, .putfield 21, 3, 2901, 0, 9, 119, 0, 19), (32, .return_, 1, 0, 0, 0, 0, 0, 0)]
set_option maxRecDepth 100000 in
theorem jk_X9_put : ji_X9_put.all (jck 88) = true := by decide +kernel
def ji_X9_putPoint : List JI := [(0, .iload_n 1, 1, 0, 0, 0, 0, 0, 0), (1, .ldc 25, 2, 0, 0, 0, 472, 0, 65535), (3, .if_icmp .gt 11, 3, 14, 0, 0, 0, 0, 0), (6, .aload_n 0, 1, 0, 0, 0, 0, 0, 0), (7, .iload_n 1, 1, 0, 0, 0, 0, 0, 0), (8, .invokevirtual 26, 3, 88, 2, 3, 473, 0, 19), (11, .goto 31, 3, 42, 0, 0, 0, 0, 0), (14, .iload_n 1, 1, 0, 0, 0, 0, 0, 0), (15, .ldc 30, 2, 0, 0, 0, 474, 0, 65536), (17, .isub, 1, 0, 0, 0, 0, 0, 0), (18, .istore_n 2, 1, 0, 0, 0, 0, 0, 0), (19, .aload_n 0, 1, 0, 0, 0, 0, 0, 0), (20, .ldc 31, 2, 0, 0, 0, 475, 0, 55296), (22, .iload_n 2, 1, 0, 0, 0, 0, 0, 0), (23, .bipush 10, 2, 0, 0, 0, 0, 0, 0), (25, .ishr, 1, 0, 0, 0, 0, 0, 0), (26, .iadd, 1, 0, 0, 0, 0, 0, 0), (27, .invokevirtual 26, 3, 88, 2, 3, 473, 0, 19), (30, .aload_n 0, 1, 0, 0, 0, 0, 0, 0), (31, .ldc 32, 2, 0, 0, 0, 476, 0, 56320), (33, .iload_n 2, 1, 0, 0, 0, 0, 0, 0), (34, .sipush 1023, 3, 0, 0, 0, 0, 0, 0), (37, .iand, 1, 0, 0, 0, 0, 0, 0), (38, .iadd, 1, 0, 0, 0, 0, 0, 0), (39, .invokevirtual 26, 3, 88, 2, 3, 473, 0, 19), (42, .return_, 1, 0, 0, 0, 0, 0, 0)]
set_option maxRecDepth 100000 in
theorem jk_X9_putPoint : ji_X9_putPoint.all (jck 89) = true := by decide +kernel
def ji_X9_putPart : List JI := [(0, .aload_n 1, 1, 0, 0, 0, 0, 0, 0), (1, .iload_n 2, 1, 0, 0, 0, 0, 0, 0), (2, .iload_n 3, 1, 0, 0, 0, 0, 0, 0), (3, .invokevirtual 33, 3, 85, 3, 0, 450, 0, 19), (6, .ifCond .eq 44, 3, 50, 0, 0, 0, 0, 0), (9, .aload_n 0, 1, 0, 0, 0, 0, 0, 0), (10, .invokevirtual 37, 3, 87, 1, 0, 454, 0, 19), (13, .iload_n 3, 1, 0, 0, 0, 0, 0, 0), (14, .iload_n 2, 1, 0, 0, 0, 0, 0, 0), (15, .isub, 1, 0, 0, 0, 0, 0, 0), (16, .if_icmp .lt 34, 3, 50, 0, 0, 0, 0, 0), (19, .aload_n 1, 1, 0, 0, 0, 0, 0, 0), (20, .getfield 15, 3, 1000, 1, 9, 110, 0, 19), (23, .iload_n 2, 1, 0, 0, 0, 0, 0, 0), (24, .aload_n 0, 1, 0, 0, 0, 0, 0, 0), (25, .getfield 15, 3, 1000, 1, 9, 110, 0, 19), (28, .aload_n 0, 1, 0, 0, 0, 0, 0, 0), (29, .getfield 21, 3, 2901, 0, 9, 119, 0, 19), (32, .iload_n 3, 1, 0, 0, 0, 0, 0, 0), (33, .iload_n 2, 1, 0, 0, 0, 0, 0, 0), (34, .isub, 1, 0, 0, 0, 0, 0, 0), (35, .invokestatic 41, 3, 1003, 5, 0, 455, 0, 0), (38, .aload_n 0, 1, 0, 0, 0, 0, 0, 0), (39, .dup, 1, 0, 0, 0, 0, 0, 0), (40, .getfield 21, 3, 2901, 0, 9, 119, 0, 19), (43, .iload_n 3, 1, 0, 0, 0, 0, 0, 0), (44, .iload_n 2, 1, 0, 0, 0, 0, 0, 0), (45, .isub, 1, 0, 0, 0, 0, 0, 0), (46, .iadd, 1, 0, 0, 0, 0, 0, 0), (47, .putfield 21, 3, 2901, 0, 9, 119, 0, 19), (50, .return_, 1, 0, 0, 0, 0, 0, 0)]
set_option maxRecDepth 100000 in
theorem jk_X9_putPart : ji_X9_putPart.all (jck 90) = true := by decide +kernel
def ji_X9_putAhead : List JI := [(0, .iload_n 1, 1, 0, 0, 0, 0, 0, 0), (1, .ifCond .lt 56, 3, 57, 0, 0, 0, 0, 0), (4, .iload_n 1, 1, 0, 0, 0, 0, 0, 0), (5, .aload_n 0, 1, 0, 0, 0, 0, 0, 0), (6, .getfield 21, 3, 2901, 0, 9, 119, 0, 19), (9, .if_icmp .gt 48, 3, 57, 0, 0, 0, 0, 0), (12, .aload_n 0, 1, 0, 0, 0, 0, 0, 0), (13, .invokevirtual 37, 3, 87, 1, 0, 454, 0, 19), (16, .ifCond .le 41, 3, 57, 0, 0, 0, 0, 0), (19, .aload_n 0, 1, 0, 0, 0, 0, 0, 0), (20, .getfield 15, 3, 1000, 1, 9, 110, 0, 19), (23, .iload_n 1, 1, 0, 0, 0, 0, 0, 0), (24, .aload_n 0, 1, 0, 0, 0, 0, 0, 0), (25, .getfield 15, 3, 1000, 1, 9, 110, 0, 19), (28, .iload_n 1, 1, 0, 0, 0, 0, 0, 0), (29, .iconst 1, 1, 0, 0, 0, 0, 0, 0), (30, .iadd, 1, 0, 0, 0, 0, 0, 0), (31, .aload_n 0, 1, 0, 0, 0, 0, 0, 0), (32, .getfield 21, 3, 2901, 0, 9, 119, 0, 19), (35, .iload_n 1, 1, 0, 0, 0, 0, 0, 0), (36, .isub, 1, 0, 0, 0, 0, 0, 0), (37, .invokestatic 41, 3, 1003, 5, 0, 455, 0, 0), (40, .aload_n 0, 1, 0, 0, 0, 0, 0, 0), (41, .getfield 15, 3, 1000, 1, 9, 110, 0, 19), (44, .iload_n 1, 1, 0, 0, 0, 0, 0, 0), (45, .iload_n 2, 1, 0, 0, 0, 0, 0, 0), (46, .iastore, 1, 0, 0, 0, 0, 0, 0), (47, .aload_n 0, 1, 0, 0, 0, 0, 0, 0), (48, .dup, 1, 0, 0, 0, 0, 0, 0), (49, .getfield 21, 3, 2901, 0, 9, 119, 0, 19), (52, .iconst 1, 1, 0, 0, 0, 0, 0, 0), (53, .iadd, 1, 0, 0, 0, 0, 0, 0), (54, .putfield 21, 3, 2901, 0, 9, 119, 0, 19), (57, .return_, 1, 0, 0, 0, 0, 0, 0)]
set_option maxRecDepth 100000 in
theorem jk_X9_putAhead : ji_X9_putAhead.all (jck 91) = true := by decide +kernel
def ji_X9_drop : List JI := [(0, .aload_n 0, 1, 0, 0, 0, 0, 0, 0), (1, .iload_n 1, 1, 0, 0, 0, 0, 0, 0), (2, .iload_n 2, 1, 0, 0, 0, 0, 0, 0), (3, .invokevirtual 47, 3, 86, 3, 0, 518, 0, 19), (6, .ifCond .eq 36, 3, 42, 0, 0, 0, 0, 0), (9, .aload_n 0, 1, 0, 0, 0, 0, 0, 0), (10, .getfield 15, 3, 1000, 1, 9, 110, 0, 19), (13, .iload_n 1, 1, 0, 0, 0, 0, 0, 0), (14, .iload_n 2, 1, 0, 0, 0, 0, 0, 0), (15, .iadd, 1, 0, 0, 0, 0, 0, 0), (16, .aload_n 0, 1, 0, 0, 0, 0, 0, 0), (17, .getfield 15, 3, 1000, 1, 9, 110, 0, 19), (20, .iload_n 1, 1, 0, 0, 0, 0, 0, 0), (21, .aload_n 0, 1, 0, 0, 0, 0, 0, 0), (22, .getfield 21, 3, 2901, 0, 9, 119, 0, 19), (25, .iload_n 1, 1, 0, 0, 0, 0, 0, 0), (26, .isub, 1, 0, 0, 0, 0, 0, 0), (27, .iload_n 2, 1, 0, 0, 0, 0, 0, 0), (28, .isub, 1, 0, 0, 0, 0, 0, 0), (29, .invokestatic 41, 3, 1003, 5, 0, 455, 0, 0), (32, .aload_n 0, 1, 0, 0, 0, 0, 0, 0), (33, .dup, 1, 0, 0, 0, 0, 0, 0), (34, .getfield 21, 3, 2901, 0, 9, 119, 0, 19), (37, .iload_n 2, 1, 0, 0, 0, 0, 0, 0), (38, .isub, 1, 0, 0, 0, 0, 0, 0), (39, .putfield 21, 3, 2901, 0, 9, 119, 0, 19), (42, .return_, 1, 0, 0, 0, 0, 0, 0)]
set_option maxRecDepth 100000 in
theorem jk_X9_drop : ji_X9_drop.all (jck 92) = true := by decide +kernel
def ji_X9_become : List JI := [(0, .aload_n 0, 1, 0, 0, 0, 0, 0, 0), (1, .iconst 0, 1, 0, 0, 0, 0, 0, 0), (2, .putfield 21, 3, 2901, 0, 9, 119, 0, 19), (5, .aload_n 0, 1, 0, 0, 0, 0, 0, 0), (6, .aload_n 1, 1, 0, 0, 0, 0, 0, 0), (7, .iconst 0, 1, 0, 0, 0, 0, 0, 0), (8, .aload_n 1, 1, 0, 0, 0, 0, 0, 0), (9, .getfield 21, 3, 2901, 0, 9, 119, 0, 19), (12, .invokevirtual 50, 3, 90, 4, 3, 446, 0, 19), (15, .return_, 1, 0, 0, 0, 0, 0, 0)]
set_option maxRecDepth 100000 in
theorem jk_X9_become : ji_X9_become.all (jck 93) = true := by decide +kernel
def ji_X9_isPair : List JI := [(0, .iload_n 1, 1, 0, 0, 0, 0, 0, 0), (1, .ifCond .lt 65, 3, 66, 0, 0, 0, 0, 0), (4, .iload_n 1, 1, 0, 0, 0, 0, 0, 0), (5, .iconst 1, 1, 0, 0, 0, 0, 0, 0), (6, .iadd, 1, 0, 0, 0, 0, 0, 0), (7, .aload_n 0, 1, 0, 0, 0, 0, 0, 0), (8, .getfield 21, 3, 2901, 0, 9, 119, 0, 19), (11, .if_icmp .ge 55, 3, 66, 0, 0, 0, 0, 0), (14, .aload_n 0, 1, 0, 0, 0, 0, 0, 0), (15, .getfield 15, 3, 1000, 1, 9, 110, 0, 19), (18, .iload_n 1, 1, 0, 0, 0, 0, 0, 0), (19, .iaload, 1, 0, 0, 0, 0, 0, 0), (20, .ldc 31, 2, 0, 0, 0, 475, 0, 55296), (22, .if_icmp .lt 44, 3, 66, 0, 0, 0, 0, 0), (25, .aload_n 0, 1, 0, 0, 0, 0, 0, 0), (26, .getfield 15, 3, 1000, 1, 9, 110, 0, 19), (29, .iload_n 1, 1, 0, 0, 0, 0, 0, 0), (30, .iaload, 1, 0, 0, 0, 0, 0, 0), (31, .ldc 54, 2, 0, 0, 0, 547, 0, 56319), (33, .if_icmp .gt 33, 3, 66, 0, 0, 0, 0, 0), (36, .aload_n 0, 1, 0, 0, 0, 0, 0, 0), (37, .getfield 15, 3, 1000, 1, 9, 110, 0, 19), (40, .iload_n 1, 1, 0, 0, 0, 0, 0, 0), (41, .iconst 1, 1, 0, 0, 0, 0, 0, 0), (42, .iadd, 1, 0, 0, 0, 0, 0, 0), (43, .iaload, 1, 0, 0, 0, 0, 0, 0), (44, .ldc 32, 2, 0, 0, 0, 476, 0, 56320), (46, .if_icmp .lt 20, 3, 66, 0, 0, 0, 0, 0), (49, .aload_n 0, 1, 0, 0, 0, 0, 0, 0), (50, .getfield 15, 3, 1000, 1, 9, 110, 0, 19), (53, .iload_n 1, 1, 0, 0, 0, 0, 0, 0), (54, .iconst 1, 1, 0, 0, 0, 0, 0, 0), (55, .iadd, 1, 0, 0, 0, 0, 0, 0), (56, .iaload, 1, 0, 0, 0, 0, 0, 0), (57, .ldc 55, 2, 0, 0, 0, 548, 0, 57343), (59, .if_icmp .gt 7, 3, 66, 0, 0, 0, 0, 0), (62, .iconst 1, 1, 0, 0, 0, 0, 0, 0), (63, .goto 4, 3, 67, 0, 0, 0, 0, 0), (66, .iconst 0, 1, 0, 0, 0, 0, 0, 0), (67, .ireturn, 1, 0, 5, 0, 0, 0, 0)]
set_option maxRecDepth 100000 in
theorem jk_X9_isPair : ji_X9_isPair.all (jck 94) = true := by decide +kernel
def ji_X9_pointFrom : List JI := [(0, .aload_n 0, 1, 0, 0, 0, 0, 0, 0), (1, .iload_n 1, 1, 0, 0, 0, 0, 0, 0), (2, .invokevirtual 56, 3, 94, 2, 0, 557, 0, 19), (5, .ifCond .eq 31, 3, 36, 0, 0, 0, 0, 0), (8, .ldc 30, 2, 0, 0, 0, 474, 0, 65536), (10, .aload_n 0, 1, 0, 0, 0, 0, 0, 0), (11, .getfield 15, 3, 1000, 1, 9, 110, 0, 19), (14, .iload_n 1, 1, 0, 0, 0, 0, 0, 0), (15, .iaload, 1, 0, 0, 0, 0, 0, 0), (16, .ldc 31, 2, 0, 0, 0, 475, 0, 55296), (18, .isub, 1, 0, 0, 0, 0, 0, 0), (19, .bipush 10, 2, 0, 0, 0, 0, 0, 0), (21, .ishl, 1, 0, 0, 0, 0, 0, 0), (22, .iadd, 1, 0, 0, 0, 0, 0, 0), (23, .aload_n 0, 1, 0, 0, 0, 0, 0, 0), (24, .getfield 15, 3, 1000, 1, 9, 110, 0, 19), (27, .iload_n 1, 1, 0, 0, 0, 0, 0, 0), (28, .iconst 1, 1, 0, 0, 0, 0, 0, 0), (29, .iadd, 1, 0, 0, 0, 0, 0, 0), (30, .iaload, 1, 0, 0, 0, 0, 0, 0), (31, .ldc 32, 2, 0, 0, 0, 476, 0, 56320), (33, .isub, 1, 0, 0, 0, 0, 0, 0), (34, .iadd, 1, 0, 0, 0, 0, 0, 0), (35, .ireturn, 1, 0, 0, 0, 0, 0, 0), (36, .aload_n 0, 1, 0, 0, 0, 0, 0, 0), (37, .iload_n 1, 1, 0, 0, 0, 0, 0, 0), (38, .invokevirtual 60, 3, 84, 2, 0, 558, 0, 19), (41, .ifCond .eq 12, 3, 53, 0, 0, 0, 0, 0), (44, .aload_n 0, 1, 0, 0, 0, 0, 0, 0), (45, .getfield 15, 3, 1000, 1, 9, 110, 0, 19), (48, .iload_n 1, 1, 0, 0, 0, 0, 0, 0), (49, .iaload, 1, 0, 0, 0, 0, 0, 0), (50, .goto 4, 3, 54, 0, 0, 0, 0, 0), (53, .iconst (-1), 1, 0, 0, 0, 0, 0, 0), (54, .ireturn, 1, 0, 0, 0, 0, 0, 0)]
set_option maxRecDepth 100000 in
theorem jk_X9_pointFrom : ji_X9_pointFrom.all (jck 95) = true := by decide +kernel
def ji_X9_isHalf : List JI := [(0, .aload_n 0, 1, 0, 0, 0, 0, 0, 0), (1, .iload_n 1, 1, 0, 0, 0, 0, 0, 0), (2, .invokevirtual 60, 3, 84, 2, 0, 558, 0, 19), (5, .ifCond .eq 29, 3, 34, 0, 0, 0, 0, 0), (8, .aload_n 0, 1, 0, 0, 0, 0, 0, 0), (9, .getfield 15, 3, 1000, 1, 9, 110, 0, 19), (12, .iload_n 1, 1, 0, 0, 0, 0, 0, 0), (13, .iaload, 1, 0, 0, 0, 0, 0, 0), (14, .ldc 31, 2, 0, 0, 0, 475, 0, 55296), (16, .if_icmp .lt 18, 3, 34, 0, 0, 0, 0, 0), (19, .aload_n 0, 1, 0, 0, 0, 0, 0, 0), (20, .getfield 15, 3, 1000, 1, 9, 110, 0, 19), (23, .iload_n 1, 1, 0, 0, 0, 0, 0, 0), (24, .iaload, 1, 0, 0, 0, 0, 0, 0), (25, .ldc 55, 2, 0, 0, 0, 548, 0, 57343), (27, .if_icmp .gt 7, 3, 34, 0, 0, 0, 0, 0), (30, .iconst 1, 1, 0, 0, 0, 0, 0, 0), (31, .goto 4, 3, 35, 0, 0, 0, 0, 0), (34, .iconst 0, 1, 0, 0, 0, 0, 0, 0), (35, .ireturn, 1, 0, 5, 0, 0, 0, 0)]
set_option maxRecDepth 100000 in
theorem jk_X9_isHalf : ji_X9_isHalf.all (jck 96) = true := by decide +kernel
def ji_X9_against : List JI := [(0, .iconst 0, 1, 0, 0, 0, 0, 0, 0), (1, .istore_n 2, 1, 0, 0, 0, 0, 0, 0), (2, .iload_n 2, 1, 0, 0, 0, 0, 0, 0), (3, .aload_n 0, 1, 0, 0, 0, 0, 0, 0), (4, .getfield 21, 3, 2901, 0, 9, 119, 0, 19), (7, .if_icmp .ge 53, 3, 60, 0, 0, 0, 0, 0), (10, .iload_n 2, 1, 0, 0, 0, 0, 0, 0), (11, .aload_n 1, 1, 0, 0, 0, 0, 0, 0), (12, .getfield 21, 3, 2901, 0, 9, 119, 0, 19), (15, .if_icmp .ge 45, 3, 60, 0, 0, 0, 0, 0), (18, .aload_n 0, 1, 0, 0, 0, 0, 0, 0), (19, .getfield 15, 3, 1000, 1, 9, 110, 0, 19), (22, .iload_n 2, 1, 0, 0, 0, 0, 0, 0), (23, .iaload, 1, 0, 0, 0, 0, 0, 0), (24, .aload_n 1, 1, 0, 0, 0, 0, 0, 0), (25, .getfield 15, 3, 1000, 1, 9, 110, 0, 19), (28, .iload_n 2, 1, 0, 0, 0, 0, 0, 0), (29, .iaload, 1, 0, 0, 0, 0, 0, 0), (30, .if_icmp .eq 24, 3, 54, 0, 0, 0, 0, 0), (33, .aload_n 0, 1, 0, 0, 0, 0, 0, 0), (34, .getfield 15, 3, 1000, 1, 9, 110, 0, 19), (37, .iload_n 2, 1, 0, 0, 0, 0, 0, 0), (38, .iaload, 1, 0, 0, 0, 0, 0, 0), (39, .aload_n 1, 1, 0, 0, 0, 0, 0, 0), (40, .getfield 15, 3, 1000, 1, 9, 110, 0, 19), (43, .iload_n 2, 1, 0, 0, 0, 0, 0, 0), (44, .iaload, 1, 0, 0, 0, 0, 0, 0), (45, .if_icmp .ge 7, 3, 52, 0, 0, 0, 0, 0), (48, .iconst (-1), 1, 0, 0, 0, 0, 0, 0), (49, .goto 4, 3, 53, 0, 0, 0, 0, 0), (52, .iconst 1, 1, 0, 0, 0, 0, 0, 0), (53, .ireturn, 1, 0, 0, 0, 0, 0, 0), (54, .iinc 2 1, 3, 0, 0, 0, 0, 0, 0), (57, .goto (-55), 3, 2, 0, 0, 0, 0, 0), (60, .aload_n 0, 1, 0, 0, 0, 0, 0, 0), (61, .aload_n 1, 1, 0, 0, 0, 0, 0, 0), (62, .invokevirtual 63, 3, 99, 2, 0, 576, 0, 19), (65, .ireturn, 1, 0, 0, 0, 0, 0, 0)]
set_option maxRecDepth 100000 in
theorem jk_X9_against : ji_X9_against.all (jck 97) = true := by decide +kernel
def ji_X9_againstByPoints : List JI := [(0, .iconst 0, 1, 0, 0, 0, 0, 0, 0), (1, .istore_n 2, 1, 0, 0, 0, 0, 0, 0), (2, .iload_n 2, 1, 0, 0, 0, 0, 0, 0), (3, .aload_n 0, 1, 0, 0, 0, 0, 0, 0), (4, .getfield 21, 3, 2901, 0, 9, 119, 0, 19), (7, .if_icmp .ge 59, 3, 66, 0, 0, 0, 0, 0), (10, .iload_n 2, 1, 0, 0, 0, 0, 0, 0), (11, .aload_n 1, 1, 0, 0, 0, 0, 0, 0), (12, .getfield 21, 3, 2901, 0, 9, 119, 0, 19), (15, .if_icmp .ge 51, 3, 66, 0, 0, 0, 0, 0), (18, .aload_n 0, 1, 0, 0, 0, 0, 0, 0), (19, .iload_n 2, 1, 0, 0, 0, 0, 0, 0), (20, .invokevirtual 67, 3, 95, 2, 0, 575, 0, 19), (23, .istore_n 3, 1, 0, 0, 0, 0, 0, 0), (24, .aload_n 1, 1, 0, 0, 0, 0, 0, 0), (25, .iload_n 2, 1, 0, 0, 0, 0, 0, 0), (26, .invokevirtual 67, 3, 95, 2, 0, 575, 0, 19), (29, .istore 4, 2, 0, 0, 0, 0, 0, 0), (31, .iload_n 3, 1, 0, 0, 0, 0, 0, 0), (32, .iload 4, 2, 0, 0, 0, 0, 0, 0), (34, .if_icmp .eq 15, 3, 49, 0, 0, 0, 0, 0), (37, .iload_n 3, 1, 0, 0, 0, 0, 0, 0), (38, .iload 4, 2, 0, 0, 0, 0, 0, 0), (40, .if_icmp .ge 7, 3, 47, 0, 0, 0, 0, 0), (43, .iconst (-1), 1, 0, 0, 0, 0, 0, 0), (44, .goto 4, 3, 48, 0, 0, 0, 0, 0), (47, .iconst 1, 1, 0, 0, 0, 0, 0, 0), (48, .ireturn, 1, 0, 0, 0, 0, 0, 0), (49, .aload_n 0, 1, 0, 0, 0, 0, 0, 0), (50, .iload_n 2, 1, 0, 0, 0, 0, 0, 0), (51, .invokevirtual 56, 3, 94, 2, 0, 557, 0, 19), (54, .ifCond .eq 6, 3, 60, 0, 0, 0, 0, 0), (57, .iinc 2 1, 3, 0, 0, 0, 0, 0, 0), (60, .iinc 2 1, 3, 0, 0, 0, 0, 0, 0), (63, .goto (-61), 3, 2, 0, 0, 0, 0, 0), (66, .aload_n 0, 1, 0, 0, 0, 0, 0, 0), (67, .aload_n 1, 1, 0, 0, 0, 0, 0, 0), (68, .invokevirtual 63, 3, 99, 2, 0, 576, 0, 19), (71, .ireturn, 1, 0, 0, 0, 0, 0, 0)]
set_option maxRecDepth 100000 in
theorem jk_X9_againstByPoints : ji_X9_againstByPoints.all (jck 98) = true := by decide +kernel
def ji_X9_bySize : List JI := [(0, .aload_n 0, 1, 0, 0, 0, 0, 0, 0), (1, .getfield 21, 3, 2901, 0, 9, 119, 0, 19), (4, .aload_n 1, 1, 0, 0, 0, 0, 0, 0), (5, .getfield 21, 3, 2901, 0, 9, 119, 0, 19), (8, .if_icmp .ne 5, 3, 13, 0, 0, 0, 0, 0), (11, .iconst 0, 1, 0, 0, 0, 0, 0, 0), (12, .ireturn, 1, 0, 0, 0, 0, 0, 0), (13, .aload_n 0, 1, 0, 0, 0, 0, 0, 0), (14, .getfield 21, 3, 2901, 0, 9, 119, 0, 19), (17, .aload_n 1, 1, 0, 0, 0, 0, 0, 0), (18, .getfield 21, 3, 2901, 0, 9, 119, 0, 19), (21, .if_icmp .ge 7, 3, 28, 0, 0, 0, 0, 0), (24, .iconst (-1), 1, 0, 0, 0, 0, 0, 0), (25, .goto 4, 3, 29, 0, 0, 0, 0, 0), (28, .iconst 1, 1, 0, 0, 0, 0, 0, 0), (29, .ireturn, 1, 0, 0, 0, 0, 0, 0)]
set_option maxRecDepth 100000 in
theorem jk_X9_bySize : ji_X9_bySize.all (jck 99) = true := by decide +kernel
def ji_X10_init : List JI := [(0, .aload_n 0, 1, 0, 0, 0, 0, 0, 0), (1, .invokespecial 3, 3, 1000, 1, 0, 310, 0, 0), (4, .aload_n 0, 1, 0, 0, 0, 0, 0, 0), (5, .iload_n 1, 1, 0, 0, 0, 0, 0, 0), (6, .putfield 9, 3, 3001, 0, 10, 314, 0, 20), (9, .aload_n 0, 1, 0, 0, 0, 0, 0, 0), (10, .iload_n 2, 1, 0, 0, 0, 0, 0, 0), (11, .putfield 15, 3, 3002, 0, 10, 315, 0, 20), (14, .aload_n 0, 1, 0, 0, 0, 0, 0, 0), (15, .iload_n 1, 1, 0, 0, 0, 0, 0, 0), (16, .iload_n 2, 1, 0, 0, 0, 0, 0, 0), (17, .imul, 1, 0, 0, 0, 0, 0, 0), (18, .iconst 0, 1, 0, 0, 0, 0, 0, 0), (19, .invokestatic 18, 3, 1001, 2, 0, 311, 0, 0), (22, .newarray .int, 2, 0, 0, 0, 133, 0, 1), (24, .putfield 24, 3, 1100, 1, 10, 312, 0, 20), (27, .return_, 1, 0, 0, 0, 0, 0, 0)]
set_option maxRecDepth 100000 in
theorem jk_X10_init : ji_X10_init.all (jck 100) = true := by decide +kernel
def ji_X10_clear : List JI := [(0, .aload_n 0, 1, 0, 0, 0, 0, 0, 0), (1, .iconst 0, 1, 0, 0, 0, 0, 0, 0), (2, .putfield 28, 3, 3003, 0, 10, 316, 0, 20), (5, .return_, 1, 0, 0, 0, 0, 0, 0)]
set_option maxRecDepth 100000 in
theorem jk_X10_clear : ji_X10_clear.all (jck 101) = true := by decide +kernel
def ji_X10_answer : List JI := [(0, .iload_n 2, 1, 0, 0, 0, 0, 0, 0), (1, .ifCond .lt 11, 3, 12, 0, 0, 0, 0, 0), (4, .iload_n 2, 1, 0, 0, 0, 0, 0, 0), (5, .aload_n 0, 1, 0, 0, 0, 0, 0, 0), (6, .getfield 9, 3, 3001, 0, 10, 314, 0, 20), (9, .if_icmp .lt 6, 3, 15, 0, 0, 0, 0, 0), (12, .bipush (-2), 2, 0, 0, 0, 0, 0, 0), (14, .ireturn, 1, 0, 0, 0, 0, 0, 0), (15, .iload_n 1, 1, 0, 0, 0, 0, 0, 0), (16, .ifCond .lt 11, 3, 27, 0, 0, 0, 0, 0), (19, .iload_n 1, 1, 0, 0, 0, 0, 0, 0), (20, .aload_n 0, 1, 0, 0, 0, 0, 0, 0), (21, .getfield 28, 3, 3003, 0, 10, 316, 0, 20), (24, .if_icmp .lt 7, 3, 31, 0, 0, 0, 0, 0), (27, .iconst (-1), 1, 0, 0, 0, 0, 0, 0), (28, .goto 16, 3, 44, 0, 0, 0, 0, 0), (31, .aload_n 0, 1, 0, 0, 0, 0, 0, 0), (32, .getfield 24, 3, 1100, 1, 10, 312, 0, 20), (35, .iload_n 1, 1, 0, 0, 0, 0, 0, 0), (36, .aload_n 0, 1, 0, 0, 0, 0, 0, 0), (37, .getfield 9, 3, 3001, 0, 10, 314, 0, 20), (40, .imul, 1, 0, 0, 0, 0, 0, 0), (41, .iload_n 2, 1, 0, 0, 0, 0, 0, 0), (42, .iadd, 1, 0, 0, 0, 0, 0, 0), (43, .iaload, 1, 0, 0, 0, 0, 0, 0), (44, .ireturn, 1, 0, 0, 0, 0, 0, 0)]
set_option maxRecDepth 100000 in
theorem jk_X10_answer : ji_X10_answer.all (jck 102) = true := by decide +kernel
def ji_X10_add : List JI := [(0, .aload_n 0, 1, 0, 0, 0, 0, 0, 0), (1, .getfield 28, 3, 3003, 0, 10, 316, 0, 20), (4, .aload_n 0, 1, 0, 0, 0, 0, 0, 0), (5, .getfield 15, 3, 3002, 0, 10, 315, 0, 20), (8, .if_icmp .ge 24, 3, 32, 0, 0, 0, 0, 0), (11, .aload_n 0, 1, 0, 0, 0, 0, 0, 0), (12, .aload_n 0, 1, 0, 0, 0, 0, 0, 0), (13, .getfield 28, 3, 3003, 0, 10, 316, 0, 20), (16, .iload_n 1, 1, 0, 0, 0, 0, 0, 0), (17, .iload_n 2, 1, 0, 0, 0, 0, 0, 0), (18, .iload_n 3, 1, 0, 0, 0, 0, 0, 0), (19, .invokevirtual 31, 3, 105, 5, 3, 715, 0, 20), (22, .aload_n 0, 1, 0, 0, 0, 0, 0, 0), (23, .dup, 1, 0, 0, 0, 0, 0, 0), (24, .getfield 28, 3, 3003, 0, 10, 316, 0, 20), (27, .iconst 1, 1, 0, 0, 0, 0, 0, 0), (28, .iadd, 1, 0, 0, 0, 0, 0, 0), (29, .putfield 28, 3, 3003, 0, 10, 316, 0, 20), (32, .return_, 1, 0, 0, 0, 0, 0, 0)]
set_option maxRecDepth 100000 in
theorem jk_X10_add : ji_X10_add.all (jck 103) = true := by decide +kernel
def ji_X10_addByFirst : List JI := [(0, .aload_n 0, 1, 0, 0, 0, 0, 0, 0), (1, .getfield 28, 3, 3003, 0, 10, 316, 0, 20), (4, .aload_n 0, 1, 0, 0, 0, 0, 0, 0), (5, .getfield 15, 3, 3002, 0, 10, 315, 0, 20), (8, .if_icmp .lt 4, 3, 12, 0, 0, 0, 0, 0), (11, .return_, 1, 0, 0, 0, 0, 0, 0), (12, .aload_n 0, 1, 0, 0, 0, 0, 0, 0), (13, .getfield 28, 3, 3003, 0, 10, 316, 0, 20), (16, .istore 4, 2, 0, 0, 0, 0, 0, 0), (18, .iload 4, 2, 0, 0, 0, 0, 0, 0), (20, .ifCond .le 58, 3, 78, 0, 0, 0, 0, 0), (23, .aload_n 0, 1, 0, 0, 0, 0, 0, 0), (24, .getfield 24, 3, 1100, 1, 10, 312, 0, 20), (27, .iload 4, 2, 0, 0, 0, 0, 0, 0), (29, .iconst 1, 1, 0, 0, 0, 0, 0, 0), (30, .isub, 1, 0, 0, 0, 0, 0, 0), (31, .aload_n 0, 1, 0, 0, 0, 0, 0, 0), (32, .getfield 9, 3, 3001, 0, 10, 314, 0, 20), (35, .imul, 1, 0, 0, 0, 0, 0, 0), (36, .iaload, 1, 0, 0, 0, 0, 0, 0), (37, .iload_n 1, 1, 0, 0, 0, 0, 0, 0), (38, .if_icmp .le 40, 3, 78, 0, 0, 0, 0, 0), (41, .aload_n 0, 1, 0, 0, 0, 0, 0, 0), (42, .getfield 24, 3, 1100, 1, 10, 312, 0, 20), (45, .iload 4, 2, 0, 0, 0, 0, 0, 0), (47, .iconst 1, 1, 0, 0, 0, 0, 0, 0), (48, .isub, 1, 0, 0, 0, 0, 0, 0), (49, .aload_n 0, 1, 0, 0, 0, 0, 0, 0), (50, .getfield 9, 3, 3001, 0, 10, 314, 0, 20), (53, .imul, 1, 0, 0, 0, 0, 0, 0), (54, .aload_n 0, 1, 0, 0, 0, 0, 0, 0), (55, .getfield 24, 3, 1100, 1, 10, 312, 0, 20), (58, .iload 4, 2, 0, 0, 0, 0, 0, 0), (60, .aload_n 0, 1, 0, 0, 0, 0, 0, 0), (61, .getfield 9, 3, 3001, 0, 10, 314, 0, 20), (64, .imul, 1, 0, 0, 0, 0, 0, 0), (65, .aload_n 0, 1, 0, 0, 0, 0, 0, 0), (66, .getfield 9, 3, 3001, 0, 10, 314, 0, 20), (69, .invokestatic 35, 3, 1003, 5, 0, 802, 0, 0), (72, .iinc 4 (-1), 3, 0, 0, 0, 0, 0, 0), (75, .goto (-57), 3, 18, 0, 0, 0, 0, 0), (78, .aload_n 0, 1, 0, 0, 0, 0, 0, 0), (79, .iload 4, 2, 0, 0, 0, 0, 0, 0), (81, .iload_n 1, 1, 0, 0, 0, 0, 0, 0), (82, .iload_n 2, 1, 0, 0, 0, 0, 0, 0), (83, .iload_n 3, 1, 0, 0, 0, 0, 0, 0), (84, .invokevirtual 31, 3, 105, 5, 3, 715, 0, 20), (87, .aload_n 0, 1, 0, 0, 0, 0, 0, 0), (88, .dup, 1, 0, 0, 0, 0, 0, 0), (89, .getfield 28, 3, 3003, 0, 10, 316, 0, 20), (92, .iconst 1, 1, 0, 0, 0, 0, 0, 0), (93, .iadd, 1, 0, 0, 0, 0, 0, 0), (94, .putfield 28, 3, 3003, 0, 10, 316, 0, 20), (97, .return_, 1, 0, 0, 0, 0, 0, 0)]
set_option maxRecDepth 100000 in
theorem jk_X10_addByFirst : ji_X10_addByFirst.all (jck 104) = true := by decide +kernel
def ji_X10_write : List JI := [(0, .iload_n 1, 1, 0, 0, 0, 0, 0, 0), (1, .aload_n 0, 1, 0, 0, 0, 0, 0, 0), (2, .getfield 9, 3, 3001, 0, 10, 314, 0, 20), (5, .imul, 1, 0, 0, 0, 0, 0, 0), (6, .istore 5, 2, 0, 0, 0, 0, 0, 0), (8, .aload_n 0, 1, 0, 0, 0, 0, 0, 0), (9, .getfield 24, 3, 1100, 1, 10, 312, 0, 20), (12, .iload 5, 2, 0, 0, 0, 0, 0, 0), (14, .iload_n 2, 1, 0, 0, 0, 0, 0, 0), (15, .iastore, 1, 0, 0, 0, 0, 0, 0), (16, .aload_n 0, 1, 0, 0, 0, 0, 0, 0), (17, .getfield 9, 3, 3001, 0, 10, 314, 0, 20), (20, .iconst 1, 1, 0, 0, 0, 0, 0, 0), (21, .if_icmp .le 13, 3, 34, 0, 0, 0, 0, 0), (24, .aload_n 0, 1, 0, 0, 0, 0, 0, 0), (25, .getfield 24, 3, 1100, 1, 10, 312, 0, 20), (28, .iload 5, 2, 0, 0, 0, 0, 0, 0), (30, .iconst 1, 1, 0, 0, 0, 0, 0, 0), (31, .iadd, 1, 0, 0, 0, 0, 0, 0), (32, .iload_n 3, 1, 0, 0, 0, 0, 0, 0), (33, .iastore, 1, 0, 0, 0, 0, 0, 0), (34, .aload_n 0, 1, 0, 0, 0, 0, 0, 0), (35, .getfield 9, 3, 3001, 0, 10, 314, 0, 20), (38, .iconst 2, 1, 0, 0, 0, 0, 0, 0), (39, .if_icmp .le 14, 3, 53, 0, 0, 0, 0, 0), (42, .aload_n 0, 1, 0, 0, 0, 0, 0, 0), (43, .getfield 24, 3, 1100, 1, 10, 312, 0, 20), (46, .iload 5, 2, 0, 0, 0, 0, 0, 0), (48, .iconst 2, 1, 0, 0, 0, 0, 0, 0), (49, .iadd, 1, 0, 0, 0, 0, 0, 0), (50, .iload 4, 2, 0, 0, 0, 0, 0, 0), (52, .iastore, 1, 0, 0, 0, 0, 0, 0), (53, .return_, 1, 0, 0, 0, 0, 0, 0)]
set_option maxRecDepth 100000 in
theorem jk_X10_write : ji_X10_write.all (jck 105) = true := by decide +kernel
def ji_X10_rowOf : List JI := [(0, .iconst 0, 1, 0, 0, 0, 0, 0, 0), (1, .istore_n 3, 1, 0, 0, 0, 0, 0, 0), (2, .iload_n 3, 1, 0, 0, 0, 0, 0, 0), (3, .aload_n 0, 1, 0, 0, 0, 0, 0, 0), (4, .getfield 28, 3, 3003, 0, 10, 316, 0, 20), (7, .if_icmp .ge 31, 3, 38, 0, 0, 0, 0, 0), (10, .aload_n 0, 1, 0, 0, 0, 0, 0, 0), (11, .iload_n 3, 1, 0, 0, 0, 0, 0, 0), (12, .iconst 0, 1, 0, 0, 0, 0, 0, 0), (13, .invokevirtual 41, 3, 102, 3, 0, 797, 0, 20), (16, .iload_n 1, 1, 0, 0, 0, 0, 0, 0), (17, .if_icmp .ne 15, 3, 32, 0, 0, 0, 0, 0), (20, .aload_n 0, 1, 0, 0, 0, 0, 0, 0), (21, .iload_n 3, 1, 0, 0, 0, 0, 0, 0), (22, .iconst 1, 1, 0, 0, 0, 0, 0, 0), (23, .invokevirtual 41, 3, 102, 3, 0, 797, 0, 20), (26, .iload_n 2, 1, 0, 0, 0, 0, 0, 0), (27, .if_icmp .ne 5, 3, 32, 0, 0, 0, 0, 0), (30, .iload_n 3, 1, 0, 0, 0, 0, 0, 0), (31, .ireturn, 1, 0, 0, 0, 0, 0, 0), (32, .iinc 3 1, 3, 0, 0, 0, 0, 0, 0), (35, .goto (-33), 3, 2, 0, 0, 0, 0, 0), (38, .iconst (-1), 1, 0, 0, 0, 0, 0, 0), (39, .ireturn, 1, 0, 0, 0, 0, 0, 0)]
set_option maxRecDepth 100000 in
theorem jk_X10_rowOf : ji_X10_rowOf.all (jck 106) = true := by decide +kernel
def ji_X11_init : List JI := [(0, .aload_n 0, 1, 0, 0, 0, 0, 0, 0), (1, .invokespecial 1, 3, 1000, 1, 0, 89, 0, 0), (4, .aload_n 0, 1, 0, 0, 0, 0, 0, 0), (5, .new 7, 3, 70, 6, 4, 92, 93, 14), (8, .dup, 1, 0, 0, 0, 0, 0, 0), (9, .invokespecial 9, 3, 26, 1, 3, 94, 0, 0), (12, .putfield 10, 3, 1200, 1, 11, 362, 0, 21), (15, .aload_n 0, 1, 0, 0, 0, 0, 0, 0), (16, .new 16, 3, 74, 15, 8, 176, 177, 18), (19, .dup, 1, 0, 0, 0, 0, 0, 0), (20, .sipush 240, 3, 0, 0, 0, 0, 0, 0), (23, .invokespecial 18, 3, 57, 2, 3, 178, 0, 0), (26, .putfield 21, 3, 1201, 1, 11, 363, 0, 21), (29, .aload_n 0, 1, 0, 0, 0, 0, 0, 0), (30, .new 25, 3, 75, 8, 3, 231, 232, 13), (33, .dup, 1, 0, 0, 0, 0, 0, 0), (34, .invokespecial 27, 3, 16, 1, 3, 233, 0, 0), (37, .putfield 28, 3, 1202, 1, 11, 364, 0, 21), (40, .aload_n 0, 1, 0, 0, 0, 0, 0, 0), (41, .new 32, 3, 76, 2, 0, 267, 268, 10), (44, .dup, 1, 0, 0, 0, 0, 0, 0), (45, .invokespecial 34, 3, 0, 1, 3, 269, 0, 0), (48, .putfield 35, 3, 1203, 1, 11, 365, 0, 21), (51, .aload_n 0, 1, 0, 0, 0, 0, 0, 0), (52, .new 39, 3, 77, 3, 2, 280, 281, 12), (55, .dup, 1, 0, 0, 0, 0, 0, 0), (56, .invokespecial 41, 3, 10, 1, 3, 282, 0, 0), (59, .putfield 42, 3, 1204, 1, 11, 366, 0, 21), (62, .aload_n 0, 1, 0, 0, 0, 0, 0, 0), (63, .new 46, 3, 78, 4, 6, 299, 300, 16), (66, .dup, 1, 0, 0, 0, 0, 0, 0), (67, .invokespecial 48, 3, 40, 1, 3, 301, 0, 0), (70, .putfield 49, 3, 1205, 1, 11, 367, 0, 21), (73, .aload_n 0, 1, 0, 0, 0, 0, 0, 0), (74, .new 53, 3, 80, 2, 5, 344, 345, 15), (77, .dup, 1, 0, 0, 0, 0, 0, 0), (78, .invokespecial 55, 3, 35, 1, 3, 346, 0, 0), (81, .putfield 56, 3, 1206, 1, 11, 368, 0, 21), (84, .aload_n 0, 1, 0, 0, 0, 0, 0, 0), (85, .new 60, 3, 79, 4, 10, 360, 306, 20), (88, .dup, 1, 0, 0, 0, 0, 0, 0), (89, .iconst 2, 1, 0, 0, 0, 0, 0, 0), (90, .sipush 3840, 3, 0, 0, 0, 0, 0, 0), (93, .invokespecial 62, 3, 100, 3, 3, 361, 0, 0), (96, .putfield 65, 3, 1207, 1, 11, 369, 0, 21), (99, .aload_n 0, 1, 0, 0, 0, 0, 0, 0), (100, .new 60, 3, 79, 4, 10, 360, 306, 20), (103, .dup, 1, 0, 0, 0, 0, 0, 0), (104, .iconst 1, 1, 0, 0, 0, 0, 0, 0), (105, .sipush 240, 3, 0, 0, 0, 0, 0, 0), (108, .invokespecial 62, 3, 100, 3, 3, 361, 0, 0), (111, .putfield 69, 3, 1208, 1, 11, 370, 0, 21), (114, .aload_n 0, 1, 0, 0, 0, 0, 0, 0), (115, .new 60, 3, 79, 4, 10, 360, 306, 20), (118, .dup, 1, 0, 0, 0, 0, 0, 0), (119, .iconst 3, 1, 0, 0, 0, 0, 0, 0), (120, .sipush 240, 3, 0, 0, 0, 0, 0, 0), (123, .invokespecial 62, 3, 100, 3, 3, 361, 0, 0), (126, .putfield 72, 3, 1209, 1, 11, 371, 0, 21), (129, .aload_n 0, 1, 0, 0, 0, 0, 0, 0), (130, .new 60, 3, 79, 4, 10, 360, 306, 20), (133, .dup, 1, 0, 0, 0, 0, 0, 0), (134, .iconst 3, 1, 0, 0, 0, 0, 0, 0), (135, .sipush 240, 3, 0, 0, 0, 0, 0, 0), (138, .invokespecial 62, 3, 100, 3, 3, 361, 0, 0), (141, .putfield 75, 3, 1210, 1, 11, 372, 0, 21), (144, .aload_n 0, 1, 0, 0, 0, 0, 0, 0), (145, .new 60, 3, 79, 4, 10, 360, 306, 20), (148, .dup, 1, 0, 0, 0, 0, 0, 0), (149, .iconst 2, 1, 0, 0, 0, 0, 0, 0), (150, .sipush 240, 3, 0, 0, 0, 0, 0, 0), (153, .invokespecial 62, 3, 100, 3, 3, 361, 0, 0), (156, .putfield 78, 3, 1211, 1, 11, 373, 0, 21), (159, .return_, 1, 0, 0, 0, 0, 0, 0)]
set_option maxRecDepth 100000 in
theorem jk_X11_init : ji_X11_init.all (jck 107) = true := by decide +kernel
def ji_X11_text : List JI := [(0, .aload_n 0, 1, 0, 0, 0, 0, 0, 0), (1, .getfield 10, 3, 1200, 1, 11, 362, 0, 21), (4, .invokevirtual 81, 3, 30, 1, 1, 409, 0, 14), (7, .ifnonnull 8, 3, 15, 0, 0, 0, 0, 0), (10, .bipush (-3), 2, 0, 0, 0, 0, 0, 0), (12, .goto 10, 3, 22, 0, 0, 0, 0, 0), (15, .aload_n 0, 1, 0, 0, 0, 0, 0, 0), (16, .getfield 10, 3, 1200, 1, 11, 362, 0, 21), (19, .invokevirtual 85, 3, 29, 1, 0, 421, 0, 14), (22, .ireturn, 1, 0, 0, 0, 0, 0, 0)]
set_option maxRecDepth 100000 in
theorem jk_X11_text : ji_X11_text.all (jck 108) = true := by decide +kernel
def ji_X11_units : List JI := [(0, .aload_n 0, 1, 0, 0, 0, 0, 0, 0), (1, .getfield 10, 3, 1200, 1, 11, 362, 0, 21), (4, .iload_n 1, 1, 0, 0, 0, 0, 0, 0), (5, .invokevirtual 89, 3, 27, 2, 1, 429, 0, 14), (8, .astore 5, 2, 0, 0, 0, 0, 0, 0), (10, .aload 5, 2, 0, 0, 0, 0, 0, 0), (12, .ifnull 13, 3, 25, 0, 0, 0, 0, 0), (15, .iload_n 2, 1, 0, 0, 0, 0, 0, 0), (16, .iconst 1, 1, 0, 0, 0, 0, 0, 0), (17, .if_icmp .lt 8, 3, 25, 0, 0, 0, 0, 0), (20, .iload_n 2, 1, 0, 0, 0, 0, 0, 0), (21, .iconst 4, 1, 0, 0, 0, 0, 0, 0), (22, .if_icmp .le 6, 3, 28, 0, 0, 0, 0, 0), (25, .bipush (-2), 2, 0, 0, 0, 0, 0, 0), (27, .ireturn, 1, 0, 0, 0, 0, 0, 0), (28, .aload 5, 2, 0, 0, 0, 0, 0, 0), (30, .invokevirtual 93, 3, 87, 1, 0, 433, 0, 19), (33, .iload_n 2, 1, 0, 0, 0, 0, 0, 0), (34, .if_icmp .ge 6, 3, 40, 0, 0, 0, 0, 0), (37, .bipush (-3), 2, 0, 0, 0, 0, 0, 0), (39, .ireturn, 1, 0, 0, 0, 0, 0, 0), (40, .aload_n 0, 1, 0, 0, 0, 0, 0, 0), (41, .getfield 10, 3, 1200, 1, 11, 362, 0, 21), (44, .iload_n 1, 1, 0, 0, 0, 0, 0, 0), (45, .invokevirtual 98, 3, 31, 2, 3, 437, 0, 14), (48, .iload_n 2, 1, 0, 0, 0, 0, 0, 0), (49, .iconst 1, 1, 0, 0, 0, 0, 0, 0), (50, .isub, 1, 0, 0, 0, 0, 0, 0), (51, .istore 6, 2, 0, 0, 0, 0, 0, 0), (53, .iload 6, 2, 0, 0, 0, 0, 0, 0), (55, .ifCond .lt 25, 3, 80, 0, 0, 0, 0, 0), (58, .aload 5, 2, 0, 0, 0, 0, 0, 0), (60, .lload_n 3, 1, 0, 0, 0, 0, 0, 0), (61, .bipush 16, 2, 0, 0, 0, 0, 0, 0), (63, .iload 6, 2, 0, 0, 0, 0, 0, 0), (65, .imul, 1, 0, 0, 0, 0, 0, 0), (66, .lushr, 1, 0, 0, 0, 0, 0, 0), (67, .l2i, 1, 0, 0, 0, 0, 0, 0), (68, .ldc 101, 2, 0, 0, 0, 458, 0, 65535), (70, .iand, 1, 0, 0, 0, 0, 0, 0), (71, .invokevirtual 102, 3, 88, 2, 3, 459, 0, 19), (74, .iinc 6 (-1), 3, 0, 0, 0, 0, 0, 0), (77, .goto (-24), 3, 53, 0, 0, 0, 0, 0), (80, .aload 5, 2, 0, 0, 0, 0, 0, 0), (82, .getfield 105, 3, 2901, 0, 9, 125, 0, 19), (85, .ireturn, 1, 0, 0, 0, 0, 0, 0)]
set_option maxRecDepth 100000 in
theorem jk_X11_units : ji_X11_units.all (jck 109) = true := by decide +kernel
def ji_X11_point : List JI := [(0, .aload_n 0, 1, 0, 0, 0, 0, 0, 0), (1, .getfield 10, 3, 1200, 1, 11, 362, 0, 21), (4, .iload_n 1, 1, 0, 0, 0, 0, 0, 0), (5, .invokevirtual 89, 3, 27, 2, 1, 429, 0, 14), (8, .astore_n 3, 1, 0, 0, 0, 0, 0, 0), (9, .aload_n 3, 1, 0, 0, 0, 0, 0, 0), (10, .ifnull 13, 3, 23, 0, 0, 0, 0, 0), (13, .iload_n 2, 1, 0, 0, 0, 0, 0, 0), (14, .ifCond .lt 9, 3, 23, 0, 0, 0, 0, 0), (17, .iload_n 2, 1, 0, 0, 0, 0, 0, 0), (18, .ldc 109, 2, 0, 0, 0, 467, 0, 1114111), (20, .if_icmp .le 6, 3, 26, 0, 0, 0, 0, 0), (23, .bipush (-2), 2, 0, 0, 0, 0, 0, 0), (25, .ireturn, 1, 0, 0, 0, 0, 0, 0), (26, .aload_n 3, 1, 0, 0, 0, 0, 0, 0), (27, .invokevirtual 93, 3, 87, 1, 0, 433, 0, 19), (30, .iload_n 2, 1, 0, 0, 0, 0, 0, 0), (31, .ldc 101, 2, 0, 0, 0, 458, 0, 65535), (33, .if_icmp .le 7, 3, 40, 0, 0, 0, 0, 0), (36, .iconst 2, 1, 0, 0, 0, 0, 0, 0), (37, .goto 4, 3, 41, 0, 0, 0, 0, 0), (40, .iconst 1, 1, 0, 0, 0, 0, 0, 0), (41, .if_icmp .ge 6, 3, 47, 0, 0, 0, 0, 0), (44, .bipush (-3), 2, 0, 0, 0, 0, 0, 0), (46, .ireturn, 1, 0, 0, 0, 0, 0, 0), (47, .aload_n 0, 1, 0, 0, 0, 0, 0, 0), (48, .getfield 10, 3, 1200, 1, 11, 362, 0, 21), (51, .iload_n 1, 1, 0, 0, 0, 0, 0, 0), (52, .invokevirtual 98, 3, 31, 2, 3, 437, 0, 14), (55, .aload_n 3, 1, 0, 0, 0, 0, 0, 0), (56, .iload_n 2, 1, 0, 0, 0, 0, 0, 0), (57, .invokevirtual 110, 3, 89, 2, 3, 468, 0, 19), (60, .aload_n 3, 1, 0, 0, 0, 0, 0, 0), (61, .getfield 105, 3, 2901, 0, 9, 125, 0, 19), (64, .ireturn, 1, 0, 0, 0, 0, 0, 0)]
set_option maxRecDepth 100000 in
theorem jk_X11_point : ji_X11_point.all (jck 110) = true := by decide +kernel
def ji_X11_copy : List JI := [(0, .aload_n 0, 1, 0, 0, 0, 0, 0, 0), (1, .getfield 10, 3, 1200, 1, 11, 362, 0, 21), (4, .iload_n 1, 1, 0, 0, 0, 0, 0, 0), (5, .invokevirtual 89, 3, 27, 2, 1, 429, 0, 14), (8, .astore 4, 2, 0, 0, 0, 0, 0, 0), (10, .aload 4, 2, 0, 0, 0, 0, 0, 0), (12, .ifnull 13, 3, 25, 0, 0, 0, 0, 0), (15, .aload 4, 2, 0, 0, 0, 0, 0, 0), (17, .iload_n 2, 1, 0, 0, 0, 0, 0, 0), (18, .iload_n 3, 1, 0, 0, 0, 0, 0, 0), (19, .invokevirtual 113, 3, 85, 3, 0, 481, 0, 19), (22, .ifCond .ne 6, 3, 28, 0, 0, 0, 0, 0), (25, .bipush (-2), 2, 0, 0, 0, 0, 0, 0), (27, .ireturn, 1, 0, 0, 0, 0, 0, 0), (28, .aload_n 0, 1, 0, 0, 0, 0, 0, 0), (29, .aload 4, 2, 0, 0, 0, 0, 0, 0), (31, .iload_n 2, 1, 0, 0, 0, 0, 0, 0), (32, .iload_n 3, 1, 0, 0, 0, 0, 0, 0), (33, .invokevirtual 117, 3, 166, 4, 0, 482, 0, 21), (36, .ireturn, 1, 0, 0, 0, 0, 0, 0)]
set_option maxRecDepth 100000 in
theorem jk_X11_copy : ji_X11_copy.all (jck 111) = true := by decide +kernel
def ji_X11_append : List JI := [(0, .aload_n 0, 1, 0, 0, 0, 0, 0, 0), (1, .getfield 10, 3, 1200, 1, 11, 362, 0, 21), (4, .iload_n 1, 1, 0, 0, 0, 0, 0, 0), (5, .invokevirtual 89, 3, 27, 2, 1, 429, 0, 14), (8, .astore 5, 2, 0, 0, 0, 0, 0, 0), (10, .aload_n 0, 1, 0, 0, 0, 0, 0, 0), (11, .getfield 10, 3, 1200, 1, 11, 362, 0, 21), (14, .iload_n 2, 1, 0, 0, 0, 0, 0, 0), (15, .invokevirtual 89, 3, 27, 2, 1, 429, 0, 14), (18, .astore 6, 2, 0, 0, 0, 0, 0, 0), (20, .aload 5, 2, 0, 0, 0, 0, 0, 0), (22, .ifnull 19, 3, 41, 0, 0, 0, 0, 0), (25, .aload 6, 2, 0, 0, 0, 0, 0, 0), (27, .ifnull 14, 3, 41, 0, 0, 0, 0, 0), (30, .aload 6, 2, 0, 0, 0, 0, 0, 0), (32, .iload_n 3, 1, 0, 0, 0, 0, 0, 0), (33, .iload 4, 2, 0, 0, 0, 0, 0, 0), (35, .invokevirtual 113, 3, 85, 3, 0, 481, 0, 19), (38, .ifCond .ne 6, 3, 44, 0, 0, 0, 0, 0), (41, .bipush (-2), 2, 0, 0, 0, 0, 0, 0), (43, .ireturn, 1, 0, 0, 0, 0, 0, 0), (44, .aload 5, 2, 0, 0, 0, 0, 0, 0), (46, .invokevirtual 93, 3, 87, 1, 0, 433, 0, 19), (49, .iload 4, 2, 0, 0, 0, 0, 0, 0), (51, .iload_n 3, 1, 0, 0, 0, 0, 0, 0), (52, .isub, 1, 0, 0, 0, 0, 0, 0), (53, .if_icmp .ge 6, 3, 59, 0, 0, 0, 0, 0), (56, .bipush (-3), 2, 0, 0, 0, 0, 0, 0), (58, .ireturn, 1, 0, 0, 0, 0, 0, 0), (59, .aload_n 0, 1, 0, 0, 0, 0, 0, 0), (60, .getfield 10, 3, 1200, 1, 11, 362, 0, 21), (63, .iload_n 1, 1, 0, 0, 0, 0, 0, 0), (64, .invokevirtual 98, 3, 31, 2, 3, 437, 0, 14), (67, .aload 5, 2, 0, 0, 0, 0, 0, 0), (69, .aload 6, 2, 0, 0, 0, 0, 0, 0), (71, .iload_n 3, 1, 0, 0, 0, 0, 0, 0), (72, .iload 4, 2, 0, 0, 0, 0, 0, 0), (74, .invokevirtual 121, 3, 90, 4, 3, 486, 0, 19), (77, .aload 5, 2, 0, 0, 0, 0, 0, 0), (79, .getfield 105, 3, 2901, 0, 9, 125, 0, 19), (82, .ireturn, 1, 0, 0, 0, 0, 0, 0)]
set_option maxRecDepth 100000 in
theorem jk_X11_append : ji_X11_append.all (jck 112) = true := by decide +kernel
def ji_X11_reversed : List JI := [(0, .aload_n 0, 1, 0, 0, 0, 0, 0, 0), (1, .getfield 10, 3, 1200, 1, 11, 362, 0, 21), (4, .iload_n 1, 1, 0, 0, 0, 0, 0, 0), (5, .invokevirtual 89, 3, 27, 2, 1, 429, 0, 14), (8, .astore_n 2, 1, 0, 0, 0, 0, 0, 0), (9, .aload_n 2, 1, 0, 0, 0, 0, 0, 0), (10, .ifnonnull 6, 3, 16, 0, 0, 0, 0, 0), (13, .bipush (-2), 2, 0, 0, 0, 0, 0, 0), (15, .ireturn, 1, 0, 0, 0, 0, 0, 0), (16, .aload_n 0, 1, 0, 0, 0, 0, 0, 0), (17, .getfield 10, 3, 1200, 1, 11, 362, 0, 21), (20, .invokevirtual 81, 3, 30, 1, 1, 409, 0, 14), (23, .astore_n 3, 1, 0, 0, 0, 0, 0, 0), (24, .aload_n 3, 1, 0, 0, 0, 0, 0, 0), (25, .ifnonnull 6, 3, 31, 0, 0, 0, 0, 0), (28, .bipush (-3), 2, 0, 0, 0, 0, 0, 0), (30, .ireturn, 1, 0, 0, 0, 0, 0, 0), (31, .aload_n 2, 1, 0, 0, 0, 0, 0, 0), (32, .getfield 105, 3, 2901, 0, 9, 125, 0, 19), (35, .iconst 1, 1, 0, 0, 0, 0, 0, 0), (36, .isub, 1, 0, 0, 0, 0, 0, 0), (37, .istore 4, 2, 0, 0, 0, 0, 0, 0), (39, .iload 4, 2, 0, 0, 0, 0, 0, 0), (41, .ifCond .lt 20, 3, 61, 0, 0, 0, 0, 0), (44, .aload_n 3, 1, 0, 0, 0, 0, 0, 0), (45, .aload_n 2, 1, 0, 0, 0, 0, 0, 0), (46, .getfield 125, 3, 1000, 1, 9, 117, 0, 19), (49, .iload 4, 2, 0, 0, 0, 0, 0, 0), (51, .iaload, 1, 0, 0, 0, 0, 0, 0), (52, .invokevirtual 102, 3, 88, 2, 3, 459, 0, 19), (55, .iinc 4 (-1), 3, 0, 0, 0, 0, 0, 0), (58, .goto (-19), 3, 39, 0, 0, 0, 0, 0), (61, .aload_n 0, 1, 0, 0, 0, 0, 0, 0), (62, .getfield 10, 3, 1200, 1, 11, 362, 0, 21), (65, .invokevirtual 85, 3, 29, 1, 0, 421, 0, 14), (68, .ireturn, 1, 0, 0, 0, 0, 0, 0)]
set_option maxRecDepth 100000 in
theorem jk_X11_reversed : ji_X11_reversed.all (jck 113) = true := by decide +kernel
def ji_X11_insert : List JI := [(0, .aload_n 0, 1, 0, 0, 0, 0, 0, 0), (1, .getfield 10, 3, 1200, 1, 11, 362, 0, 21), (4, .iload_n 1, 1, 0, 0, 0, 0, 0, 0), (5, .invokevirtual 89, 3, 27, 2, 1, 429, 0, 14), (8, .astore 4, 2, 0, 0, 0, 0, 0, 0), (10, .aload 4, 2, 0, 0, 0, 0, 0, 0), (12, .ifnull 23, 3, 35, 0, 0, 0, 0, 0), (15, .iload_n 2, 1, 0, 0, 0, 0, 0, 0), (16, .ifCond .lt 19, 3, 35, 0, 0, 0, 0, 0), (19, .iload_n 2, 1, 0, 0, 0, 0, 0, 0), (20, .aload 4, 2, 0, 0, 0, 0, 0, 0), (22, .getfield 105, 3, 2901, 0, 9, 125, 0, 19), (25, .if_icmp .gt 10, 3, 35, 0, 0, 0, 0, 0), (28, .iload_n 3, 1, 0, 0, 0, 0, 0, 0), (29, .invokestatic 129, 3, 165, 1, 0, 499, 0, 0), (32, .ifCond .ne 6, 3, 38, 0, 0, 0, 0, 0), (35, .bipush (-2), 2, 0, 0, 0, 0, 0, 0), (37, .ireturn, 1, 0, 0, 0, 0, 0, 0), (38, .aload 4, 2, 0, 0, 0, 0, 0, 0), (40, .invokevirtual 93, 3, 87, 1, 0, 433, 0, 19), (43, .iconst 1, 1, 0, 0, 0, 0, 0, 0), (44, .if_icmp .ge 6, 3, 50, 0, 0, 0, 0, 0), (47, .bipush (-3), 2, 0, 0, 0, 0, 0, 0), (49, .ireturn, 1, 0, 0, 0, 0, 0, 0), (50, .aload_n 0, 1, 0, 0, 0, 0, 0, 0), (51, .getfield 10, 3, 1200, 1, 11, 362, 0, 21), (54, .iload_n 1, 1, 0, 0, 0, 0, 0, 0), (55, .invokevirtual 98, 3, 31, 2, 3, 437, 0, 14), (58, .aload 4, 2, 0, 0, 0, 0, 0, 0), (60, .iload_n 2, 1, 0, 0, 0, 0, 0, 0), (61, .iload_n 3, 1, 0, 0, 0, 0, 0, 0), (62, .invokevirtual 133, 3, 91, 3, 3, 502, 0, 19), (65, .aload 4, 2, 0, 0, 0, 0, 0, 0), (67, .getfield 105, 3, 2901, 0, 9, 125, 0, 19), (70, .ireturn, 1, 0, 0, 0, 0, 0, 0)]
set_option maxRecDepth 100000 in
theorem jk_X11_insert : ji_X11_insert.all (jck 114) = true := by decide +kernel
def ji_X11_remove : List JI := [(0, .aload_n 0, 1, 0, 0, 0, 0, 0, 0), (1, .getfield 10, 3, 1200, 1, 11, 362, 0, 21), (4, .iload_n 1, 1, 0, 0, 0, 0, 0, 0), (5, .invokevirtual 89, 3, 27, 2, 1, 429, 0, 14), (8, .astore 4, 2, 0, 0, 0, 0, 0, 0), (10, .aload 4, 2, 0, 0, 0, 0, 0, 0), (12, .ifnull 13, 3, 25, 0, 0, 0, 0, 0), (15, .aload 4, 2, 0, 0, 0, 0, 0, 0), (17, .iload_n 2, 1, 0, 0, 0, 0, 0, 0), (18, .iload_n 3, 1, 0, 0, 0, 0, 0, 0), (19, .invokevirtual 136, 3, 86, 3, 0, 510, 0, 19), (22, .ifCond .ne 6, 3, 28, 0, 0, 0, 0, 0), (25, .bipush (-2), 2, 0, 0, 0, 0, 0, 0), (27, .ireturn, 1, 0, 0, 0, 0, 0, 0), (28, .aload_n 0, 1, 0, 0, 0, 0, 0, 0), (29, .getfield 10, 3, 1200, 1, 11, 362, 0, 21), (32, .iload_n 1, 1, 0, 0, 0, 0, 0, 0), (33, .invokevirtual 98, 3, 31, 2, 3, 437, 0, 14), (36, .aload 4, 2, 0, 0, 0, 0, 0, 0), (38, .iload_n 2, 1, 0, 0, 0, 0, 0, 0), (39, .iload_n 3, 1, 0, 0, 0, 0, 0, 0), (40, .invokevirtual 139, 3, 92, 3, 3, 514, 0, 19), (43, .aload 4, 2, 0, 0, 0, 0, 0, 0), (45, .getfield 105, 3, 2901, 0, 9, 125, 0, 19), (48, .ireturn, 1, 0, 0, 0, 0, 0, 0)]
set_option maxRecDepth 100000 in
theorem jk_X11_remove : ji_X11_remove.all (jck 115) = true := by decide +kernel
def ji_X11_undo : List JI := [(0, .aload_n 0, 1, 0, 0, 0, 0, 0, 0), (1, .getfield 10, 3, 1200, 1, 11, 362, 0, 21), (4, .invokevirtual 142, 3, 33, 1, 0, 523, 0, 14), (7, .ifCond .eq 7, 3, 14, 0, 0, 0, 0, 0), (10, .iconst 1, 1, 0, 0, 0, 0, 0, 0), (11, .goto 5, 3, 16, 0, 0, 0, 0, 0), (14, .bipush (-4), 2, 0, 0, 0, 0, 0, 0), (16, .ireturn, 1, 0, 0, 0, 0, 0, 0)]
set_option maxRecDepth 100000 in
theorem jk_X11_undo : ji_X11_undo.all (jck 116) = true := by decide +kernel
def ji_X11_at : List JI := [(0, .aload_n 0, 1, 0, 0, 0, 0, 0, 0), (1, .getfield 10, 3, 1200, 1, 11, 362, 0, 21), (4, .iload_n 1, 1, 0, 0, 0, 0, 0, 0), (5, .invokevirtual 89, 3, 27, 2, 1, 429, 0, 14), (8, .astore_n 3, 1, 0, 0, 0, 0, 0, 0), (9, .aload_n 3, 1, 0, 0, 0, 0, 0, 0), (10, .ifnull 11, 3, 21, 0, 0, 0, 0, 0), (13, .aload_n 3, 1, 0, 0, 0, 0, 0, 0), (14, .iload_n 2, 1, 0, 0, 0, 0, 0, 0), (15, .invokevirtual 146, 3, 84, 2, 0, 531, 0, 19), (18, .ifCond .ne 6, 3, 24, 0, 0, 0, 0, 0), (21, .bipush (-2), 2, 0, 0, 0, 0, 0, 0), (23, .ireturn, 1, 0, 0, 0, 0, 0, 0), (24, .aload_n 3, 1, 0, 0, 0, 0, 0, 0), (25, .getfield 125, 3, 1000, 1, 9, 117, 0, 19), (28, .iload_n 2, 1, 0, 0, 0, 0, 0, 0), (29, .iaload, 1, 0, 0, 0, 0, 0, 0), (30, .ireturn, 1, 0, 0, 0, 0, 0, 0)]
set_option maxRecDepth 100000 in
theorem jk_X11_at : ji_X11_at.all (jck 117) = true := by decide +kernel
def ji_X11_length : List JI := [(0, .aload_n 0, 1, 0, 0, 0, 0, 0, 0), (1, .getfield 10, 3, 1200, 1, 11, 362, 0, 21), (4, .iload_n 1, 1, 0, 0, 0, 0, 0, 0), (5, .invokevirtual 89, 3, 27, 2, 1, 429, 0, 14), (8, .astore_n 2, 1, 0, 0, 0, 0, 0, 0), (9, .aload_n 2, 1, 0, 0, 0, 0, 0, 0), (10, .ifnonnull 8, 3, 18, 0, 0, 0, 0, 0), (13, .bipush (-2), 2, 0, 0, 0, 0, 0, 0), (15, .goto 7, 3, 22, 0, 0, 0, 0, 0), (18, .aload_n 2, 1, 0, 0, 0, 0, 0, 0), (19, .getfield 105, 3, 2901, 0, 9, 125, 0, 19), (22, .ireturn, 1, 0, 0, 0, 0, 0, 0)]
set_option maxRecDepth 100000 in
theorem jk_X11_length : ji_X11_length.all (jck 118) = true := by decide +kernel
end
section
/-! instructions, by wip/whole/gen4.py -/
def ji_X11_points : List JI := [(0, .aload_n 0, 1, 0, 0, 0, 0, 0, 0), (1, .getfield 10, 3, 1200, 1, 11, 362, 0, 21), (4, .iload_n 1, 1, 0, 0, 0, 0, 0, 0), (5, .invokevirtual 89, 3, 27, 2, 1, 429, 0, 14), (8, .astore_n 2, 1, 0, 0, 0, 0, 0, 0), (9, .aload_n 2, 1, 0, 0, 0, 0, 0, 0), (10, .ifnonnull 6, 3, 16, 0, 0, 0, 0, 0), (13, .bipush (-2), 2, 0, 0, 0, 0, 0, 0), (15, .ireturn, 1, 0, 0, 0, 0, 0, 0), (16, .iconst 0, 1, 0, 0, 0, 0, 0, 0), (17, .istore_n 3, 1, 0, 0, 0, 0, 0, 0), (18, .iconst 0, 1, 0, 0, 0, 0, 0, 0), (19, .istore 4, 2, 0, 0, 0, 0, 0, 0), (21, .iload 4, 2, 0, 0, 0, 0, 0, 0), (23, .aload_n 2, 1, 0, 0, 0, 0, 0, 0), (24, .getfield 105, 3, 2901, 0, 9, 125, 0, 19), (27, .if_icmp .ge 24, 3, 51, 0, 0, 0, 0, 0), (30, .iinc 3 1, 3, 0, 0, 0, 0, 0, 0), (33, .aload_n 2, 1, 0, 0, 0, 0, 0, 0), (34, .iload 4, 2, 0, 0, 0, 0, 0, 0), (36, .invokevirtual 149, 3, 94, 2, 0, 543, 0, 19), (39, .ifCond .eq 6, 3, 45, 0, 0, 0, 0, 0), (42, .iinc 4 1, 3, 0, 0, 0, 0, 0, 0), (45, .iinc 4 1, 3, 0, 0, 0, 0, 0, 0), (48, .goto (-27), 3, 21, 0, 0, 0, 0, 0), (51, .iload_n 3, 1, 0, 0, 0, 0, 0, 0), (52, .ireturn, 1, 0, 0, 0, 0, 0, 0)]
set_option maxRecDepth 100000 in
theorem jk_X11_points : ji_X11_points.all (jck 119) = true := by decide +kernel
def ji_X11_pointAt : List JI := [(0, .aload_n 0, 1, 0, 0, 0, 0, 0, 0), (1, .getfield 10, 3, 1200, 1, 11, 362, 0, 21), (4, .iload_n 1, 1, 0, 0, 0, 0, 0, 0), (5, .invokevirtual 89, 3, 27, 2, 1, 429, 0, 14), (8, .astore_n 3, 1, 0, 0, 0, 0, 0, 0), (9, .aload_n 3, 1, 0, 0, 0, 0, 0, 0), (10, .ifnonnull 6, 3, 16, 0, 0, 0, 0, 0), (13, .bipush (-2), 2, 0, 0, 0, 0, 0, 0), (15, .ireturn, 1, 0, 0, 0, 0, 0, 0), (16, .iconst 0, 1, 0, 0, 0, 0, 0, 0), (17, .istore 4, 2, 0, 0, 0, 0, 0, 0), (19, .iconst 0, 1, 0, 0, 0, 0, 0, 0), (20, .istore 5, 2, 0, 0, 0, 0, 0, 0), (22, .iload 5, 2, 0, 0, 0, 0, 0, 0), (24, .aload_n 3, 1, 0, 0, 0, 0, 0, 0), (25, .getfield 105, 3, 2901, 0, 9, 125, 0, 19), (28, .if_icmp .ge 37, 3, 65, 0, 0, 0, 0, 0), (31, .iload 4, 2, 0, 0, 0, 0, 0, 0), (33, .iload_n 2, 1, 0, 0, 0, 0, 0, 0), (34, .if_icmp .ne 10, 3, 44, 0, 0, 0, 0, 0), (37, .aload_n 3, 1, 0, 0, 0, 0, 0, 0), (38, .iload 5, 2, 0, 0, 0, 0, 0, 0), (40, .invokevirtual 152, 3, 95, 2, 0, 553, 0, 19), (43, .ireturn, 1, 0, 0, 0, 0, 0, 0), (44, .iinc 4 1, 3, 0, 0, 0, 0, 0, 0), (47, .aload_n 3, 1, 0, 0, 0, 0, 0, 0), (48, .iload 5, 2, 0, 0, 0, 0, 0, 0), (50, .invokevirtual 149, 3, 94, 2, 0, 543, 0, 19), (53, .ifCond .eq 6, 3, 59, 0, 0, 0, 0, 0), (56, .iinc 5 1, 3, 0, 0, 0, 0, 0, 0), (59, .iinc 5 1, 3, 0, 0, 0, 0, 0, 0), (62, .goto (-40), 3, 22, 0, 0, 0, 0, 0), (65, .iconst (-1), 1, 0, 0, 0, 0, 0, 0), (66, .ireturn, 1, 0, 0, 0, 0, 0, 0)]
set_option maxRecDepth 100000 in
theorem jk_X11_pointAt : ji_X11_pointAt.all (jck 120) = true := by decide +kernel
def ji_X11_half : List JI := [(0, .aload_n 0, 1, 0, 0, 0, 0, 0, 0), (1, .getfield 10, 3, 1200, 1, 11, 362, 0, 21), (4, .iload_n 1, 1, 0, 0, 0, 0, 0, 0), (5, .invokevirtual 89, 3, 27, 2, 1, 429, 0, 14), (8, .astore_n 3, 1, 0, 0, 0, 0, 0, 0), (9, .aload_n 3, 1, 0, 0, 0, 0, 0, 0), (10, .ifnonnull 6, 3, 16, 0, 0, 0, 0, 0), (13, .bipush (-2), 2, 0, 0, 0, 0, 0, 0), (15, .ireturn, 1, 0, 0, 0, 0, 0, 0), (16, .iconst 0, 1, 0, 0, 0, 0, 0, 0), (17, .istore 4, 2, 0, 0, 0, 0, 0, 0), (19, .iconst 0, 1, 0, 0, 0, 0, 0, 0), (20, .istore 5, 2, 0, 0, 0, 0, 0, 0), (22, .iload 5, 2, 0, 0, 0, 0, 0, 0), (24, .aload_n 3, 1, 0, 0, 0, 0, 0, 0), (25, .getfield 105, 3, 2901, 0, 9, 125, 0, 19), (28, .if_icmp .ge 45, 3, 73, 0, 0, 0, 0, 0), (31, .aload_n 3, 1, 0, 0, 0, 0, 0, 0), (32, .iload 5, 2, 0, 0, 0, 0, 0, 0), (34, .invokevirtual 149, 3, 94, 2, 0, 543, 0, 19), (37, .ifCond .eq 9, 3, 46, 0, 0, 0, 0, 0), (40, .iinc 5 1, 3, 0, 0, 0, 0, 0, 0), (43, .goto 24, 3, 67, 0, 0, 0, 0, 0), (46, .aload_n 3, 1, 0, 0, 0, 0, 0, 0), (47, .iload 5, 2, 0, 0, 0, 0, 0, 0), (49, .invokevirtual 156, 3, 96, 2, 0, 563, 0, 19), (52, .ifCond .eq 15, 3, 67, 0, 0, 0, 0, 0), (55, .iload 4, 2, 0, 0, 0, 0, 0, 0), (57, .iload_n 2, 1, 0, 0, 0, 0, 0, 0), (58, .if_icmp .ne 6, 3, 64, 0, 0, 0, 0, 0), (61, .iload 5, 2, 0, 0, 0, 0, 0, 0), (63, .ireturn, 1, 0, 0, 0, 0, 0, 0), (64, .iinc 4 1, 3, 0, 0, 0, 0, 0, 0), (67, .iinc 5 1, 3, 0, 0, 0, 0, 0, 0), (70, .goto (-48), 3, 22, 0, 0, 0, 0, 0), (73, .iconst (-1), 1, 0, 0, 0, 0, 0, 0), (74, .ireturn, 1, 0, 0, 0, 0, 0, 0)]
set_option maxRecDepth 100000 in
theorem jk_X11_half : ji_X11_half.all (jck 121) = true := by decide +kernel
def ji_X11_order : List JI := [(0, .aload_n 0, 1, 0, 0, 0, 0, 0, 0), (1, .getfield 10, 3, 1200, 1, 11, 362, 0, 21), (4, .iload_n 1, 1, 0, 0, 0, 0, 0, 0), (5, .invokevirtual 89, 3, 27, 2, 1, 429, 0, 14), (8, .astore 4, 2, 0, 0, 0, 0, 0, 0), (10, .aload_n 0, 1, 0, 0, 0, 0, 0, 0), (11, .getfield 10, 3, 1200, 1, 11, 362, 0, 21), (14, .iload_n 2, 1, 0, 0, 0, 0, 0, 0), (15, .invokevirtual 89, 3, 27, 2, 1, 429, 0, 14), (18, .astore 5, 2, 0, 0, 0, 0, 0, 0), (20, .aload 4, 2, 0, 0, 0, 0, 0, 0), (22, .ifnull 8, 3, 30, 0, 0, 0, 0, 0), (25, .aload 5, 2, 0, 0, 0, 0, 0, 0), (27, .ifnonnull 6, 3, 33, 0, 0, 0, 0, 0), (30, .bipush (-2), 2, 0, 0, 0, 0, 0, 0), (32, .ireturn, 1, 0, 0, 0, 0, 0, 0), (33, .iload_n 3, 1, 0, 0, 0, 0, 0, 0), (34, .ifCond .eq 13, 3, 47, 0, 0, 0, 0, 0), (37, .aload 4, 2, 0, 0, 0, 0, 0, 0), (39, .aload 5, 2, 0, 0, 0, 0, 0, 0), (41, .invokevirtual 159, 3, 98, 2, 0, 571, 0, 19), (44, .goto 10, 3, 54, 0, 0, 0, 0, 0), (47, .aload 4, 2, 0, 0, 0, 0, 0, 0), (49, .aload 5, 2, 0, 0, 0, 0, 0, 0), (51, .invokevirtual 163, 3, 97, 2, 0, 580, 0, 19), (54, .ireturn, 1, 0, 0, 0, 0, 0, 0)]
set_option maxRecDepth 100000 in
theorem jk_X11_order : ji_X11_order.all (jck 122) = true := by decide +kernel
def ji_X11_equalParts : List JI := [(0, .aload_n 0, 1, 0, 0, 0, 0, 0, 0), (1, .getfield 10, 3, 1200, 1, 11, 362, 0, 21), (4, .iload_n 1, 1, 0, 0, 0, 0, 0, 0), (5, .invokevirtual 89, 3, 27, 2, 1, 429, 0, 14), (8, .astore 6, 2, 0, 0, 0, 0, 0, 0), (10, .aload_n 0, 1, 0, 0, 0, 0, 0, 0), (11, .getfield 10, 3, 1200, 1, 11, 362, 0, 21), (14, .iload_n 3, 1, 0, 0, 0, 0, 0, 0), (15, .invokevirtual 89, 3, 27, 2, 1, 429, 0, 14), (18, .astore 7, 2, 0, 0, 0, 0, 0, 0), (20, .aload 6, 2, 0, 0, 0, 0, 0, 0), (22, .ifnull 31, 3, 53, 0, 0, 0, 0, 0), (25, .aload 7, 2, 0, 0, 0, 0, 0, 0), (27, .ifnull 26, 3, 53, 0, 0, 0, 0, 0), (30, .aload 6, 2, 0, 0, 0, 0, 0, 0), (32, .iload_n 2, 1, 0, 0, 0, 0, 0, 0), (33, .iload 5, 2, 0, 0, 0, 0, 0, 0), (35, .invokevirtual 136, 3, 86, 3, 0, 510, 0, 19), (38, .ifCond .eq 15, 3, 53, 0, 0, 0, 0, 0), (41, .aload 7, 2, 0, 0, 0, 0, 0, 0), (43, .iload 4, 2, 0, 0, 0, 0, 0, 0), (45, .iload 5, 2, 0, 0, 0, 0, 0, 0), (47, .invokevirtual 136, 3, 86, 3, 0, 510, 0, 19), (50, .ifCond .ne 6, 3, 56, 0, 0, 0, 0, 0), (53, .bipush (-2), 2, 0, 0, 0, 0, 0, 0), (55, .ireturn, 1, 0, 0, 0, 0, 0, 0), (56, .iconst 0, 1, 0, 0, 0, 0, 0, 0), (57, .istore 8, 2, 0, 0, 0, 0, 0, 0), (59, .iload 8, 2, 0, 0, 0, 0, 0, 0), (61, .iload 5, 2, 0, 0, 0, 0, 0, 0), (63, .if_icmp .ge 35, 3, 98, 0, 0, 0, 0, 0), (66, .aload 6, 2, 0, 0, 0, 0, 0, 0), (68, .getfield 125, 3, 1000, 1, 9, 117, 0, 19), (71, .iload_n 2, 1, 0, 0, 0, 0, 0, 0), (72, .iload 8, 2, 0, 0, 0, 0, 0, 0), (74, .iadd, 1, 0, 0, 0, 0, 0, 0), (75, .iaload, 1, 0, 0, 0, 0, 0, 0), (76, .aload 7, 2, 0, 0, 0, 0, 0, 0), (78, .getfield 125, 3, 1000, 1, 9, 117, 0, 19), (81, .iload 4, 2, 0, 0, 0, 0, 0, 0), (83, .iload 8, 2, 0, 0, 0, 0, 0, 0), (85, .iadd, 1, 0, 0, 0, 0, 0, 0), (86, .iaload, 1, 0, 0, 0, 0, 0, 0), (87, .if_icmp .eq 5, 3, 92, 0, 0, 0, 0, 0), (90, .iconst 0, 1, 0, 0, 0, 0, 0, 0), (91, .ireturn, 1, 0, 0, 0, 0, 0, 0), (92, .iinc 8 1, 3, 0, 0, 0, 0, 0, 0), (95, .goto (-36), 3, 59, 0, 0, 0, 0, 0), (98, .iconst 1, 1, 0, 0, 0, 0, 0, 0), (99, .ireturn, 1, 0, 0, 0, 0, 0, 0)]
set_option maxRecDepth 100000 in
theorem jk_X11_equalParts : ji_X11_equalParts.all (jck 123) = true := by decide +kernel
def ji_X11_suffix : List JI := [(0, .aload_n 0, 1, 0, 0, 0, 0, 0, 0), (1, .getfield 10, 3, 1200, 1, 11, 362, 0, 21), (4, .iload_n 1, 1, 0, 0, 0, 0, 0, 0), (5, .invokevirtual 89, 3, 27, 2, 1, 429, 0, 14), (8, .ifnonnull 6, 3, 14, 0, 0, 0, 0, 0), (11, .bipush (-2), 2, 0, 0, 0, 0, 0, 0), (13, .ireturn, 1, 0, 0, 0, 0, 0, 0), (14, .aload_n 0, 1, 0, 0, 0, 0, 0, 0), (15, .iload_n 1, 1, 0, 0, 0, 0, 0, 0), (16, .invokevirtual 166, 3, 167, 2, 1, 592, 0, 21), (19, .iload_n 2, 1, 0, 0, 0, 0, 0, 0), (20, .invokevirtual 170, 3, 69, 2, 0, 642, 0, 18), (23, .ireturn, 1, 0, 0, 0, 0, 0, 0)]
set_option maxRecDepth 100000 in
theorem jk_X11_suffix : ji_X11_suffix.all (jck 124) = true := by decide +kernel
def ji_X11_rank : List JI := [(0, .aload_n 0, 1, 0, 0, 0, 0, 0, 0), (1, .getfield 10, 3, 1200, 1, 11, 362, 0, 21), (4, .iload_n 1, 1, 0, 0, 0, 0, 0, 0), (5, .invokevirtual 89, 3, 27, 2, 1, 429, 0, 14), (8, .astore_n 3, 1, 0, 0, 0, 0, 0, 0), (9, .aload_n 3, 1, 0, 0, 0, 0, 0, 0), (10, .ifnull 11, 3, 21, 0, 0, 0, 0, 0), (13, .aload_n 3, 1, 0, 0, 0, 0, 0, 0), (14, .iload_n 2, 1, 0, 0, 0, 0, 0, 0), (15, .invokevirtual 146, 3, 84, 2, 0, 531, 0, 19), (18, .ifCond .ne 6, 3, 24, 0, 0, 0, 0, 0), (21, .bipush (-2), 2, 0, 0, 0, 0, 0, 0), (23, .ireturn, 1, 0, 0, 0, 0, 0, 0), (24, .aload_n 0, 1, 0, 0, 0, 0, 0, 0), (25, .iload_n 1, 1, 0, 0, 0, 0, 0, 0), (26, .invokevirtual 166, 3, 167, 2, 1, 592, 0, 21), (29, .iload_n 2, 1, 0, 0, 0, 0, 0, 0), (30, .invokevirtual 173, 3, 70, 2, 0, 650, 0, 18), (33, .ireturn, 1, 0, 0, 0, 0, 0, 0)]
set_option maxRecDepth 100000 in
theorem jk_X11_rank : ji_X11_rank.all (jck 125) = true := by decide +kernel
def ji_X11_common : List JI := [(0, .aload_n 0, 1, 0, 0, 0, 0, 0, 0), (1, .getfield 10, 3, 1200, 1, 11, 362, 0, 21), (4, .iload_n 1, 1, 0, 0, 0, 0, 0, 0), (5, .invokevirtual 89, 3, 27, 2, 1, 429, 0, 14), (8, .astore 4, 2, 0, 0, 0, 0, 0, 0), (10, .aload 4, 2, 0, 0, 0, 0, 0, 0), (12, .ifnull 21, 3, 33, 0, 0, 0, 0, 0), (15, .aload 4, 2, 0, 0, 0, 0, 0, 0), (17, .iload_n 2, 1, 0, 0, 0, 0, 0, 0), (18, .invokevirtual 146, 3, 84, 2, 0, 531, 0, 19), (21, .ifCond .eq 12, 3, 33, 0, 0, 0, 0, 0), (24, .aload 4, 2, 0, 0, 0, 0, 0, 0), (26, .iload_n 3, 1, 0, 0, 0, 0, 0, 0), (27, .invokevirtual 146, 3, 84, 2, 0, 531, 0, 19), (30, .ifCond .ne 6, 3, 36, 0, 0, 0, 0, 0), (33, .bipush (-2), 2, 0, 0, 0, 0, 0, 0), (35, .ireturn, 1, 0, 0, 0, 0, 0, 0), (36, .iconst 0, 1, 0, 0, 0, 0, 0, 0), (37, .istore 5, 2, 0, 0, 0, 0, 0, 0), (39, .iconst 0, 1, 0, 0, 0, 0, 0, 0), (40, .istore 6, 2, 0, 0, 0, 0, 0, 0), (42, .iload_n 2, 1, 0, 0, 0, 0, 0, 0), (43, .iload 6, 2, 0, 0, 0, 0, 0, 0), (45, .iadd, 1, 0, 0, 0, 0, 0, 0), (46, .aload 4, 2, 0, 0, 0, 0, 0, 0), (48, .getfield 105, 3, 2901, 0, 9, 125, 0, 19), (51, .if_icmp .ge 50, 3, 101, 0, 0, 0, 0, 0), (54, .iload_n 3, 1, 0, 0, 0, 0, 0, 0), (55, .iload 6, 2, 0, 0, 0, 0, 0, 0), (57, .iadd, 1, 0, 0, 0, 0, 0, 0), (58, .aload 4, 2, 0, 0, 0, 0, 0, 0), (60, .getfield 105, 3, 2901, 0, 9, 125, 0, 19), (63, .if_icmp .ge 38, 3, 101, 0, 0, 0, 0, 0), (66, .aload 4, 2, 0, 0, 0, 0, 0, 0), (68, .getfield 125, 3, 1000, 1, 9, 117, 0, 19), (71, .iload_n 2, 1, 0, 0, 0, 0, 0, 0), (72, .iload 6, 2, 0, 0, 0, 0, 0, 0), (74, .iadd, 1, 0, 0, 0, 0, 0, 0), (75, .iaload, 1, 0, 0, 0, 0, 0, 0), (76, .aload 4, 2, 0, 0, 0, 0, 0, 0), (78, .getfield 125, 3, 1000, 1, 9, 117, 0, 19), (81, .iload_n 3, 1, 0, 0, 0, 0, 0, 0), (82, .iload 6, 2, 0, 0, 0, 0, 0, 0), (84, .iadd, 1, 0, 0, 0, 0, 0, 0), (85, .iaload, 1, 0, 0, 0, 0, 0, 0), (86, .if_icmp .eq 6, 3, 92, 0, 0, 0, 0, 0), (89, .goto 12, 3, 101, 0, 0, 0, 0, 0), (92, .iinc 5 1, 3, 0, 0, 0, 0, 0, 0), (95, .iinc 6 1, 3, 0, 0, 0, 0, 0, 0), (98, .goto (-56), 3, 42, 0, 0, 0, 0, 0), (101, .iload 5, 2, 0, 0, 0, 0, 0, 0), (103, .ireturn, 1, 0, 0, 0, 0, 0, 0)]
set_option maxRecDepth 100000 in
theorem jk_X11_common : ji_X11_common.all (jck 126) = true := by decide +kernel
def ji_X11_border : List JI := [(0, .aload_n 0, 1, 0, 0, 0, 0, 0, 0), (1, .getfield 10, 3, 1200, 1, 11, 362, 0, 21), (4, .iload_n 1, 1, 0, 0, 0, 0, 0, 0), (5, .invokevirtual 89, 3, 27, 2, 1, 429, 0, 14), (8, .astore_n 3, 1, 0, 0, 0, 0, 0, 0), (9, .aload_n 3, 1, 0, 0, 0, 0, 0, 0), (10, .ifnull 16, 3, 26, 0, 0, 0, 0, 0), (13, .iload_n 2, 1, 0, 0, 0, 0, 0, 0), (14, .iconst 1, 1, 0, 0, 0, 0, 0, 0), (15, .if_icmp .lt 11, 3, 26, 0, 0, 0, 0, 0), (18, .iload_n 2, 1, 0, 0, 0, 0, 0, 0), (19, .aload_n 3, 1, 0, 0, 0, 0, 0, 0), (20, .getfield 105, 3, 2901, 0, 9, 125, 0, 19), (23, .if_icmp .le 6, 3, 29, 0, 0, 0, 0, 0), (26, .bipush (-2), 2, 0, 0, 0, 0, 0, 0), (28, .ireturn, 1, 0, 0, 0, 0, 0, 0), (29, .aload_n 0, 1, 0, 0, 0, 0, 0, 0), (30, .getfield 35, 3, 1203, 1, 11, 365, 0, 21), (33, .aload_n 3, 1, 0, 0, 0, 0, 0, 0), (34, .iconst 0, 1, 0, 0, 0, 0, 0, 0), (35, .iload_n 2, 1, 0, 0, 0, 0, 0, 0), (36, .invokevirtual 176, 3, 1, 4, 0, 659, 0, 10), (39, .ireturn, 1, 0, 0, 0, 0, 0, 0)]
set_option maxRecDepth 100000 in
theorem jk_X11_border : ji_X11_border.all (jck 127) = true := by decide +kernel
def ji_X11_find : List JI := [(0, .aload_n 0, 1, 0, 0, 0, 0, 0, 0), (1, .getfield 10, 3, 1200, 1, 11, 362, 0, 21), (4, .iload_n 1, 1, 0, 0, 0, 0, 0, 0), (5, .invokevirtual 89, 3, 27, 2, 1, 429, 0, 14), (8, .astore 4, 2, 0, 0, 0, 0, 0, 0), (10, .aload_n 0, 1, 0, 0, 0, 0, 0, 0), (11, .getfield 10, 3, 1200, 1, 11, 362, 0, 21), (14, .iload_n 2, 1, 0, 0, 0, 0, 0, 0), (15, .invokevirtual 89, 3, 27, 2, 1, 429, 0, 14), (18, .astore 5, 2, 0, 0, 0, 0, 0, 0), (20, .aload 4, 2, 0, 0, 0, 0, 0, 0), (22, .ifnull 8, 3, 30, 0, 0, 0, 0, 0), (25, .aload 5, 2, 0, 0, 0, 0, 0, 0), (27, .ifnonnull 6, 3, 33, 0, 0, 0, 0, 0), (30, .bipush (-2), 2, 0, 0, 0, 0, 0, 0), (32, .ireturn, 1, 0, 0, 0, 0, 0, 0), (33, .aload 4, 2, 0, 0, 0, 0, 0, 0), (35, .aload 5, 2, 0, 0, 0, 0, 0, 0), (37, .iconst (-1), 1, 0, 0, 0, 0, 0, 0), (38, .iconst 0, 1, 0, 0, 0, 0, 0, 0), (39, .iload_n 3, 1, 0, 0, 0, 0, 0, 0), (40, .invokestatic 179, 3, 18, 5, 0, 668, 0, 0), (43, .ireturn, 1, 0, 0, 0, 0, 0, 0)]
set_option maxRecDepth 100000 in
theorem jk_X11_find : ji_X11_find.all (jck 128) = true := by decide +kernel
def ji_X11_countOf : List JI := [(0, .aload_n 0, 1, 0, 0, 0, 0, 0, 0), (1, .getfield 10, 3, 1200, 1, 11, 362, 0, 21), (4, .iload_n 1, 1, 0, 0, 0, 0, 0, 0), (5, .invokevirtual 89, 3, 27, 2, 1, 429, 0, 14), (8, .astore_n 3, 1, 0, 0, 0, 0, 0, 0), (9, .aload_n 0, 1, 0, 0, 0, 0, 0, 0), (10, .getfield 10, 3, 1200, 1, 11, 362, 0, 21), (13, .iload_n 2, 1, 0, 0, 0, 0, 0, 0), (14, .invokevirtual 89, 3, 27, 2, 1, 429, 0, 14), (17, .astore 4, 2, 0, 0, 0, 0, 0, 0), (19, .aload_n 3, 1, 0, 0, 0, 0, 0, 0), (20, .ifnull 8, 3, 28, 0, 0, 0, 0, 0), (23, .aload 4, 2, 0, 0, 0, 0, 0, 0), (25, .ifnonnull 6, 3, 31, 0, 0, 0, 0, 0), (28, .bipush (-2), 2, 0, 0, 0, 0, 0, 0), (30, .ireturn, 1, 0, 0, 0, 0, 0, 0), (31, .aload_n 3, 1, 0, 0, 0, 0, 0, 0), (32, .aload 4, 2, 0, 0, 0, 0, 0, 0), (34, .invokestatic 182, 3, 19, 2, 0, 678, 0, 0), (37, .ireturn, 1, 0, 0, 0, 0, 0, 0)]
set_option maxRecDepth 100000 in
theorem jk_X11_countOf : ji_X11_countOf.all (jck 129) = true := by decide +kernel
def ji_X11_wild : List JI := [(0, .aload_n 0, 1, 0, 0, 0, 0, 0, 0), (1, .getfield 10, 3, 1200, 1, 11, 362, 0, 21), (4, .iload_n 1, 1, 0, 0, 0, 0, 0, 0), (5, .invokevirtual 89, 3, 27, 2, 1, 429, 0, 14), (8, .astore 5, 2, 0, 0, 0, 0, 0, 0), (10, .aload_n 0, 1, 0, 0, 0, 0, 0, 0), (11, .getfield 10, 3, 1200, 1, 11, 362, 0, 21), (14, .iload_n 2, 1, 0, 0, 0, 0, 0, 0), (15, .invokevirtual 89, 3, 27, 2, 1, 429, 0, 14), (18, .astore 6, 2, 0, 0, 0, 0, 0, 0), (20, .aload 5, 2, 0, 0, 0, 0, 0, 0), (22, .ifnull 15, 3, 37, 0, 0, 0, 0, 0), (25, .aload 6, 2, 0, 0, 0, 0, 0, 0), (27, .ifnull 10, 3, 37, 0, 0, 0, 0, 0), (30, .iload_n 3, 1, 0, 0, 0, 0, 0, 0), (31, .invokestatic 129, 3, 165, 1, 0, 499, 0, 0), (34, .ifCond .ne 6, 3, 40, 0, 0, 0, 0, 0), (37, .bipush (-2), 2, 0, 0, 0, 0, 0, 0), (39, .ireturn, 1, 0, 0, 0, 0, 0, 0), (40, .aload 5, 2, 0, 0, 0, 0, 0, 0), (42, .aload 6, 2, 0, 0, 0, 0, 0, 0), (44, .iload_n 3, 1, 0, 0, 0, 0, 0, 0), (45, .iconst 0, 1, 0, 0, 0, 0, 0, 0), (46, .iload 4, 2, 0, 0, 0, 0, 0, 0), (48, .invokestatic 179, 3, 18, 5, 0, 668, 0, 0), (51, .ireturn, 1, 0, 0, 0, 0, 0, 0)]
set_option maxRecDepth 100000 in
theorem jk_X11_wild : ji_X11_wild.all (jck 130) = true := by decide +kernel
def ji_X11_near : List JI := [(0, .aload_n 0, 1, 0, 0, 0, 0, 0, 0), (1, .getfield 10, 3, 1200, 1, 11, 362, 0, 21), (4, .iload_n 1, 1, 0, 0, 0, 0, 0, 0), (5, .invokevirtual 89, 3, 27, 2, 1, 429, 0, 14), (8, .astore 5, 2, 0, 0, 0, 0, 0, 0), (10, .aload_n 0, 1, 0, 0, 0, 0, 0, 0), (11, .getfield 10, 3, 1200, 1, 11, 362, 0, 21), (14, .iload_n 2, 1, 0, 0, 0, 0, 0, 0), (15, .invokevirtual 89, 3, 27, 2, 1, 429, 0, 14), (18, .astore 6, 2, 0, 0, 0, 0, 0, 0), (20, .aload 5, 2, 0, 0, 0, 0, 0, 0), (22, .ifnull 17, 3, 39, 0, 0, 0, 0, 0), (25, .aload 6, 2, 0, 0, 0, 0, 0, 0), (27, .ifnull 12, 3, 39, 0, 0, 0, 0, 0), (30, .iload_n 3, 1, 0, 0, 0, 0, 0, 0), (31, .ifCond .lt 8, 3, 39, 0, 0, 0, 0, 0), (34, .iload_n 3, 1, 0, 0, 0, 0, 0, 0), (35, .iconst 3, 1, 0, 0, 0, 0, 0, 0), (36, .if_icmp .le 6, 3, 42, 0, 0, 0, 0, 0), (39, .bipush (-2), 2, 0, 0, 0, 0, 0, 0), (41, .ireturn, 1, 0, 0, 0, 0, 0, 0), (42, .aload 5, 2, 0, 0, 0, 0, 0, 0), (44, .aload 6, 2, 0, 0, 0, 0, 0, 0), (46, .iconst (-1), 1, 0, 0, 0, 0, 0, 0), (47, .iload_n 3, 1, 0, 0, 0, 0, 0, 0), (48, .iload 4, 2, 0, 0, 0, 0, 0, 0), (50, .invokestatic 179, 3, 18, 5, 0, 668, 0, 0), (53, .ireturn, 1, 0, 0, 0, 0, 0, 0)]
set_option maxRecDepth 100000 in
theorem jk_X11_near : ji_X11_near.all (jck 131) = true := by decide +kernel
def ji_X11_pattern : List JI := [(0, .aload_n 0, 1, 0, 0, 0, 0, 0, 0), (1, .getfield 10, 3, 1200, 1, 11, 362, 0, 21), (4, .iload_n 1, 1, 0, 0, 0, 0, 0, 0), (5, .invokevirtual 89, 3, 27, 2, 1, 429, 0, 14), (8, .astore_n 2, 1, 0, 0, 0, 0, 0, 0), (9, .aload_n 2, 1, 0, 0, 0, 0, 0, 0), (10, .ifnull 20, 3, 30, 0, 0, 0, 0, 0), (13, .aload_n 2, 1, 0, 0, 0, 0, 0, 0), (14, .getfield 105, 3, 2901, 0, 9, 125, 0, 19), (17, .iconst 1, 1, 0, 0, 0, 0, 0, 0), (18, .if_icmp .lt 12, 3, 30, 0, 0, 0, 0, 0), (21, .aload_n 2, 1, 0, 0, 0, 0, 0, 0), (22, .getfield 105, 3, 2901, 0, 9, 125, 0, 19), (25, .bipush 40, 2, 0, 0, 0, 0, 0, 0), (27, .if_icmp .le 6, 3, 33, 0, 0, 0, 0, 0), (30, .bipush (-2), 2, 0, 0, 0, 0, 0, 0), (32, .ireturn, 1, 0, 0, 0, 0, 0, 0), (33, .aload_n 0, 1, 0, 0, 0, 0, 0, 0), (34, .getfield 42, 3, 1204, 1, 11, 366, 0, 21), (37, .aload_n 2, 1, 0, 0, 0, 0, 0, 0), (38, .invokevirtual 186, 3, 11, 2, 0, 693, 0, 12), (41, .ireturn, 1, 0, 0, 0, 0, 0, 0)]
set_option maxRecDepth 100000 in
theorem jk_X11_pattern : ji_X11_pattern.all (jck 132) = true := by decide +kernel
def ji_X11_matches : List JI := [(0, .aload_n 0, 1, 0, 0, 0, 0, 0, 0), (1, .getfield 10, 3, 1200, 1, 11, 362, 0, 21), (4, .iload_n 1, 1, 0, 0, 0, 0, 0, 0), (5, .invokevirtual 89, 3, 27, 2, 1, 429, 0, 14), (8, .astore_n 2, 1, 0, 0, 0, 0, 0, 0), (9, .aload_n 2, 1, 0, 0, 0, 0, 0, 0), (10, .ifnonnull 6, 3, 16, 0, 0, 0, 0, 0), (13, .bipush (-2), 2, 0, 0, 0, 0, 0, 0), (15, .ireturn, 1, 0, 0, 0, 0, 0, 0), (16, .aload_n 0, 1, 0, 0, 0, 0, 0, 0), (17, .getfield 42, 3, 1204, 1, 11, 366, 0, 21), (20, .aload_n 2, 1, 0, 0, 0, 0, 0, 0), (21, .aload_n 0, 1, 0, 0, 0, 0, 0, 0), (22, .getfield 65, 3, 1207, 1, 11, 369, 0, 21), (25, .invokevirtual 189, 3, 12, 3, 3, 702, 0, 12), (28, .aload_n 0, 1, 0, 0, 0, 0, 0, 0), (29, .getfield 65, 3, 1207, 1, 11, 369, 0, 21), (32, .getfield 193, 3, 3003, 0, 10, 319, 0, 20), (35, .ireturn, 1, 0, 0, 0, 0, 0, 0)]
set_option maxRecDepth 100000 in
theorem jk_X11_matches : ji_X11_matches.all (jck 133) = true := by decide +kernel
def ji_X11_match : List JI := [(0, .aload_n 0, 1, 0, 0, 0, 0, 0, 0), (1, .getfield 65, 3, 1207, 1, 11, 369, 0, 21), (4, .iload_n 1, 1, 0, 0, 0, 0, 0, 0), (5, .iload_n 2, 1, 0, 0, 0, 0, 0, 0), (6, .invokevirtual 196, 3, 102, 3, 0, 723, 0, 20), (9, .ireturn, 1, 0, 0, 0, 0, 0, 0)]
set_option maxRecDepth 100000 in
theorem jk_X11_match : ji_X11_match.all (jck 134) = true := by decide +kernel
def ji_X11_longestCommon : List JI := [(0, .aload_n 0, 1, 0, 0, 0, 0, 0, 0), (1, .getfield 10, 3, 1200, 1, 11, 362, 0, 21), (4, .iload_n 1, 1, 0, 0, 0, 0, 0, 0), (5, .invokevirtual 89, 3, 27, 2, 1, 429, 0, 14), (8, .astore 4, 2, 0, 0, 0, 0, 0, 0), (10, .aload_n 0, 1, 0, 0, 0, 0, 0, 0), (11, .getfield 10, 3, 1200, 1, 11, 362, 0, 21), (14, .iload_n 2, 1, 0, 0, 0, 0, 0, 0), (15, .invokevirtual 89, 3, 27, 2, 1, 429, 0, 14), (18, .astore 5, 2, 0, 0, 0, 0, 0, 0), (20, .aload 4, 2, 0, 0, 0, 0, 0, 0), (22, .ifnull 17, 3, 39, 0, 0, 0, 0, 0), (25, .aload 5, 2, 0, 0, 0, 0, 0, 0), (27, .ifnull 12, 3, 39, 0, 0, 0, 0, 0), (30, .iload_n 3, 1, 0, 0, 0, 0, 0, 0), (31, .ifCond .lt 8, 3, 39, 0, 0, 0, 0, 0), (34, .iload_n 3, 1, 0, 0, 0, 0, 0, 0), (35, .iconst 2, 1, 0, 0, 0, 0, 0, 0), (36, .if_icmp .le 6, 3, 42, 0, 0, 0, 0, 0), (39, .bipush (-2), 2, 0, 0, 0, 0, 0, 0), (41, .ireturn, 1, 0, 0, 0, 0, 0, 0), (42, .aload_n 0, 1, 0, 0, 0, 0, 0, 0), (43, .getfield 28, 3, 1202, 1, 11, 364, 0, 21), (46, .aload 4, 2, 0, 0, 0, 0, 0, 0), (48, .aload 5, 2, 0, 0, 0, 0, 0, 0), (50, .invokevirtual 200, 3, 20, 3, 3, 731, 0, 13), (53, .iload_n 3, 1, 0, 0, 0, 0, 0, 0), (54, .ifCond .ne 11, 3, 65, 0, 0, 0, 0, 0), (57, .aload_n 0, 1, 0, 0, 0, 0, 0, 0), (58, .getfield 28, 3, 1202, 1, 11, 364, 0, 21), (61, .getfield 204, 3, 2305, 0, 3, 245, 0, 13), (64, .ireturn, 1, 0, 0, 0, 0, 0, 0), (65, .iload_n 3, 1, 0, 0, 0, 0, 0, 0), (66, .iconst 1, 1, 0, 0, 0, 0, 0, 0), (67, .if_icmp .ne 13, 3, 80, 0, 0, 0, 0, 0), (70, .aload_n 0, 1, 0, 0, 0, 0, 0, 0), (71, .getfield 28, 3, 1202, 1, 11, 364, 0, 21), (74, .getfield 207, 3, 2306, 0, 3, 247, 0, 13), (77, .goto 10, 3, 87, 0, 0, 0, 0, 0), (80, .aload_n 0, 1, 0, 0, 0, 0, 0, 0), (81, .getfield 28, 3, 1202, 1, 11, 364, 0, 21), (84, .getfield 210, 3, 2307, 0, 3, 249, 0, 13), (87, .ireturn, 1, 0, 0, 0, 0, 0, 0)]
set_option maxRecDepth 100000 in
theorem jk_X11_longestCommon : ji_X11_longestCommon.all (jck 135) = true := by decide +kernel
def ji_X11_ofMany : List JI := [(0, .iload_n 1, 1, 0, 0, 0, 0, 0, 0), (1, .iconst 1, 1, 0, 0, 0, 0, 0, 0), (2, .if_icmp .lt 12, 3, 14, 0, 0, 0, 0, 0), (5, .iload_n 2, 1, 0, 0, 0, 0, 0, 0), (6, .ifCond .lt 8, 3, 14, 0, 0, 0, 0, 0), (9, .iload_n 2, 1, 0, 0, 0, 0, 0, 0), (10, .iconst 2, 1, 0, 0, 0, 0, 0, 0), (11, .if_icmp .le 6, 3, 17, 0, 0, 0, 0, 0), (14, .bipush (-2), 2, 0, 0, 0, 0, 0, 0), (16, .ireturn, 1, 0, 0, 0, 0, 0, 0), (17, .iload_n 1, 1, 0, 0, 0, 0, 0, 0), (18, .aload_n 0, 1, 0, 0, 0, 0, 0, 0), (19, .getfield 10, 3, 1200, 1, 11, 362, 0, 21), (22, .getfield 213, 3, 2402, 0, 4, 157, 0, 14), (25, .if_icmp .le 6, 3, 31, 0, 0, 0, 0, 0), (28, .bipush (-4), 2, 0, 0, 0, 0, 0, 0), (30, .ireturn, 1, 0, 0, 0, 0, 0, 0), (31, .aload_n 0, 1, 0, 0, 0, 0, 0, 0), (32, .getfield 216, 3, 1212, 1, 11, 374, 0, 21), (35, .ifnonnull 17, 3, 52, 0, 0, 0, 0, 0), (38, .aload_n 0, 1, 0, 0, 0, 0, 0, 0), (39, .new 16, 3, 74, 15, 8, 176, 177, 18), (42, .dup, 1, 0, 0, 0, 0, 0, 0), (43, .sipush 9640, 3, 0, 0, 0, 0, 0, 0), (46, .invokespecial 18, 3, 57, 2, 3, 178, 0, 0), (49, .putfield 216, 3, 1212, 1, 11, 374, 0, 21), (52, .aload_n 0, 1, 0, 0, 0, 0, 0, 0), (53, .getfield 216, 3, 1212, 1, 11, 374, 0, 21), (56, .aload_n 0, 1, 0, 0, 0, 0, 0, 0), (57, .getfield 10, 3, 1200, 1, 11, 362, 0, 21), (60, .invokevirtual 219, 3, 59, 2, 3, 739, 0, 18), (63, .aload_n 0, 1, 0, 0, 0, 0, 0, 0), (64, .getfield 216, 3, 1212, 1, 11, 374, 0, 21), (67, .iload_n 1, 1, 0, 0, 0, 0, 0, 0), (68, .invokevirtual 223, 3, 78, 2, 0, 743, 0, 18), (71, .istore_n 3, 1, 0, 0, 0, 0, 0, 0), (72, .iload_n 2, 1, 0, 0, 0, 0, 0, 0), (73, .ifCond .ne 5, 3, 78, 0, 0, 0, 0, 0), (76, .iload_n 3, 1, 0, 0, 0, 0, 0, 0), (77, .ireturn, 1, 0, 0, 0, 0, 0, 0), (78, .aload_n 0, 1, 0, 0, 0, 0, 0, 0), (79, .getfield 216, 3, 1212, 1, 11, 374, 0, 21), (82, .iload_n 3, 1, 0, 0, 0, 0, 0, 0), (83, .iload_n 1, 1, 0, 0, 0, 0, 0, 0), (84, .invokevirtual 226, 3, 80, 3, 0, 751, 0, 18), (87, .istore 4, 2, 0, 0, 0, 0, 0, 0), (89, .iload_n 2, 1, 0, 0, 0, 0, 0, 0), (90, .iconst 1, 1, 0, 0, 0, 0, 0, 0), (91, .if_icmp .ne 15, 3, 106, 0, 0, 0, 0, 0), (94, .aload_n 0, 1, 0, 0, 0, 0, 0, 0), (95, .getfield 216, 3, 1212, 1, 11, 374, 0, 21), (98, .iload 4, 2, 0, 0, 0, 0, 0, 0), (100, .invokevirtual 229, 3, 81, 2, 0, 758, 0, 18), (103, .goto 12, 3, 115, 0, 0, 0, 0, 0), (106, .aload_n 0, 1, 0, 0, 0, 0, 0, 0), (107, .getfield 216, 3, 1212, 1, 11, 374, 0, 21), (110, .iload 4, 2, 0, 0, 0, 0, 0, 0), (112, .invokevirtual 232, 3, 82, 2, 0, 762, 0, 18), (115, .ireturn, 1, 0, 0, 0, 0, 0, 0)]
set_option maxRecDepth 100000 in
theorem jk_X11_ofMany : ji_X11_ofMany.all (jck 136) = true := by decide +kernel
def ji_X11_period : List JI := [(0, .aload_n 0, 1, 0, 0, 0, 0, 0, 0), (1, .getfield 10, 3, 1200, 1, 11, 362, 0, 21), (4, .iload_n 1, 1, 0, 0, 0, 0, 0, 0), (5, .invokevirtual 89, 3, 27, 2, 1, 429, 0, 14), (8, .astore 4, 2, 0, 0, 0, 0, 0, 0), (10, .aload 4, 2, 0, 0, 0, 0, 0, 0), (12, .ifnull 18, 3, 30, 0, 0, 0, 0, 0), (15, .aload 4, 2, 0, 0, 0, 0, 0, 0), (17, .iload_n 2, 1, 0, 0, 0, 0, 0, 0), (18, .iload_n 3, 1, 0, 0, 0, 0, 0, 0), (19, .invokevirtual 113, 3, 85, 3, 0, 481, 0, 19), (22, .ifCond .eq 8, 3, 30, 0, 0, 0, 0, 0), (25, .iload_n 2, 1, 0, 0, 0, 0, 0, 0), (26, .iload_n 3, 1, 0, 0, 0, 0, 0, 0), (27, .if_icmp .ne 6, 3, 33, 0, 0, 0, 0, 0), (30, .bipush (-2), 2, 0, 0, 0, 0, 0, 0), (32, .ireturn, 1, 0, 0, 0, 0, 0, 0), (33, .iload_n 3, 1, 0, 0, 0, 0, 0, 0), (34, .iload_n 2, 1, 0, 0, 0, 0, 0, 0), (35, .isub, 1, 0, 0, 0, 0, 0, 0), (36, .aload_n 0, 1, 0, 0, 0, 0, 0, 0), (37, .getfield 35, 3, 1203, 1, 11, 365, 0, 21), (40, .aload 4, 2, 0, 0, 0, 0, 0, 0), (42, .iload_n 2, 1, 0, 0, 0, 0, 0, 0), (43, .iload_n 3, 1, 0, 0, 0, 0, 0, 0), (44, .invokevirtual 176, 3, 1, 4, 0, 659, 0, 10), (47, .isub, 1, 0, 0, 0, 0, 0, 0), (48, .ireturn, 1, 0, 0, 0, 0, 0, 0)]
set_option maxRecDepth 100000 in
theorem jk_X11_period : ji_X11_period.all (jck 137) = true := by decide +kernel
def ji_X11_root : List JI := [(0, .aload_n 0, 1, 0, 0, 0, 0, 0, 0), (1, .getfield 10, 3, 1200, 1, 11, 362, 0, 21), (4, .iload_n 1, 1, 0, 0, 0, 0, 0, 0), (5, .invokevirtual 89, 3, 27, 2, 1, 429, 0, 14), (8, .astore_n 2, 1, 0, 0, 0, 0, 0, 0), (9, .aload_n 2, 1, 0, 0, 0, 0, 0, 0), (10, .ifnonnull 6, 3, 16, 0, 0, 0, 0, 0), (13, .bipush (-2), 2, 0, 0, 0, 0, 0, 0), (15, .ireturn, 1, 0, 0, 0, 0, 0, 0), (16, .aload_n 2, 1, 0, 0, 0, 0, 0, 0), (17, .getfield 105, 3, 2901, 0, 9, 125, 0, 19), (20, .ifCond .ne 5, 3, 25, 0, 0, 0, 0, 0), (23, .iconst 0, 1, 0, 0, 0, 0, 0, 0), (24, .ireturn, 1, 0, 0, 0, 0, 0, 0), (25, .aload_n 2, 1, 0, 0, 0, 0, 0, 0), (26, .getfield 105, 3, 2901, 0, 9, 125, 0, 19), (29, .aload_n 0, 1, 0, 0, 0, 0, 0, 0), (30, .getfield 35, 3, 1203, 1, 11, 365, 0, 21), (33, .aload_n 2, 1, 0, 0, 0, 0, 0, 0), (34, .iconst 0, 1, 0, 0, 0, 0, 0, 0), (35, .aload_n 2, 1, 0, 0, 0, 0, 0, 0), (36, .getfield 105, 3, 2901, 0, 9, 125, 0, 19), (39, .invokevirtual 176, 3, 1, 4, 0, 659, 0, 10), (42, .isub, 1, 0, 0, 0, 0, 0, 0), (43, .istore_n 3, 1, 0, 0, 0, 0, 0, 0), (44, .iload_n 3, 1, 0, 0, 0, 0, 0, 0), (45, .ifCond .le 16, 3, 61, 0, 0, 0, 0, 0), (48, .aload_n 2, 1, 0, 0, 0, 0, 0, 0), (49, .getfield 105, 3, 2901, 0, 9, 125, 0, 19), (52, .iload_n 3, 1, 0, 0, 0, 0, 0, 0), (53, .irem, 1, 0, 0, 0, 0, 0, 0), (54, .ifCond .ne 7, 3, 61, 0, 0, 0, 0, 0), (57, .iload_n 3, 1, 0, 0, 0, 0, 0, 0), (58, .goto 7, 3, 65, 0, 0, 0, 0, 0), (61, .aload_n 2, 1, 0, 0, 0, 0, 0, 0), (62, .getfield 105, 3, 2901, 0, 9, 125, 0, 19), (65, .ireturn, 1, 0, 0, 0, 0, 0, 0)]
set_option maxRecDepth 100000 in
theorem jk_X11_root : ji_X11_root.all (jck 138) = true := by decide +kernel
def ji_X11_squares : List JI := [(0, .aload_n 0, 1, 0, 0, 0, 0, 0, 0), (1, .getfield 10, 3, 1200, 1, 11, 362, 0, 21), (4, .iload_n 1, 1, 0, 0, 0, 0, 0, 0), (5, .invokevirtual 89, 3, 27, 2, 1, 429, 0, 14), (8, .astore_n 2, 1, 0, 0, 0, 0, 0, 0), (9, .aload_n 2, 1, 0, 0, 0, 0, 0, 0), (10, .ifnonnull 8, 3, 18, 0, 0, 0, 0, 0), (13, .bipush (-2), 2, 0, 0, 0, 0, 0, 0), (15, .goto 7, 3, 22, 0, 0, 0, 0, 0), (18, .aload_n 2, 1, 0, 0, 0, 0, 0, 0), (19, .invokestatic 235, 3, 2, 1, 0, 779, 0, 0), (22, .ireturn, 1, 0, 0, 0, 0, 0, 0)]
set_option maxRecDepth 100000 in
theorem jk_X11_squares : ji_X11_squares.all (jck 139) = true := by decide +kernel
def ji_X11_runs : List JI := [(0, .aload_n 0, 1, 0, 0, 0, 0, 0, 0), (1, .getfield 10, 3, 1200, 1, 11, 362, 0, 21), (4, .iload_n 1, 1, 0, 0, 0, 0, 0, 0), (5, .invokevirtual 89, 3, 27, 2, 1, 429, 0, 14), (8, .astore_n 2, 1, 0, 0, 0, 0, 0, 0), (9, .aload_n 2, 1, 0, 0, 0, 0, 0, 0), (10, .ifnonnull 6, 3, 16, 0, 0, 0, 0, 0), (13, .bipush (-2), 2, 0, 0, 0, 0, 0, 0), (15, .ireturn, 1, 0, 0, 0, 0, 0, 0), (16, .aload_n 2, 1, 0, 0, 0, 0, 0, 0), (17, .aload_n 0, 1, 0, 0, 0, 0, 0, 0), (18, .getfield 72, 3, 1209, 1, 11, 371, 0, 21), (21, .invokestatic 238, 3, 3, 2, 3, 786, 0, 0), (24, .aload_n 0, 1, 0, 0, 0, 0, 0, 0), (25, .getfield 72, 3, 1209, 1, 11, 371, 0, 21), (28, .getfield 193, 3, 3003, 0, 10, 319, 0, 20), (31, .ireturn, 1, 0, 0, 0, 0, 0, 0)]
set_option maxRecDepth 100000 in
theorem jk_X11_runs : ji_X11_runs.all (jck 140) = true := by decide +kernel
def ji_X11_run : List JI := [(0, .aload_n 0, 1, 0, 0, 0, 0, 0, 0), (1, .getfield 72, 3, 1209, 1, 11, 371, 0, 21), (4, .iload_n 1, 1, 0, 0, 0, 0, 0, 0), (5, .iload_n 2, 1, 0, 0, 0, 0, 0, 0), (6, .invokevirtual 196, 3, 102, 3, 0, 723, 0, 20), (9, .ireturn, 1, 0, 0, 0, 0, 0, 0)]
set_option maxRecDepth 100000 in
theorem jk_X11_run : ji_X11_run.all (jck 141) = true := by decide +kernel
def ji_X11_palindrome : List JI := [(0, .aload_n 0, 1, 0, 0, 0, 0, 0, 0), (1, .getfield 10, 3, 1200, 1, 11, 362, 0, 21), (4, .iload_n 1, 1, 0, 0, 0, 0, 0, 0), (5, .invokevirtual 89, 3, 27, 2, 1, 429, 0, 14), (8, .astore_n 3, 1, 0, 0, 0, 0, 0, 0), (9, .aload_n 3, 1, 0, 0, 0, 0, 0, 0), (10, .ifnull 19, 3, 29, 0, 0, 0, 0, 0), (13, .iload_n 2, 1, 0, 0, 0, 0, 0, 0), (14, .ifCond .lt 15, 3, 29, 0, 0, 0, 0, 0), (17, .iload_n 2, 1, 0, 0, 0, 0, 0, 0), (18, .iconst 2, 1, 0, 0, 0, 0, 0, 0), (19, .aload_n 3, 1, 0, 0, 0, 0, 0, 0), (20, .getfield 105, 3, 2901, 0, 9, 125, 0, 19), (23, .imul, 1, 0, 0, 0, 0, 0, 0), (24, .iconst 2, 1, 0, 0, 0, 0, 0, 0), (25, .isub, 1, 0, 0, 0, 0, 0, 0), (26, .if_icmp .le 6, 3, 32, 0, 0, 0, 0, 0), (29, .bipush (-2), 2, 0, 0, 0, 0, 0, 0), (31, .ireturn, 1, 0, 0, 0, 0, 0, 0), (32, .aload_n 3, 1, 0, 0, 0, 0, 0, 0), (33, .iload_n 2, 1, 0, 0, 0, 0, 0, 0), (34, .invokestatic 241, 3, 5, 2, 0, 811, 0, 0), (37, .ireturn, 1, 0, 0, 0, 0, 0, 0)]
set_option maxRecDepth 100000 in
theorem jk_X11_palindrome : ji_X11_palindrome.all (jck 142) = true := by decide +kernel
def ji_X11_palindromes : List JI := [(0, .aload_n 0, 1, 0, 0, 0, 0, 0, 0), (1, .getfield 10, 3, 1200, 1, 11, 362, 0, 21), (4, .iload_n 1, 1, 0, 0, 0, 0, 0, 0), (5, .invokevirtual 89, 3, 27, 2, 1, 429, 0, 14), (8, .astore_n 2, 1, 0, 0, 0, 0, 0, 0), (9, .aload_n 2, 1, 0, 0, 0, 0, 0, 0), (10, .ifnonnull 8, 3, 18, 0, 0, 0, 0, 0), (13, .bipush (-2), 2, 0, 0, 0, 0, 0, 0), (15, .goto 11, 3, 26, 0, 0, 0, 0, 0), (18, .aload_n 0, 1, 0, 0, 0, 0, 0, 0), (19, .getfield 35, 3, 1203, 1, 11, 365, 0, 21), (22, .aload_n 2, 1, 0, 0, 0, 0, 0, 0), (23, .invokevirtual 245, 3, 6, 2, 0, 818, 0, 10), (26, .ireturn, 1, 0, 0, 0, 0, 0, 0)]
set_option maxRecDepth 100000 in
theorem jk_X11_palindromes : ji_X11_palindromes.all (jck 143) = true := by decide +kernel
def ji_X11_leastRotation : List JI := [(0, .aload_n 0, 1, 0, 0, 0, 0, 0, 0), (1, .getfield 10, 3, 1200, 1, 11, 362, 0, 21), (4, .iload_n 1, 1, 0, 0, 0, 0, 0, 0), (5, .invokevirtual 89, 3, 27, 2, 1, 429, 0, 14), (8, .astore_n 2, 1, 0, 0, 0, 0, 0, 0), (9, .aload_n 2, 1, 0, 0, 0, 0, 0, 0), (10, .ifnonnull 6, 3, 16, 0, 0, 0, 0, 0), (13, .bipush (-2), 2, 0, 0, 0, 0, 0, 0), (15, .ireturn, 1, 0, 0, 0, 0, 0, 0), (16, .aload_n 2, 1, 0, 0, 0, 0, 0, 0), (17, .getfield 105, 3, 2901, 0, 9, 125, 0, 19), (20, .ifCond .ne 7, 3, 27, 0, 0, 0, 0, 0), (23, .iconst (-1), 1, 0, 0, 0, 0, 0, 0), (24, .goto 7, 3, 31, 0, 0, 0, 0, 0), (27, .aload_n 2, 1, 0, 0, 0, 0, 0, 0), (28, .invokestatic 248, 3, 7, 1, 0, 827, 0, 0), (31, .ireturn, 1, 0, 0, 0, 0, 0, 0)]
set_option maxRecDepth 100000 in
theorem jk_X11_leastRotation : ji_X11_leastRotation.all (jck 144) = true := by decide +kernel
def ji_X11_lyndon : List JI := [(0, .aload_n 0, 1, 0, 0, 0, 0, 0, 0), (1, .getfield 10, 3, 1200, 1, 11, 362, 0, 21), (4, .iload_n 1, 1, 0, 0, 0, 0, 0, 0), (5, .invokevirtual 89, 3, 27, 2, 1, 429, 0, 14), (8, .ifnonnull 6, 3, 14, 0, 0, 0, 0, 0), (11, .bipush (-2), 2, 0, 0, 0, 0, 0, 0), (13, .ireturn, 1, 0, 0, 0, 0, 0, 0), (14, .aload_n 0, 1, 0, 0, 0, 0, 0, 0), (15, .iload_n 1, 1, 0, 0, 0, 0, 0, 0), (16, .invokevirtual 166, 3, 167, 2, 1, 592, 0, 21), (19, .iload_n 2, 1, 0, 0, 0, 0, 0, 0), (20, .invokevirtual 251, 3, 72, 2, 0, 837, 0, 18), (23, .ireturn, 1, 0, 0, 0, 0, 0, 0)]
set_option maxRecDepth 100000 in
theorem jk_X11_lyndon : ji_X11_lyndon.all (jck 145) = true := by decide +kernel
def ji_X11_parts : List JI := [(0, .aload_n 0, 1, 0, 0, 0, 0, 0, 0), (1, .getfield 10, 3, 1200, 1, 11, 362, 0, 21), (4, .iload_n 1, 1, 0, 0, 0, 0, 0, 0), (5, .invokevirtual 89, 3, 27, 2, 1, 429, 0, 14), (8, .ifnonnull 6, 3, 14, 0, 0, 0, 0, 0), (11, .bipush (-2), 2, 0, 0, 0, 0, 0, 0), (13, .ireturn, 1, 0, 0, 0, 0, 0, 0), (14, .aload_n 0, 1, 0, 0, 0, 0, 0, 0), (15, .iload_n 1, 1, 0, 0, 0, 0, 0, 0), (16, .invokevirtual 166, 3, 167, 2, 1, 592, 0, 21), (19, .invokevirtual 254, 3, 74, 1, 0, 845, 0, 18), (22, .ireturn, 1, 0, 0, 0, 0, 0, 0)]
set_option maxRecDepth 100000 in
theorem jk_X11_parts : ji_X11_parts.all (jck 146) = true := by decide +kernel
def ji_X11_nthPart : List JI := [(0, .aload_n 0, 1, 0, 0, 0, 0, 0, 0), (1, .getfield 10, 3, 1200, 1, 11, 362, 0, 21), (4, .iload_n 1, 1, 0, 0, 0, 0, 0, 0), (5, .invokevirtual 89, 3, 27, 2, 1, 429, 0, 14), (8, .astore_n 3, 1, 0, 0, 0, 0, 0, 0), (9, .aload_n 3, 1, 0, 0, 0, 0, 0, 0), (10, .ifnonnull 6, 3, 16, 0, 0, 0, 0, 0), (13, .bipush (-2), 2, 0, 0, 0, 0, 0, 0), (15, .ireturn, 1, 0, 0, 0, 0, 0, 0), (16, .aload_n 0, 1, 0, 0, 0, 0, 0, 0), (17, .getfield 10, 3, 1200, 1, 11, 362, 0, 21), (20, .invokevirtual 257, 3, 28, 1, 0, 857, 0, 14), (23, .ifCond .eq 6, 3, 29, 0, 0, 0, 0, 0), (26, .bipush (-3), 2, 0, 0, 0, 0, 0, 0), (28, .ireturn, 1, 0, 0, 0, 0, 0, 0), (29, .aload_n 0, 1, 0, 0, 0, 0, 0, 0), (30, .iload_n 1, 1, 0, 0, 0, 0, 0, 0), (31, .invokevirtual 166, 3, 167, 2, 1, 592, 0, 21), (34, .astore 4, 2, 0, 0, 0, 0, 0, 0), (36, .aload 4, 2, 0, 0, 0, 0, 0, 0), (38, .iload_n 2, 1, 0, 0, 0, 0, 0, 0), (39, .invokevirtual 260, 3, 75, 2, 0, 858, 0, 18), (42, .ifCond .ne 6, 3, 48, 0, 0, 0, 0, 0), (45, .bipush (-4), 2, 0, 0, 0, 0, 0, 0), (47, .ireturn, 1, 0, 0, 0, 0, 0, 0), (48, .aload_n 0, 1, 0, 0, 0, 0, 0, 0), (49, .aload_n 3, 1, 0, 0, 0, 0, 0, 0), (50, .aload 4, 2, 0, 0, 0, 0, 0, 0), (52, .getfield 263, 3, 2813, 0, 8, 197, 0, 18), (55, .aload 4, 2, 0, 0, 0, 0, 0, 0), (57, .getfield 266, 3, 2814, 0, 8, 199, 0, 18), (60, .invokevirtual 117, 3, 166, 4, 0, 482, 0, 21), (63, .ireturn, 1, 0, 0, 0, 0, 0, 0)]
set_option maxRecDepth 100000 in
theorem jk_X11_nthPart : ji_X11_nthPart.all (jck 147) = true := by decide +kernel
def ji_X11_unique : List JI := [(0, .aload_n 0, 1, 0, 0, 0, 0, 0, 0), (1, .getfield 10, 3, 1200, 1, 11, 362, 0, 21), (4, .iload_n 1, 1, 0, 0, 0, 0, 0, 0), (5, .invokevirtual 89, 3, 27, 2, 1, 429, 0, 14), (8, .astore_n 3, 1, 0, 0, 0, 0, 0, 0), (9, .aload_n 3, 1, 0, 0, 0, 0, 0, 0), (10, .ifnull 11, 3, 21, 0, 0, 0, 0, 0), (13, .aload_n 3, 1, 0, 0, 0, 0, 0, 0), (14, .iload_n 2, 1, 0, 0, 0, 0, 0, 0), (15, .invokevirtual 146, 3, 84, 2, 0, 531, 0, 19), (18, .ifCond .ne 6, 3, 24, 0, 0, 0, 0, 0), (21, .bipush (-2), 2, 0, 0, 0, 0, 0, 0), (23, .ireturn, 1, 0, 0, 0, 0, 0, 0), (24, .aload_n 0, 1, 0, 0, 0, 0, 0, 0), (25, .iload_n 1, 1, 0, 0, 0, 0, 0, 0), (26, .invokevirtual 166, 3, 167, 2, 1, 592, 0, 21), (29, .iload_n 2, 1, 0, 0, 0, 0, 0, 0), (30, .invokevirtual 269, 3, 76, 2, 0, 866, 0, 18), (33, .ireturn, 1, 0, 0, 0, 0, 0, 0)]
set_option maxRecDepth 100000 in
theorem jk_X11_unique : ji_X11_unique.all (jck 148) = true := by decide +kernel
def ji_X11_leastUnique : List JI := [(0, .aload_n 0, 1, 0, 0, 0, 0, 0, 0), (1, .getfield 10, 3, 1200, 1, 11, 362, 0, 21), (4, .iload_n 1, 1, 0, 0, 0, 0, 0, 0), (5, .invokevirtual 89, 3, 27, 2, 1, 429, 0, 14), (8, .ifnonnull 6, 3, 14, 0, 0, 0, 0, 0), (11, .bipush (-2), 2, 0, 0, 0, 0, 0, 0), (13, .ireturn, 1, 0, 0, 0, 0, 0, 0), (14, .aload_n 0, 1, 0, 0, 0, 0, 0, 0), (15, .iload_n 1, 1, 0, 0, 0, 0, 0, 0), (16, .invokevirtual 166, 3, 167, 2, 1, 592, 0, 21), (19, .invokevirtual 272, 3, 77, 1, 0, 878, 0, 18), (22, .ireturn, 1, 0, 0, 0, 0, 0, 0)]
set_option maxRecDepth 100000 in
theorem jk_X11_leastUnique : ji_X11_leastUnique.all (jck 149) = true := by decide +kernel
def ji_X11_absent : List JI := [(0, .aload_n 0, 1, 0, 0, 0, 0, 0, 0), (1, .getfield 10, 3, 1200, 1, 11, 362, 0, 21), (4, .iload_n 1, 1, 0, 0, 0, 0, 0, 0), (5, .invokevirtual 89, 3, 27, 2, 1, 429, 0, 14), (8, .astore_n 2, 1, 0, 0, 0, 0, 0, 0), (9, .aload_n 2, 1, 0, 0, 0, 0, 0, 0), (10, .ifnonnull 6, 3, 16, 0, 0, 0, 0, 0), (13, .bipush (-2), 2, 0, 0, 0, 0, 0, 0), (15, .ireturn, 1, 0, 0, 0, 0, 0, 0), (16, .aload_n 0, 1, 0, 0, 0, 0, 0, 0), (17, .getfield 10, 3, 1200, 1, 11, 362, 0, 21), (20, .invokevirtual 257, 3, 28, 1, 0, 857, 0, 14), (23, .ifCond .eq 6, 3, 29, 0, 0, 0, 0, 0), (26, .bipush (-3), 2, 0, 0, 0, 0, 0, 0), (28, .ireturn, 1, 0, 0, 0, 0, 0, 0), (29, .aload_n 2, 1, 0, 0, 0, 0, 0, 0), (30, .getfield 105, 3, 2901, 0, 9, 125, 0, 19), (33, .ifCond .ne 6, 3, 39, 0, 0, 0, 0, 0), (36, .bipush (-4), 2, 0, 0, 0, 0, 0, 0), (38, .ireturn, 1, 0, 0, 0, 0, 0, 0), (39, .aload_n 0, 1, 0, 0, 0, 0, 0, 0), (40, .getfield 28, 3, 1202, 1, 11, 364, 0, 21), (43, .aload_n 2, 1, 0, 0, 0, 0, 0, 0), (44, .invokevirtual 275, 3, 21, 2, 1, 887, 0, 13), (47, .astore_n 3, 1, 0, 0, 0, 0, 0, 0), (48, .aload_n 3, 1, 0, 0, 0, 0, 0, 0), (49, .ifnonnull 6, 3, 55, 0, 0, 0, 0, 0), (52, .bipush (-3), 2, 0, 0, 0, 0, 0, 0), (54, .ireturn, 1, 0, 0, 0, 0, 0, 0), (55, .aload_n 0, 1, 0, 0, 0, 0, 0, 0), (56, .aload_n 3, 1, 0, 0, 0, 0, 0, 0), (57, .iconst 0, 1, 0, 0, 0, 0, 0, 0), (58, .aload_n 3, 1, 0, 0, 0, 0, 0, 0), (59, .getfield 105, 3, 2901, 0, 9, 125, 0, 19), (62, .invokevirtual 117, 3, 166, 4, 0, 482, 0, 21), (65, .ireturn, 1, 0, 0, 0, 0, 0, 0)]
set_option maxRecDepth 100000 in
theorem jk_X11_absent : ji_X11_absent.all (jck 150) = true := by decide +kernel
def ji_X11_cover : List JI := [(0, .aload_n 0, 1, 0, 0, 0, 0, 0, 0), (1, .getfield 10, 3, 1200, 1, 11, 362, 0, 21), (4, .iload_n 1, 1, 0, 0, 0, 0, 0, 0), (5, .invokevirtual 89, 3, 27, 2, 1, 429, 0, 14), (8, .astore_n 2, 1, 0, 0, 0, 0, 0, 0), (9, .aload_n 2, 1, 0, 0, 0, 0, 0, 0), (10, .ifnonnull 6, 3, 16, 0, 0, 0, 0, 0), (13, .bipush (-2), 2, 0, 0, 0, 0, 0, 0), (15, .ireturn, 1, 0, 0, 0, 0, 0, 0), (16, .aload_n 0, 1, 0, 0, 0, 0, 0, 0), (17, .getfield 42, 3, 1204, 1, 11, 366, 0, 21), (20, .aload_n 2, 1, 0, 0, 0, 0, 0, 0), (21, .aload_n 0, 1, 0, 0, 0, 0, 0, 0), (22, .getfield 69, 3, 1208, 1, 11, 370, 0, 21), (25, .invokevirtual 279, 3, 13, 3, 0, 914, 0, 12), (28, .ifCond .eq 13, 3, 41, 0, 0, 0, 0, 0), (31, .aload_n 0, 1, 0, 0, 0, 0, 0, 0), (32, .getfield 69, 3, 1208, 1, 11, 370, 0, 21), (35, .getfield 193, 3, 3003, 0, 10, 319, 0, 20), (38, .goto 5, 3, 43, 0, 0, 0, 0, 0), (41, .bipush (-4), 2, 0, 0, 0, 0, 0, 0), (43, .ireturn, 1, 0, 0, 0, 0, 0, 0)]
set_option maxRecDepth 100000 in
theorem jk_X11_cover : ji_X11_cover.all (jck 151) = true := by decide +kernel
def ji_X11_word : List JI := [(0, .aload_n 0, 1, 0, 0, 0, 0, 0, 0), (1, .getfield 69, 3, 1208, 1, 11, 370, 0, 21), (4, .iload_n 1, 1, 0, 0, 0, 0, 0, 0), (5, .iconst 0, 1, 0, 0, 0, 0, 0, 0), (6, .invokevirtual 196, 3, 102, 3, 0, 723, 0, 20), (9, .ireturn, 1, 0, 0, 0, 0, 0, 0)]
set_option maxRecDepth 100000 in
theorem jk_X11_word : ji_X11_word.all (jck 152) = true := by decide +kernel
def ji_X11_distance : List JI := [(0, .aload_n 0, 1, 0, 0, 0, 0, 0, 0), (1, .getfield 10, 3, 1200, 1, 11, 362, 0, 21), (4, .iload_n 1, 1, 0, 0, 0, 0, 0, 0), (5, .invokevirtual 89, 3, 27, 2, 1, 429, 0, 14), (8, .astore_n 3, 1, 0, 0, 0, 0, 0, 0), (9, .aload_n 0, 1, 0, 0, 0, 0, 0, 0), (10, .getfield 10, 3, 1200, 1, 11, 362, 0, 21), (13, .iload_n 2, 1, 0, 0, 0, 0, 0, 0), (14, .invokevirtual 89, 3, 27, 2, 1, 429, 0, 14), (17, .astore 4, 2, 0, 0, 0, 0, 0, 0), (19, .aload_n 3, 1, 0, 0, 0, 0, 0, 0), (20, .ifnull 8, 3, 28, 0, 0, 0, 0, 0), (23, .aload 4, 2, 0, 0, 0, 0, 0, 0), (25, .ifnonnull 6, 3, 31, 0, 0, 0, 0, 0), (28, .bipush (-2), 2, 0, 0, 0, 0, 0, 0), (30, .ireturn, 1, 0, 0, 0, 0, 0, 0), (31, .aload_n 0, 1, 0, 0, 0, 0, 0, 0), (32, .invokevirtual 283, 3, 168, 1, 1, 934, 1, 21), (35, .aload_n 3, 1, 0, 0, 0, 0, 0, 0), (36, .aload 4, 2, 0, 0, 0, 0, 0, 0), (38, .aload_n 0, 1, 0, 0, 0, 0, 0, 0), (39, .getfield 75, 3, 1210, 1, 11, 372, 0, 21), (42, .invokevirtual 287, 3, 49, 4, 3, 949, 0, 17), (45, .aload_n 0, 1, 0, 0, 0, 0, 0, 0), (46, .getfield 75, 3, 1210, 1, 11, 372, 0, 21), (49, .getfield 193, 3, 3003, 0, 10, 319, 0, 20), (52, .ireturn, 1, 0, 0, 0, 0, 0, 0)]
set_option maxRecDepth 100000 in
theorem jk_X11_distance : ji_X11_distance.all (jck 153) = true := by decide +kernel
def ji_X11_script : List JI := [(0, .aload_n 0, 1, 0, 0, 0, 0, 0, 0), (1, .getfield 75, 3, 1210, 1, 11, 372, 0, 21), (4, .iload_n 1, 1, 0, 0, 0, 0, 0, 0), (5, .iload_n 2, 1, 0, 0, 0, 0, 0, 0), (6, .invokevirtual 196, 3, 102, 3, 0, 723, 0, 20), (9, .ireturn, 1, 0, 0, 0, 0, 0, 0)]
set_option maxRecDepth 100000 in
theorem jk_X11_script : ji_X11_script.all (jck 154) = true := by decide +kernel
def ji_X11_subsequence : List JI := [(0, .aload_n 0, 1, 0, 0, 0, 0, 0, 0), (1, .getfield 10, 3, 1200, 1, 11, 362, 0, 21), (4, .iload_n 1, 1, 0, 0, 0, 0, 0, 0), (5, .invokevirtual 89, 3, 27, 2, 1, 429, 0, 14), (8, .astore_n 3, 1, 0, 0, 0, 0, 0, 0), (9, .aload_n 0, 1, 0, 0, 0, 0, 0, 0), (10, .getfield 10, 3, 1200, 1, 11, 362, 0, 21), (13, .iload_n 2, 1, 0, 0, 0, 0, 0, 0), (14, .invokevirtual 89, 3, 27, 2, 1, 429, 0, 14), (17, .astore 4, 2, 0, 0, 0, 0, 0, 0), (19, .aload_n 3, 1, 0, 0, 0, 0, 0, 0), (20, .ifnull 8, 3, 28, 0, 0, 0, 0, 0), (23, .aload 4, 2, 0, 0, 0, 0, 0, 0), (25, .ifnonnull 6, 3, 31, 0, 0, 0, 0, 0), (28, .bipush (-2), 2, 0, 0, 0, 0, 0, 0), (30, .ireturn, 1, 0, 0, 0, 0, 0, 0), (31, .aload_n 0, 1, 0, 0, 0, 0, 0, 0), (32, .invokevirtual 283, 3, 168, 1, 1, 934, 1, 21), (35, .aload_n 3, 1, 0, 0, 0, 0, 0, 0), (36, .aload 4, 2, 0, 0, 0, 0, 0, 0), (38, .aload_n 0, 1, 0, 0, 0, 0, 0, 0), (39, .getfield 78, 3, 1211, 1, 11, 373, 0, 21), (42, .invokevirtual 293, 3, 54, 4, 3, 978, 0, 17), (45, .aload_n 0, 1, 0, 0, 0, 0, 0, 0), (46, .getfield 78, 3, 1211, 1, 11, 373, 0, 21), (49, .getfield 193, 3, 3003, 0, 10, 319, 0, 20), (52, .ireturn, 1, 0, 0, 0, 0, 0, 0)]
set_option maxRecDepth 100000 in
theorem jk_X11_subsequence : ji_X11_subsequence.all (jck 155) = true := by decide +kernel
def ji_X11_pair : List JI := [(0, .aload_n 0, 1, 0, 0, 0, 0, 0, 0), (1, .getfield 78, 3, 1211, 1, 11, 373, 0, 21), (4, .iload_n 1, 1, 0, 0, 0, 0, 0, 0), (5, .iload_n 2, 1, 0, 0, 0, 0, 0, 0), (6, .invokevirtual 196, 3, 102, 3, 0, 723, 0, 20), (9, .ireturn, 1, 0, 0, 0, 0, 0, 0)]
set_option maxRecDepth 100000 in
theorem jk_X11_pair : ji_X11_pair.all (jck 156) = true := by decide +kernel
def ji_X11_squeeze : List JI := [(0, .aload_n 0, 1, 0, 0, 0, 0, 0, 0), (1, .getfield 10, 3, 1200, 1, 11, 362, 0, 21), (4, .iload_n 1, 1, 0, 0, 0, 0, 0, 0), (5, .invokevirtual 89, 3, 27, 2, 1, 429, 0, 14), (8, .astore_n 3, 1, 0, 0, 0, 0, 0, 0), (9, .aload_n 3, 1, 0, 0, 0, 0, 0, 0), (10, .ifnull 12, 3, 22, 0, 0, 0, 0, 0), (13, .iload_n 2, 1, 0, 0, 0, 0, 0, 0), (14, .ifCond .lt 8, 3, 22, 0, 0, 0, 0, 0), (17, .iload_n 2, 1, 0, 0, 0, 0, 0, 0), (18, .iconst 1, 1, 0, 0, 0, 0, 0, 0), (19, .if_icmp .le 6, 3, 25, 0, 0, 0, 0, 0), (22, .bipush (-2), 2, 0, 0, 0, 0, 0, 0), (24, .ireturn, 1, 0, 0, 0, 0, 0, 0), (25, .aload_n 0, 1, 0, 0, 0, 0, 0, 0), (26, .getfield 49, 3, 1205, 1, 11, 367, 0, 21), (29, .aload_n 3, 1, 0, 0, 0, 0, 0, 0), (30, .iload_n 2, 1, 0, 0, 0, 0, 0, 0), (31, .invokevirtual 296, 3, 41, 3, 3, 999, 0, 16), (34, .aload_n 0, 1, 0, 0, 0, 0, 0, 0), (35, .getfield 49, 3, 1205, 1, 11, 367, 0, 21), (38, .getfield 300, 3, 700, 1, 6, 330, 0, 16), (41, .getfield 193, 3, 3003, 0, 10, 319, 0, 20), (44, .ireturn, 1, 0, 0, 0, 0, 0, 0)]
set_option maxRecDepth 100000 in
theorem jk_X11_squeeze : ji_X11_squeeze.all (jck 157) = true := by decide +kernel
def ji_X11_squeezed : List JI := [(0, .aload_n 0, 1, 0, 0, 0, 0, 0, 0), (1, .getfield 49, 3, 1205, 1, 11, 367, 0, 21), (4, .getfield 300, 3, 700, 1, 6, 330, 0, 16), (7, .iload_n 1, 1, 0, 0, 0, 0, 0, 0), (8, .iload_n 2, 1, 0, 0, 0, 0, 0, 0), (9, .invokevirtual 196, 3, 102, 3, 0, 723, 0, 20), (12, .ireturn, 1, 0, 0, 0, 0, 0, 0)]
set_option maxRecDepth 100000 in
theorem jk_X11_squeezed : ji_X11_squeezed.all (jck 158) = true := by decide +kernel
def ji_X11_expand : List JI := [(0, .aload_n 0, 1, 0, 0, 0, 0, 0, 0), (1, .getfield 10, 3, 1200, 1, 11, 362, 0, 21), (4, .invokevirtual 257, 3, 28, 1, 0, 857, 0, 14), (7, .ifCond .eq 6, 3, 13, 0, 0, 0, 0, 0), (10, .bipush (-3), 2, 0, 0, 0, 0, 0, 0), (12, .ireturn, 1, 0, 0, 0, 0, 0, 0), (13, .aload_n 0, 1, 0, 0, 0, 0, 0, 0), (14, .getfield 49, 3, 1205, 1, 11, 367, 0, 21), (17, .getfield 303, 3, 2603, 0, 6, 334, 0, 16), (20, .iconst (-1), 1, 0, 0, 0, 0, 0, 0), (21, .if_icmp .ne 6, 3, 27, 0, 0, 0, 0, 0), (24, .bipush (-4), 2, 0, 0, 0, 0, 0, 0), (26, .ireturn, 1, 0, 0, 0, 0, 0, 0), (27, .aload_n 0, 1, 0, 0, 0, 0, 0, 0), (28, .getfield 10, 3, 1200, 1, 11, 362, 0, 21), (31, .invokevirtual 81, 3, 30, 1, 1, 409, 0, 14), (34, .astore_n 1, 1, 0, 0, 0, 0, 0, 0), (35, .aload_n 1, 1, 0, 0, 0, 0, 0, 0), (36, .ifnonnull 6, 3, 42, 0, 0, 0, 0, 0), (39, .bipush (-3), 2, 0, 0, 0, 0, 0, 0), (41, .ireturn, 1, 0, 0, 0, 0, 0, 0), (42, .aload_n 0, 1, 0, 0, 0, 0, 0, 0), (43, .getfield 49, 3, 1205, 1, 11, 367, 0, 21), (46, .aload_n 1, 1, 0, 0, 0, 0, 0, 0), (47, .invokevirtual 306, 3, 45, 2, 3, 1025, 0, 16), (50, .aload_n 0, 1, 0, 0, 0, 0, 0, 0), (51, .getfield 10, 3, 1200, 1, 11, 362, 0, 21), (54, .invokevirtual 85, 3, 29, 1, 0, 421, 0, 14), (57, .ireturn, 1, 0, 0, 0, 0, 0, 0)]
set_option maxRecDepth 100000 in
theorem jk_X11_expand : ji_X11_expand.all (jck 159) = true := by decide +kernel
def ji_X11_sort : List JI := [(0, .aload_n 0, 1, 0, 0, 0, 0, 0, 0), (1, .getfield 10, 3, 1200, 1, 11, 362, 0, 21), (4, .iload_n 1, 1, 0, 0, 0, 0, 0, 0), (5, .invokevirtual 89, 3, 27, 2, 1, 429, 0, 14), (8, .astore_n 2, 1, 0, 0, 0, 0, 0, 0), (9, .aload_n 2, 1, 0, 0, 0, 0, 0, 0), (10, .ifnonnull 6, 3, 16, 0, 0, 0, 0, 0), (13, .bipush (-2), 2, 0, 0, 0, 0, 0, 0), (15, .ireturn, 1, 0, 0, 0, 0, 0, 0), (16, .aload_n 0, 1, 0, 0, 0, 0, 0, 0), (17, .getfield 56, 3, 1206, 1, 11, 368, 0, 21), (20, .aload_n 2, 1, 0, 0, 0, 0, 0, 0), (21, .aload_n 0, 1, 0, 0, 0, 0, 0, 0), (22, .iload_n 1, 1, 0, 0, 0, 0, 0, 0), (23, .invokevirtual 166, 3, 167, 2, 1, 592, 0, 21), (26, .invokevirtual 310, 3, 36, 3, 0, 1045, 0, 15), (29, .ireturn, 1, 0, 0, 0, 0, 0, 0)]
set_option maxRecDepth 100000 in
theorem jk_X11_sort : ji_X11_sort.all (jck 160) = true := by decide +kernel
def ji_X11_sorted : List JI := [(0, .aload_n 0, 1, 0, 0, 0, 0, 0, 0), (1, .getfield 56, 3, 1206, 1, 11, 368, 0, 21), (4, .getfield 314, 3, 600, 1, 5, 353, 0, 15), (7, .getfield 193, 3, 3003, 0, 10, 319, 0, 20), (10, .istore_n 2, 1, 0, 0, 0, 0, 0, 0), (11, .iload_n 1, 1, 0, 0, 0, 0, 0, 0), (12, .ifCond .lt 8, 3, 20, 0, 0, 0, 0, 0), (15, .iload_n 1, 1, 0, 0, 0, 0, 0, 0), (16, .iload_n 2, 1, 0, 0, 0, 0, 0, 0), (17, .if_icmp .lt 8, 3, 25, 0, 0, 0, 0, 0), (20, .bipush (-2), 2, 0, 0, 0, 0, 0, 0), (22, .goto 15, 3, 37, 0, 0, 0, 0, 0), (25, .aload_n 0, 1, 0, 0, 0, 0, 0, 0), (26, .getfield 56, 3, 1206, 1, 11, 368, 0, 21), (29, .getfield 314, 3, 600, 1, 5, 353, 0, 15), (32, .iload_n 1, 1, 0, 0, 0, 0, 0, 0), (33, .iconst 0, 1, 0, 0, 0, 0, 0, 0), (34, .invokevirtual 196, 3, 102, 3, 0, 723, 0, 20), (37, .ireturn, 1, 0, 0, 0, 0, 0, 0)]
set_option maxRecDepth 100000 in
theorem jk_X11_sorted : ji_X11_sorted.all (jck 161) = true := by decide +kernel
def ji_X11_unsort : List JI := [(0, .aload_n 0, 1, 0, 0, 0, 0, 0, 0), (1, .getfield 10, 3, 1200, 1, 11, 362, 0, 21), (4, .invokevirtual 257, 3, 28, 1, 0, 857, 0, 14), (7, .ifCond .eq 6, 3, 13, 0, 0, 0, 0, 0), (10, .bipush (-3), 2, 0, 0, 0, 0, 0, 0), (12, .ireturn, 1, 0, 0, 0, 0, 0, 0), (13, .aload_n 0, 1, 0, 0, 0, 0, 0, 0), (14, .getfield 56, 3, 1206, 1, 11, 368, 0, 21), (17, .getfield 314, 3, 600, 1, 5, 353, 0, 15), (20, .getfield 193, 3, 3003, 0, 10, 319, 0, 20), (23, .ifCond .ne 6, 3, 29, 0, 0, 0, 0, 0), (26, .bipush (-4), 2, 0, 0, 0, 0, 0, 0), (28, .ireturn, 1, 0, 0, 0, 0, 0, 0), (29, .aload_n 0, 1, 0, 0, 0, 0, 0, 0), (30, .getfield 10, 3, 1200, 1, 11, 362, 0, 21), (33, .invokevirtual 81, 3, 30, 1, 1, 409, 0, 14), (36, .astore_n 1, 1, 0, 0, 0, 0, 0, 0), (37, .aload_n 1, 1, 0, 0, 0, 0, 0, 0), (38, .ifnonnull 6, 3, 44, 0, 0, 0, 0, 0), (41, .bipush (-3), 2, 0, 0, 0, 0, 0, 0), (43, .ireturn, 1, 0, 0, 0, 0, 0, 0), (44, .aload_n 0, 1, 0, 0, 0, 0, 0, 0), (45, .getfield 56, 3, 1206, 1, 11, 368, 0, 21), (48, .aload_n 1, 1, 0, 0, 0, 0, 0, 0), (49, .invokevirtual 317, 3, 38, 2, 3, 1066, 0, 15), (52, .aload_n 0, 1, 0, 0, 0, 0, 0, 0), (53, .getfield 10, 3, 1200, 1, 11, 362, 0, 21), (56, .invokevirtual 85, 3, 29, 1, 0, 421, 0, 14), (59, .ireturn, 1, 0, 0, 0, 0, 0, 0)]
set_option maxRecDepth 100000 in
theorem jk_X11_unsort : ji_X11_unsort.all (jck 162) = true := by decide +kernel
def ji_X11_count : List JI := [(0, .iload_n 1, 1, 0, 0, 0, 0, 0, 0), (1, .tableswitch 63 0 3 #[31, 39, 47, 55], 31, 64, 0, 0, 0, 0, 0), (32, .aload_n 0, 1, 0, 0, 0, 0, 0, 0), (33, .getfield 10, 3, 1200, 1, 11, 362, 0, 21), (36, .getfield 213, 3, 2402, 0, 4, 157, 0, 14), (39, .ireturn, 1, 0, 0, 0, 0, 0, 0), (40, .aload_n 0, 1, 0, 0, 0, 0, 0, 0), (41, .getfield 42, 3, 1204, 1, 11, 366, 0, 21), (44, .getfield 320, 3, 2202, 0, 2, 291, 0, 12), (47, .ireturn, 1, 0, 0, 0, 0, 0, 0), (48, .aload_n 0, 1, 0, 0, 0, 0, 0, 0), (49, .getfield 10, 3, 1200, 1, 11, 362, 0, 21), (52, .getfield 323, 3, 2404, 0, 4, 160, 0, 14), (55, .ireturn, 1, 0, 0, 0, 0, 0, 0), (56, .aload_n 0, 1, 0, 0, 0, 0, 0, 0), (57, .getfield 10, 3, 1200, 1, 11, 362, 0, 21), (60, .invokevirtual 326, 3, 34, 1, 0, 1080, 0, 14), (63, .ireturn, 1, 0, 0, 0, 0, 0, 0), (64, .bipush (-2), 2, 0, 0, 0, 0, 0, 0), (66, .ireturn, 1, 0, 0, 0, 0, 0, 0)]
set_option maxRecDepth 100000 in
theorem jk_X11_count : ji_X11_count.all (jck 163) = true := by decide +kernel
def ji_X11_forget : List JI := [(0, .aload_n 0, 1, 0, 0, 0, 0, 0, 0), (1, .getfield 42, 3, 1204, 1, 11, 366, 0, 21), (4, .getfield 320, 3, 2202, 0, 2, 291, 0, 12), (7, .istore_n 1, 1, 0, 0, 0, 0, 0, 0), (8, .aload_n 0, 1, 0, 0, 0, 0, 0, 0), (9, .getfield 42, 3, 1204, 1, 11, 366, 0, 21), (12, .iconst 0, 1, 0, 0, 0, 0, 0, 0), (13, .putfield 320, 3, 2202, 0, 2, 291, 0, 12), (16, .iload_n 1, 1, 0, 0, 0, 0, 0, 0), (17, .ireturn, 1, 0, 0, 0, 0, 0, 0)]
set_option maxRecDepth 100000 in
theorem jk_X11_forget : ji_X11_forget.all (jck 164) = true := by decide +kernel
def ji_X11_isUnit : List JI := [(0, .iload_n 0, 1, 0, 0, 0, 0, 0, 0), (1, .ifCond .lt 13, 3, 14, 0, 0, 0, 0, 0), (4, .iload_n 0, 1, 0, 0, 0, 0, 0, 0), (5, .ldc 101, 2, 0, 0, 0, 458, 0, 65535), (7, .if_icmp .gt 7, 3, 14, 0, 0, 0, 0, 0), (10, .iconst 1, 1, 0, 0, 0, 0, 0, 0), (11, .goto 4, 3, 15, 0, 0, 0, 0, 0), (14, .iconst 0, 1, 0, 0, 0, 0, 0, 0), (15, .ireturn, 1, 0, 5, 0, 0, 0, 0)]
set_option maxRecDepth 100000 in
theorem jk_X11_isUnit : ji_X11_isUnit.all (jck 165) = true := by decide +kernel
def ji_X11_makePart : List JI := [(0, .aload_n 0, 1, 0, 0, 0, 0, 0, 0), (1, .getfield 10, 3, 1200, 1, 11, 362, 0, 21), (4, .invokevirtual 81, 3, 30, 1, 1, 409, 0, 14), (7, .astore 4, 2, 0, 0, 0, 0, 0, 0), (9, .aload 4, 2, 0, 0, 0, 0, 0, 0), (11, .ifnonnull 6, 3, 17, 0, 0, 0, 0, 0), (14, .bipush (-3), 2, 0, 0, 0, 0, 0, 0), (16, .ireturn, 1, 0, 0, 0, 0, 0, 0), (17, .aload 4, 2, 0, 0, 0, 0, 0, 0), (19, .aload_n 1, 1, 0, 0, 0, 0, 0, 0), (20, .iload_n 2, 1, 0, 0, 0, 0, 0, 0), (21, .iload_n 3, 1, 0, 0, 0, 0, 0, 0), (22, .invokevirtual 121, 3, 90, 4, 3, 486, 0, 19), (25, .aload_n 0, 1, 0, 0, 0, 0, 0, 0), (26, .getfield 10, 3, 1200, 1, 11, 362, 0, 21), (29, .invokevirtual 85, 3, 29, 1, 0, 421, 0, 14), (32, .ireturn, 1, 0, 0, 0, 0, 0, 0)]
set_option maxRecDepth 100000 in
theorem jk_X11_makePart : ji_X11_makePart.all (jck 166) = true := by decide +kernel
def ji_X11_suffixesOf : List JI := [(0, .aload_n 0, 1, 0, 0, 0, 0, 0, 0), (1, .getfield 21, 3, 1201, 1, 11, 363, 0, 21), (4, .aload_n 0, 1, 0, 0, 0, 0, 0, 0), (5, .getfield 10, 3, 1200, 1, 11, 362, 0, 21), (8, .iload_n 1, 1, 0, 0, 0, 0, 0, 0), (9, .invokevirtual 329, 3, 58, 3, 3, 596, 0, 18), (12, .aload_n 0, 1, 0, 0, 0, 0, 0, 0), (13, .getfield 21, 3, 1201, 1, 11, 363, 0, 21), (16, .areturn, 1, 0, 0, 0, 0, 0, 0)]
set_option maxRecDepth 100000 in
theorem jk_X11_suffixesOf : ji_X11_suffixesOf.all (jck 167) = true := by decide +kernel
def ji_X11_stepsAtHand : List JI := [(0, .aload_n 0, 1, 0, 0, 0, 0, 0, 0), (1, .getfield 333, 3, 1213, 1, 11, 375, 0, 21), (4, .ifnonnull 14, 3, 18, 0, 0, 0, 0, 0), (7, .aload_n 0, 1, 0, 0, 0, 0, 0, 0), (8, .new 288, 3, 83, 1, 7, 938, 939, 17), (11, .dup, 1, 0, 0, 0, 0, 0, 0), (12, .invokespecial 337, 3, 48, 1, 3, 940, 0, 0), (15, .putfield 333, 3, 1213, 1, 11, 375, 0, 21), (18, .aload_n 0, 1, 0, 0, 0, 0, 0, 0), (19, .getfield 333, 3, 1213, 1, 11, 375, 0, 21), (22, .areturn, 1, 0, 0, 0, 0, 0, 0)]
set_option maxRecDepth 100000 in
theorem jk_X11_stepsAtHand : ji_X11_stepsAtHand.all (jck 168) = true := by decide +kernel
def ji_X12_init : List JI := [(0, .aload_n 0, 1, 0, 0, 0, 0, 0, 0), (1, .invokespecial 1, 3, 1000, 1, 0, 1093, 0, 0), (4, .aload_n 0, 1, 0, 0, 0, 0, 0, 0), (5, .bipush 40, 2, 0, 0, 0, 0, 0, 0), (7, .newarray .int, 2, 0, 0, 0, 133, 0, 1), (9, .putfield 7, 3, 1301, 1, 12, 1098, 0, 22), (12, .aload_n 0, 1, 0, 0, 0, 0, 0, 0), (13, .sipush 9600, 3, 0, 0, 0, 0, 0, 0), (16, .newarray .int, 2, 0, 0, 0, 133, 0, 1), (18, .putfield 13, 3, 1302, 1, 12, 1099, 0, 22), (21, .aload_n 0, 1, 0, 0, 0, 0, 0, 0), (22, .bipush 20, 2, 0, 0, 0, 0, 0, 0), (24, .newarray .int, 2, 0, 0, 0, 133, 0, 1), (26, .putfield 16, 3, 1304, 1, 12, 1101, 0, 22), (29, .aload_n 0, 1, 0, 0, 0, 0, 0, 0), (30, .bipush 20, 2, 0, 0, 0, 0, 0, 0), (32, .newarray .boolean, 2, 0, 0, 0, 1254, 0, 2), (34, .putfield 19, 3, 1305, 1, 12, 1102, 0, 22), (37, .aload_n 0, 1, 0, 0, 0, 0, 0, 0), (38, .bipush 20, 2, 0, 0, 0, 0, 0, 0), (40, .newarray .int, 2, 0, 0, 0, 133, 0, 1), (42, .putfield 23, 3, 1306, 1, 12, 1103, 0, 22), (45, .aload_n 0, 1, 0, 0, 0, 0, 0, 0), (46, .sipush 4800, 3, 0, 0, 0, 0, 0, 0), (49, .newarray .int, 2, 0, 0, 0, 133, 0, 1), (51, .putfield 26, 3, 1307, 1, 12, 1104, 0, 22), (54, .aload_n 0, 1, 0, 0, 0, 0, 0, 0), (55, .ldc 29, 2, 0, 0, 0, 1094, 0, 58081), (57, .newarray .int, 2, 0, 0, 0, 133, 0, 1), (59, .putfield 30, 3, 1308, 1, 12, 1105, 0, 22), (62, .aload_n 0, 1, 0, 0, 0, 0, 0, 0), (63, .sipush 241, 3, 0, 0, 0, 0, 0, 0), (66, .newarray .int, 2, 0, 0, 0, 133, 0, 1), (68, .putfield 33, 3, 1309, 1, 12, 1106, 0, 22), (71, .aload_n 0, 1, 0, 0, 0, 0, 0, 0), (72, .bipush 16, 2, 0, 0, 0, 0, 0, 0), (74, .newarray .int, 2, 0, 0, 0, 133, 0, 1), (76, .putfield 36, 3, 1311, 1, 12, 1108, 0, 22), (79, .aload_n 0, 1, 0, 0, 0, 0, 0, 0), (80, .sipush 640, 3, 0, 0, 0, 0, 0, 0), (83, .newarray .int, 2, 0, 0, 0, 133, 0, 1), (85, .putfield 39, 3, 1312, 1, 12, 1109, 0, 22), (88, .aload_n 0, 1, 0, 0, 0, 0, 0, 0), (89, .sipush 3840, 3, 0, 0, 0, 0, 0, 0), (92, .newarray .int, 2, 0, 0, 0, 133, 0, 1), (94, .putfield 42, 3, 1314, 1, 12, 1111, 0, 22), (97, .aload_n 0, 1, 0, 0, 0, 0, 0, 0), (98, .sipush 3840, 3, 0, 0, 0, 0, 0, 0), (101, .newarray .int, 2, 0, 0, 0, 133, 0, 1), (103, .putfield 45, 3, 1315, 1, 12, 1112, 0, 22), (106, .aload_n 0, 1, 0, 0, 0, 0, 0, 0), (107, .sipush 240, 3, 0, 0, 0, 0, 0, 0), (110, .newarray .int, 2, 0, 0, 0, 133, 0, 1), (112, .putfield 48, 3, 1317, 1, 12, 1114, 0, 22), (115, .aload_n 0, 1, 0, 0, 0, 0, 0, 0), (116, .sipush 241, 3, 0, 0, 0, 0, 0, 0), (119, .newarray .int, 2, 0, 0, 0, 133, 0, 1), (121, .putfield 51, 3, 1318, 1, 12, 1115, 0, 22), (124, .aload_n 0, 1, 0, 0, 0, 0, 0, 0), (125, .sipush 9600, 3, 0, 0, 0, 0, 0, 0), (128, .newarray .int, 2, 0, 0, 0, 133, 0, 1), (130, .putfield 54, 3, 1320, 1, 12, 1117, 0, 22), (133, .aload_n 0, 1, 0, 0, 0, 0, 0, 0), (134, .sipush 9600, 3, 0, 0, 0, 0, 0, 0), (137, .newarray .int, 2, 0, 0, 0, 133, 0, 1), (139, .putfield 57, 3, 1321, 1, 12, 1118, 0, 22), (142, .aload_n 0, 1, 0, 0, 0, 0, 0, 0), (143, .ldc 60, 2, 0, 0, 0, 1095, 0, 76800), (145, .newarray .int, 2, 0, 0, 0, 133, 0, 1), (147, .putfield 61, 3, 1322, 1, 12, 1119, 0, 22), (150, .aload_n 0, 1, 0, 0, 0, 0, 0, 0), (151, .sipush 9600, 3, 0, 0, 0, 0, 0, 0), (154, .newarray .int, 2, 0, 0, 0, 133, 0, 1), (156, .putfield 64, 3, 1323, 1, 12, 1120, 0, 22), (159, .aload_n 0, 1, 0, 0, 0, 0, 0, 0), (160, .sipush 9600, 3, 0, 0, 0, 0, 0, 0), (163, .newarray .int, 2, 0, 0, 0, 133, 0, 1), (165, .putfield 67, 3, 1324, 1, 12, 1121, 0, 22), (168, .aload_n 0, 1, 0, 0, 0, 0, 0, 0), (169, .sipush 9600, 3, 0, 0, 0, 0, 0, 0), (172, .newarray .int, 2, 0, 0, 0, 133, 0, 1), (174, .putfield 70, 3, 1325, 1, 12, 1122, 0, 22), (177, .aload_n 0, 1, 0, 0, 0, 0, 0, 0), (178, .ldc 73, 2, 0, 0, 0, 1096, 0, 65537), (180, .newarray .int, 2, 0, 0, 0, 133, 0, 1), (182, .putfield 74, 3, 1326, 1, 12, 1123, 0, 22), (185, .aload_n 0, 1, 0, 0, 0, 0, 0, 0), (186, .sipush 600, 3, 0, 0, 0, 0, 0, 0), (189, .newarray .int, 2, 0, 0, 0, 133, 0, 1), (191, .putfield 77, 3, 1328, 1, 12, 1125, 0, 22), (194, .aload_n 0, 1, 0, 0, 0, 0, 0, 0), (195, .sipush 600, 3, 0, 0, 0, 0, 0, 0), (198, .newarray .int, 2, 0, 0, 0, 133, 0, 1), (200, .putfield 80, 3, 1329, 1, 12, 1126, 0, 22), (203, .aload_n 0, 1, 0, 0, 0, 0, 0, 0), (204, .sipush 600, 3, 0, 0, 0, 0, 0, 0), (207, .newarray .int, 2, 0, 0, 0, 133, 0, 1), (209, .putfield 83, 3, 1330, 1, 12, 1127, 0, 22), (212, .aload_n 0, 1, 0, 0, 0, 0, 0, 0), (213, .sipush 240, 3, 0, 0, 0, 0, 0, 0), (216, .newarray .int, 2, 0, 0, 0, 133, 0, 1), (218, .putfield 86, 3, 1332, 1, 12, 1129, 0, 22), (221, .aload_n 0, 1, 0, 0, 0, 0, 0, 0), (222, .sipush 241, 3, 0, 0, 0, 0, 0, 0), (225, .newarray .int, 2, 0, 0, 0, 133, 0, 1), (227, .putfield 89, 3, 1333, 1, 12, 1130, 0, 22), (230, .aload_n 0, 1, 0, 0, 0, 0, 0, 0), (231, .ldc 29, 2, 0, 0, 0, 1094, 0, 58081), (233, .newarray .int, 2, 0, 0, 0, 133, 0, 1), (235, .putfield 92, 3, 1334, 1, 12, 1131, 0, 22), (238, .aload_n 0, 1, 0, 0, 0, 0, 0, 0), (239, .sipush 480, 3, 0, 0, 0, 0, 0, 0), (242, .newarray .int, 2, 0, 0, 0, 133, 0, 1), (244, .putfield 95, 3, 1336, 1, 12, 1133, 0, 22), (247, .aload_n 0, 1, 0, 0, 0, 0, 0, 0), (248, .sipush 480, 3, 0, 0, 0, 0, 0, 0), (251, .newarray .int, 2, 0, 0, 0, 133, 0, 1), (253, .putfield 98, 3, 1337, 1, 12, 1134, 0, 22), (256, .aload_n 0, 1, 0, 0, 0, 0, 0, 0), (257, .sipush 480, 3, 0, 0, 0, 0, 0, 0), (260, .newarray .int, 2, 0, 0, 0, 133, 0, 1), (262, .putfield 101, 3, 1338, 1, 12, 1135, 0, 22), (265, .aload_n 0, 1, 0, 0, 0, 0, 0, 0), (266, .sipush 240, 3, 0, 0, 0, 0, 0, 0), (269, .newarray .int, 2, 0, 0, 0, 133, 0, 1), (271, .putfield 104, 3, 1340, 1, 12, 1137, 0, 22), (274, .aload_n 0, 1, 0, 0, 0, 0, 0, 0), (275, .sipush 240, 3, 0, 0, 0, 0, 0, 0), (278, .newarray .int, 2, 0, 0, 0, 133, 0, 1), (280, .putfield 107, 3, 1341, 1, 12, 1138, 0, 22), (283, .aload_n 0, 1, 0, 0, 0, 0, 0, 0), (284, .iconst (-1), 1, 0, 0, 0, 0, 0, 0), (285, .putfield 110, 3, 3243, 0, 12, 1140, 0, 22), (288, .aload_n 0, 1, 0, 0, 0, 0, 0, 0), (289, .sipush 240, 3, 0, 0, 0, 0, 0, 0), (292, .newarray .int, 2, 0, 0, 0, 133, 0, 1), (294, .putfield 114, 3, 1344, 1, 12, 1141, 0, 22), (297, .aload_n 0, 1, 0, 0, 0, 0, 0, 0), (298, .sipush 240, 3, 0, 0, 0, 0, 0, 0), (301, .newarray .int, 2, 0, 0, 0, 133, 0, 1), (303, .putfield 117, 3, 1345, 1, 12, 1142, 0, 22), (306, .aload_n 0, 1, 0, 0, 0, 0, 0, 0), (307, .sipush 240, 3, 0, 0, 0, 0, 0, 0), (310, .newarray .int, 2, 0, 0, 0, 133, 0, 1), (312, .putfield 120, 3, 1346, 1, 12, 1143, 0, 22), (315, .aload_n 0, 1, 0, 0, 0, 0, 0, 0), (316, .sipush 241, 3, 0, 0, 0, 0, 0, 0), (319, .newarray .int, 2, 0, 0, 0, 133, 0, 1), (321, .putfield 123, 3, 1347, 1, 12, 1144, 0, 22), (324, .aload_n 0, 1, 0, 0, 0, 0, 0, 0), (325, .sipush 241, 3, 0, 0, 0, 0, 0, 0), (328, .newarray .int, 2, 0, 0, 0, 133, 0, 1), (330, .putfield 126, 3, 1348, 1, 12, 1145, 0, 22), (333, .aload_n 0, 1, 0, 0, 0, 0, 0, 0), (334, .sipush 241, 3, 0, 0, 0, 0, 0, 0), (337, .newarray .int, 2, 0, 0, 0, 133, 0, 1), (339, .putfield 129, 3, 1350, 1, 12, 1147, 0, 22), (342, .aload_n 0, 1, 0, 0, 0, 0, 0, 0), (343, .sipush 241, 3, 0, 0, 0, 0, 0, 0), (346, .newarray .int, 2, 0, 0, 0, 133, 0, 1), (348, .putfield 132, 3, 1351, 1, 12, 1148, 0, 22), (351, .return_, 1, 0, 0, 0, 0, 0, 0)]
set_option maxRecDepth 100000 in
theorem jk_X12_init : ji_X12_init.all (jck 169) = true := by decide +kernel
def ji_X12_in : List JI := [(0, .lload_n 0, 1, 0, 0, 0, 0, 0, 0), (1, .lload_n 2, 1, 0, 0, 0, 0, 0, 0), (2, .lcmp, 1, 0, 0, 0, 0, 0, 0), (3, .ifCond .lt 14, 3, 17, 0, 0, 0, 0, 0), (6, .lload_n 0, 1, 0, 0, 0, 0, 0, 0), (7, .lload 4, 2, 0, 0, 0, 0, 0, 0), (9, .lcmp, 1, 0, 0, 0, 0, 0, 0), (10, .ifCond .gt 7, 3, 17, 0, 0, 0, 0, 0), (13, .iconst 1, 1, 0, 0, 0, 0, 0, 0), (14, .goto 4, 3, 18, 0, 0, 0, 0, 0), (17, .iconst 0, 1, 0, 0, 0, 0, 0, 0), (18, .ireturn, 1, 0, 5, 0, 0, 0, 0)]
set_option maxRecDepth 100000 in
theorem jk_X12_in : ji_X12_in.all (jck 170) = true := by decide +kernel
def ji_X12_isText : List JI := [(0, .iload_n 1, 1, 0, 0, 0, 0, 0, 0), (1, .i2l, 1, 0, 0, 0, 0, 0, 0), (2, .lconst 0, 1, 0, 0, 0, 0, 0, 0), (3, .aload_n 0, 1, 0, 0, 0, 0, 0, 0), (4, .getfield 135, 3, 3200, 0, 12, 1097, 0, 22), (7, .iconst 1, 1, 0, 0, 0, 0, 0, 0), (8, .isub, 1, 0, 0, 0, 0, 0, 0), (9, .i2l, 1, 0, 0, 0, 0, 0, 0), (10, .invokestatic 138, 3, 170, 3, 0, 1279, 0, 0), (13, .ireturn, 1, 0, 5, 0, 0, 0, 0)]
set_option maxRecDepth 100000 in
theorem jk_X12_isText : ji_X12_isText.all (jck 171) = true := by decide +kernel
def ji_X12_isPlace : List JI := [(0, .aload_n 0, 1, 0, 0, 0, 0, 0, 0), (1, .iload_n 1, 1, 0, 0, 0, 0, 0, 0), (2, .invokevirtual 142, 3, 171, 2, 0, 1275, 0, 22), (5, .ifCond .eq 25, 3, 30, 0, 0, 0, 0, 0), (8, .iload_n 2, 1, 0, 0, 0, 0, 0, 0), (9, .i2l, 1, 0, 0, 0, 0, 0, 0), (10, .lconst 0, 1, 0, 0, 0, 0, 0, 0), (11, .aload_n 0, 1, 0, 0, 0, 0, 0, 0), (12, .getfield 7, 3, 1301, 1, 12, 1098, 0, 22), (15, .iload_n 1, 1, 0, 0, 0, 0, 0, 0), (16, .iaload, 1, 0, 0, 0, 0, 0, 0), (17, .iconst 1, 1, 0, 0, 0, 0, 0, 0), (18, .isub, 1, 0, 0, 0, 0, 0, 0), (19, .i2l, 1, 0, 0, 0, 0, 0, 0), (20, .invokestatic 138, 3, 170, 3, 0, 1279, 0, 0), (23, .ifCond .eq 7, 3, 30, 0, 0, 0, 0, 0), (26, .iconst 1, 1, 0, 0, 0, 0, 0, 0), (27, .goto 4, 3, 31, 0, 0, 0, 0, 0), (30, .iconst 0, 1, 0, 0, 0, 0, 0, 0), (31, .ireturn, 1, 0, 5, 0, 0, 0, 0)]
set_option maxRecDepth 100000 in
theorem jk_X12_isPlace : ji_X12_isPlace.all (jck 172) = true := by decide +kernel
def ji_X12_isPart : List JI := [(0, .aload_n 0, 1, 0, 0, 0, 0, 0, 0), (1, .iload_n 1, 1, 0, 0, 0, 0, 0, 0), (2, .invokevirtual 142, 3, 171, 2, 0, 1275, 0, 22), (5, .ifCond .eq 26, 3, 31, 0, 0, 0, 0, 0), (8, .iload_n 2, 1, 0, 0, 0, 0, 0, 0), (9, .ifCond .lt 22, 3, 31, 0, 0, 0, 0, 0), (12, .iload_n 2, 1, 0, 0, 0, 0, 0, 0), (13, .iload_n 3, 1, 0, 0, 0, 0, 0, 0), (14, .if_icmp .gt 17, 3, 31, 0, 0, 0, 0, 0), (17, .iload_n 3, 1, 0, 0, 0, 0, 0, 0), (18, .aload_n 0, 1, 0, 0, 0, 0, 0, 0), (19, .getfield 7, 3, 1301, 1, 12, 1098, 0, 22), (22, .iload_n 1, 1, 0, 0, 0, 0, 0, 0), (23, .iaload, 1, 0, 0, 0, 0, 0, 0), (24, .if_icmp .gt 7, 3, 31, 0, 0, 0, 0, 0), (27, .iconst 1, 1, 0, 0, 0, 0, 0, 0), (28, .goto 4, 3, 32, 0, 0, 0, 0, 0), (31, .iconst 0, 1, 0, 0, 0, 0, 0, 0), (32, .ireturn, 1, 0, 5, 0, 0, 0, 0)]
set_option maxRecDepth 100000 in
theorem jk_X12_isPart : ji_X12_isPart.all (jck 173) = true := by decide +kernel
def ji_X12_unit : List JI := [(0, .aload_n 0, 1, 0, 0, 0, 0, 0, 0), (1, .getfield 13, 3, 1302, 1, 12, 1099, 0, 22), (4, .sipush 240, 3, 0, 0, 0, 0, 0, 0), (7, .iload_n 1, 1, 0, 0, 0, 0, 0, 0), (8, .imul, 1, 0, 0, 0, 0, 0, 0), (9, .iload_n 2, 1, 0, 0, 0, 0, 0, 0), (10, .iadd, 1, 0, 0, 0, 0, 0, 0), (11, .iaload, 1, 0, 0, 0, 0, 0, 0), (12, .ireturn, 1, 0, 0, 0, 0, 0, 0)]
set_option maxRecDepth 100000 in
theorem jk_X12_unit : ji_X12_unit.all (jck 174) = true := by decide +kernel
def ji_X12_keep : List JI := [(0, .aload_n 0, 1, 0, 0, 0, 0, 0, 0), (1, .getfield 146, 3, 3203, 0, 12, 1100, 0, 22), (4, .bipush 20, 2, 0, 0, 0, 0, 0, 0), (6, .if_icmp .ne 102, 3, 108, 0, 0, 0, 0, 0), (9, .iconst 1, 1, 0, 0, 0, 0, 0, 0), (10, .istore_n 3, 1, 0, 0, 0, 0, 0, 0), (11, .iload_n 3, 1, 0, 0, 0, 0, 0, 0), (12, .bipush 20, 2, 0, 0, 0, 0, 0, 0), (14, .if_icmp .ge 51, 3, 65, 0, 0, 0, 0, 0), (17, .aload_n 0, 1, 0, 0, 0, 0, 0, 0), (18, .getfield 16, 3, 1304, 1, 12, 1101, 0, 22), (21, .iload_n 3, 1, 0, 0, 0, 0, 0, 0), (22, .iconst 1, 1, 0, 0, 0, 0, 0, 0), (23, .isub, 1, 0, 0, 0, 0, 0, 0), (24, .aload_n 0, 1, 0, 0, 0, 0, 0, 0), (25, .getfield 16, 3, 1304, 1, 12, 1101, 0, 22), (28, .iload_n 3, 1, 0, 0, 0, 0, 0, 0), (29, .iaload, 1, 0, 0, 0, 0, 0, 0), (30, .iastore, 1, 0, 0, 0, 0, 0, 0), (31, .aload_n 0, 1, 0, 0, 0, 0, 0, 0), (32, .getfield 19, 3, 1305, 1, 12, 1102, 0, 22), (35, .iload_n 3, 1, 0, 0, 0, 0, 0, 0), (36, .iconst 1, 1, 0, 0, 0, 0, 0, 0), (37, .isub, 1, 0, 0, 0, 0, 0, 0), (38, .aload_n 0, 1, 0, 0, 0, 0, 0, 0), (39, .getfield 19, 3, 1305, 1, 12, 1102, 0, 22), (42, .iload_n 3, 1, 0, 0, 0, 0, 0, 0), (43, .baload, 1, 0, 0, 0, 0, 0, 0), (44, .bastore, 1, 0, 0, 0, 0, 0, 0), (45, .aload_n 0, 1, 0, 0, 0, 0, 0, 0), (46, .getfield 23, 3, 1306, 1, 12, 1103, 0, 22), (49, .iload_n 3, 1, 0, 0, 0, 0, 0, 0), (50, .iconst 1, 1, 0, 0, 0, 0, 0, 0), (51, .isub, 1, 0, 0, 0, 0, 0, 0), (52, .aload_n 0, 1, 0, 0, 0, 0, 0, 0), (53, .getfield 23, 3, 1306, 1, 12, 1103, 0, 22), (56, .iload_n 3, 1, 0, 0, 0, 0, 0, 0), (57, .iaload, 1, 0, 0, 0, 0, 0, 0), (58, .iastore, 1, 0, 0, 0, 0, 0, 0), (59, .iinc 3 1, 3, 0, 0, 0, 0, 0, 0), (62, .goto (-51), 3, 11, 0, 0, 0, 0, 0), (65, .sipush 240, 3, 0, 0, 0, 0, 0, 0), (68, .istore_n 3, 1, 0, 0, 0, 0, 0, 0), (69, .iload_n 3, 1, 0, 0, 0, 0, 0, 0), (70, .sipush 4800, 3, 0, 0, 0, 0, 0, 0), (73, .if_icmp .ge 25, 3, 98, 0, 0, 0, 0, 0), (76, .aload_n 0, 1, 0, 0, 0, 0, 0, 0), (77, .getfield 26, 3, 1307, 1, 12, 1104, 0, 22), (80, .iload_n 3, 1, 0, 0, 0, 0, 0, 0), (81, .sipush 240, 3, 0, 0, 0, 0, 0, 0), (84, .isub, 1, 0, 0, 0, 0, 0, 0), (85, .aload_n 0, 1, 0, 0, 0, 0, 0, 0), (86, .getfield 26, 3, 1307, 1, 12, 1104, 0, 22), (89, .iload_n 3, 1, 0, 0, 0, 0, 0, 0), (90, .iaload, 1, 0, 0, 0, 0, 0, 0), (91, .iastore, 1, 0, 0, 0, 0, 0, 0), (92, .iinc 3 1, 3, 0, 0, 0, 0, 0, 0), (95, .goto (-26), 3, 69, 0, 0, 0, 0, 0), (98, .aload_n 0, 1, 0, 0, 0, 0, 0, 0), (99, .dup, 1, 0, 0, 0, 0, 0, 0), (100, .getfield 146, 3, 3203, 0, 12, 1100, 0, 22), (103, .iconst 1, 1, 0, 0, 0, 0, 0, 0), (104, .isub, 1, 0, 0, 0, 0, 0, 0), (105, .putfield 146, 3, 3203, 0, 12, 1100, 0, 22), (108, .aload_n 0, 1, 0, 0, 0, 0, 0, 0), (109, .getfield 16, 3, 1304, 1, 12, 1101, 0, 22), (112, .aload_n 0, 1, 0, 0, 0, 0, 0, 0), (113, .getfield 146, 3, 3203, 0, 12, 1100, 0, 22), (116, .iload_n 1, 1, 0, 0, 0, 0, 0, 0), (117, .iastore, 1, 0, 0, 0, 0, 0, 0), (118, .aload_n 0, 1, 0, 0, 0, 0, 0, 0), (119, .getfield 19, 3, 1305, 1, 12, 1102, 0, 22), (122, .aload_n 0, 1, 0, 0, 0, 0, 0, 0), (123, .getfield 146, 3, 3203, 0, 12, 1100, 0, 22), (126, .iload_n 2, 1, 0, 0, 0, 0, 0, 0), (127, .bastore, 1, 0, 0, 0, 0, 0, 0), (128, .aload_n 0, 1, 0, 0, 0, 0, 0, 0), (129, .getfield 23, 3, 1306, 1, 12, 1103, 0, 22), (132, .aload_n 0, 1, 0, 0, 0, 0, 0, 0), (133, .getfield 146, 3, 3203, 0, 12, 1100, 0, 22), (136, .iload_n 2, 1, 0, 0, 0, 0, 0, 0), (137, .ifCond .eq 7, 3, 144, 0, 0, 0, 0, 0), (140, .iconst 0, 1, 0, 0, 0, 0, 0, 0), (141, .goto 9, 3, 150, 0, 0, 0, 0, 0), (144, .aload_n 0, 1, 0, 0, 0, 0, 0, 0), (145, .getfield 7, 3, 1301, 1, 12, 1098, 0, 22), (148, .iload_n 1, 1, 0, 0, 0, 0, 0, 0), (149, .iaload, 1, 0, 0, 0, 0, 0, 0), (150, .iastore, 1, 0, 0, 0, 0, 0, 0), (151, .iconst 0, 1, 0, 0, 0, 0, 0, 0), (152, .istore_n 3, 1, 0, 0, 0, 0, 0, 0), (153, .iload_n 3, 1, 0, 0, 0, 0, 0, 0), (154, .aload_n 0, 1, 0, 0, 0, 0, 0, 0), (155, .getfield 23, 3, 1306, 1, 12, 1103, 0, 22), (158, .aload_n 0, 1, 0, 0, 0, 0, 0, 0), (159, .getfield 146, 3, 3203, 0, 12, 1100, 0, 22), (162, .iaload, 1, 0, 0, 0, 0, 0, 0), (163, .if_icmp .ge 30, 3, 193, 0, 0, 0, 0, 0), (166, .aload_n 0, 1, 0, 0, 0, 0, 0, 0), (167, .getfield 26, 3, 1307, 1, 12, 1104, 0, 22), (170, .sipush 240, 3, 0, 0, 0, 0, 0, 0), (173, .aload_n 0, 1, 0, 0, 0, 0, 0, 0), (174, .getfield 146, 3, 3203, 0, 12, 1100, 0, 22), (177, .imul, 1, 0, 0, 0, 0, 0, 0), (178, .iload_n 3, 1, 0, 0, 0, 0, 0, 0), (179, .iadd, 1, 0, 0, 0, 0, 0, 0), (180, .aload_n 0, 1, 0, 0, 0, 0, 0, 0), (181, .iload_n 1, 1, 0, 0, 0, 0, 0, 0), (182, .iload_n 3, 1, 0, 0, 0, 0, 0, 0), (183, .invokevirtual 149, 3, 174, 3, 0, 1267, 0, 22), (186, .iastore, 1, 0, 0, 0, 0, 0, 0), (187, .iinc 3 1, 3, 0, 0, 0, 0, 0, 0), (190, .goto (-37), 3, 153, 0, 0, 0, 0, 0), (193, .aload_n 0, 1, 0, 0, 0, 0, 0, 0), (194, .dup, 1, 0, 0, 0, 0, 0, 0), (195, .getfield 146, 3, 3203, 0, 12, 1100, 0, 22), (198, .iconst 1, 1, 0, 0, 0, 0, 0, 0), (199, .iadd, 1, 0, 0, 0, 0, 0, 0), (200, .putfield 146, 3, 3203, 0, 12, 1100, 0, 22), (203, .return_, 1, 0, 0, 0, 0, 0, 0)]
set_option maxRecDepth 100000 in
theorem jk_X12_keep : ji_X12_keep.all (jck 175) = true := by decide +kernel
def ji_X12_newText : List JI := [(0, .aload_n 0, 1, 0, 0, 0, 0, 0, 0), (1, .aload_n 0, 1, 0, 0, 0, 0, 0, 0), (2, .getfield 135, 3, 3200, 0, 12, 1097, 0, 22), (5, .iconst 1, 1, 0, 0, 0, 0, 0, 0), (6, .invokevirtual 153, 3, 175, 3, 3, 1263, 0, 22), (9, .aload_n 0, 1, 0, 0, 0, 0, 0, 0), (10, .getfield 7, 3, 1301, 1, 12, 1098, 0, 22), (13, .aload_n 0, 1, 0, 0, 0, 0, 0, 0), (14, .getfield 135, 3, 3200, 0, 12, 1097, 0, 22), (17, .iconst 0, 1, 0, 0, 0, 0, 0, 0), (18, .iastore, 1, 0, 0, 0, 0, 0, 0), (19, .aload_n 0, 1, 0, 0, 0, 0, 0, 0), (20, .dup, 1, 0, 0, 0, 0, 0, 0), (21, .getfield 135, 3, 3200, 0, 12, 1097, 0, 22), (24, .iconst 1, 1, 0, 0, 0, 0, 0, 0), (25, .iadd, 1, 0, 0, 0, 0, 0, 0), (26, .putfield 135, 3, 3200, 0, 12, 1097, 0, 22), (29, .aload_n 0, 1, 0, 0, 0, 0, 0, 0), (30, .getfield 135, 3, 3200, 0, 12, 1097, 0, 22), (33, .iconst 1, 1, 0, 0, 0, 0, 0, 0), (34, .isub, 1, 0, 0, 0, 0, 0, 0), (35, .ireturn, 1, 0, 0, 0, 0, 0, 0)]
set_option maxRecDepth 100000 in
theorem jk_X12_newText : ji_X12_newText.all (jck 176) = true := by decide +kernel
def ji_X12_put : List JI := [(0, .aload_n 0, 1, 0, 0, 0, 0, 0, 0), (1, .getfield 13, 3, 1302, 1, 12, 1099, 0, 22), (4, .sipush 240, 3, 0, 0, 0, 0, 0, 0), (7, .iload_n 1, 1, 0, 0, 0, 0, 0, 0), (8, .imul, 1, 0, 0, 0, 0, 0, 0), (9, .aload_n 0, 1, 0, 0, 0, 0, 0, 0), (10, .getfield 7, 3, 1301, 1, 12, 1098, 0, 22), (13, .iload_n 1, 1, 0, 0, 0, 0, 0, 0), (14, .iaload, 1, 0, 0, 0, 0, 0, 0), (15, .iadd, 1, 0, 0, 0, 0, 0, 0), (16, .iload_n 2, 1, 0, 0, 0, 0, 0, 0), (17, .iastore, 1, 0, 0, 0, 0, 0, 0), (18, .aload_n 0, 1, 0, 0, 0, 0, 0, 0), (19, .getfield 7, 3, 1301, 1, 12, 1098, 0, 22), (22, .iload_n 1, 1, 0, 0, 0, 0, 0, 0), (23, .dup2, 1, 0, 0, 0, 0, 0, 0), (24, .iaload, 1, 0, 0, 0, 0, 0, 0), (25, .iconst 1, 1, 0, 0, 0, 0, 0, 0), (26, .iadd, 1, 0, 0, 0, 0, 0, 0), (27, .iastore, 1, 0, 0, 0, 0, 0, 0), (28, .return_, 1, 0, 0, 0, 0, 0, 0)]
set_option maxRecDepth 100000 in
theorem jk_X12_put : ji_X12_put.all (jck 177) = true := by decide +kernel
def ji_X12_text : List JI := [(0, .aload_n 0, 1, 0, 0, 0, 0, 0, 0), (1, .getfield 135, 3, 3200, 0, 12, 1097, 0, 22), (4, .bipush 40, 2, 0, 0, 0, 0, 0, 0), (6, .if_icmp .ne 8, 3, 14, 0, 0, 0, 0, 0), (9, .bipush (-3), 2, 0, 0, 0, 0, 0, 0), (11, .goto 7, 3, 18, 0, 0, 0, 0, 0), (14, .aload_n 0, 1, 0, 0, 0, 0, 0, 0), (15, .invokevirtual 157, 3, 176, 1, 0, 1259, 0, 22), (18, .ireturn, 1, 0, 0, 0, 0, 0, 0)]
set_option maxRecDepth 100000 in
theorem jk_X12_text : ji_X12_text.all (jck 178) = true := by decide +kernel
def ji_X12_units : List JI := [(0, .aload_n 0, 1, 0, 0, 0, 0, 0, 0), (1, .iload_n 1, 1, 0, 0, 0, 0, 0, 0), (2, .invokevirtual 142, 3, 171, 2, 0, 1275, 0, 22), (5, .ifCond .eq 15, 3, 20, 0, 0, 0, 0, 0), (8, .iload_n 2, 1, 0, 0, 0, 0, 0, 0), (9, .i2l, 1, 0, 0, 0, 0, 0, 0), (10, .lconst 1, 1, 0, 0, 0, 0, 0, 0), (11, .ldc2_w 161, 3, 0, 0, 0, 1282, 0, 4), (14, .invokestatic 138, 3, 170, 3, 0, 1279, 0, 0), (17, .ifCond .ne 6, 3, 23, 0, 0, 0, 0, 0), (20, .bipush (-2), 2, 0, 0, 0, 0, 0, 0), (22, .ireturn, 1, 0, 0, 0, 0, 0, 0), (23, .aload_n 0, 1, 0, 0, 0, 0, 0, 0), (24, .getfield 7, 3, 1301, 1, 12, 1098, 0, 22), (27, .iload_n 1, 1, 0, 0, 0, 0, 0, 0), (28, .iaload, 1, 0, 0, 0, 0, 0, 0), (29, .iload_n 2, 1, 0, 0, 0, 0, 0, 0), (30, .iadd, 1, 0, 0, 0, 0, 0, 0), (31, .sipush 240, 3, 0, 0, 0, 0, 0, 0), (34, .if_icmp .le 6, 3, 40, 0, 0, 0, 0, 0), (37, .bipush (-3), 2, 0, 0, 0, 0, 0, 0), (39, .ireturn, 1, 0, 0, 0, 0, 0, 0), (40, .aload_n 0, 1, 0, 0, 0, 0, 0, 0), (41, .iload_n 1, 1, 0, 0, 0, 0, 0, 0), (42, .iconst 0, 1, 0, 0, 0, 0, 0, 0), (43, .invokevirtual 153, 3, 175, 3, 3, 1263, 0, 22), (46, .iload_n 2, 1, 0, 0, 0, 0, 0, 0), (47, .iconst 1, 1, 0, 0, 0, 0, 0, 0), (48, .isub, 1, 0, 0, 0, 0, 0, 0), (49, .istore 5, 2, 0, 0, 0, 0, 0, 0), (51, .iload 5, 2, 0, 0, 0, 0, 0, 0), (53, .ifCond .lt 26, 3, 79, 0, 0, 0, 0, 0), (56, .aload_n 0, 1, 0, 0, 0, 0, 0, 0), (57, .iload_n 1, 1, 0, 0, 0, 0, 0, 0), (58, .lload_n 3, 1, 0, 0, 0, 0, 0, 0), (59, .bipush 16, 2, 0, 0, 0, 0, 0, 0), (61, .iload 5, 2, 0, 0, 0, 0, 0, 0), (63, .imul, 1, 0, 0, 0, 0, 0, 0), (64, .lshr, 1, 0, 0, 0, 0, 0, 0), (65, .ldc2_w 163, 3, 0, 0, 0, 1283, 0, 65535), (68, .land, 1, 0, 0, 0, 0, 0, 0), (69, .l2i, 1, 0, 0, 0, 0, 0, 0), (70, .invokevirtual 165, 3, 177, 3, 3, 1284, 0, 22), (73, .iinc 5 (-1), 3, 0, 0, 0, 0, 0, 0), (76, .goto (-25), 3, 51, 0, 0, 0, 0, 0), (79, .aload_n 0, 1, 0, 0, 0, 0, 0, 0), (80, .getfield 7, 3, 1301, 1, 12, 1098, 0, 22), (83, .iload_n 1, 1, 0, 0, 0, 0, 0, 0), (84, .iaload, 1, 0, 0, 0, 0, 0, 0), (85, .ireturn, 1, 0, 0, 0, 0, 0, 0)]
set_option maxRecDepth 100000 in
theorem jk_X12_units : ji_X12_units.all (jck 179) = true := by decide +kernel
def ji_X12_point : List JI := [(0, .aload_n 0, 1, 0, 0, 0, 0, 0, 0), (1, .iload_n 1, 1, 0, 0, 0, 0, 0, 0), (2, .invokevirtual 142, 3, 171, 2, 0, 1275, 0, 22), (5, .ifCond .eq 15, 3, 20, 0, 0, 0, 0, 0), (8, .iload_n 2, 1, 0, 0, 0, 0, 0, 0), (9, .i2l, 1, 0, 0, 0, 0, 0, 0), (10, .lconst 0, 1, 0, 0, 0, 0, 0, 0), (11, .ldc2_w 169, 3, 0, 0, 0, 1292, 0, 1114111), (14, .invokestatic 138, 3, 170, 3, 0, 1279, 0, 0), (17, .ifCond .ne 6, 3, 23, 0, 0, 0, 0, 0), (20, .bipush (-2), 2, 0, 0, 0, 0, 0, 0), (22, .ireturn, 1, 0, 0, 0, 0, 0, 0), (23, .iload_n 2, 1, 0, 0, 0, 0, 0, 0), (24, .ldc 171, 2, 0, 0, 0, 1293, 0, 65535), (26, .if_icmp .le 7, 3, 33, 0, 0, 0, 0, 0), (29, .iconst 2, 1, 0, 0, 0, 0, 0, 0), (30, .goto 4, 3, 34, 0, 0, 0, 0, 0), (33, .iconst 1, 1, 0, 0, 0, 0, 0, 0), (34, .istore_n 3, 1, 0, 0, 0, 0, 0, 0), (35, .aload_n 0, 1, 0, 0, 0, 0, 0, 0), (36, .getfield 7, 3, 1301, 1, 12, 1098, 0, 22), (39, .iload_n 1, 1, 0, 0, 0, 0, 0, 0), (40, .iaload, 1, 0, 0, 0, 0, 0, 0), (41, .iload_n 3, 1, 0, 0, 0, 0, 0, 0), (42, .iadd, 1, 0, 0, 0, 0, 0, 0), (43, .sipush 240, 3, 0, 0, 0, 0, 0, 0), (46, .if_icmp .le 6, 3, 52, 0, 0, 0, 0, 0), (49, .bipush (-3), 2, 0, 0, 0, 0, 0, 0), (51, .ireturn, 1, 0, 0, 0, 0, 0, 0), (52, .aload_n 0, 1, 0, 0, 0, 0, 0, 0), (53, .iload_n 1, 1, 0, 0, 0, 0, 0, 0), (54, .iconst 0, 1, 0, 0, 0, 0, 0, 0), (55, .invokevirtual 153, 3, 175, 3, 3, 1263, 0, 22), (58, .iload_n 3, 1, 0, 0, 0, 0, 0, 0), (59, .iconst 2, 1, 0, 0, 0, 0, 0, 0), (60, .if_icmp .ne 37, 3, 97, 0, 0, 0, 0, 0), (63, .aload_n 0, 1, 0, 0, 0, 0, 0, 0), (64, .iload_n 1, 1, 0, 0, 0, 0, 0, 0), (65, .ldc 172, 2, 0, 0, 0, 1294, 0, 55296), (67, .iload_n 2, 1, 0, 0, 0, 0, 0, 0), (68, .ldc 173, 2, 0, 0, 0, 1295, 0, 65536), (70, .isub, 1, 0, 0, 0, 0, 0, 0), (71, .bipush 10, 2, 0, 0, 0, 0, 0, 0), (73, .ishr, 1, 0, 0, 0, 0, 0, 0), (74, .iadd, 1, 0, 0, 0, 0, 0, 0), (75, .invokevirtual 165, 3, 177, 3, 3, 1284, 0, 22), (78, .aload_n 0, 1, 0, 0, 0, 0, 0, 0), (79, .iload_n 1, 1, 0, 0, 0, 0, 0, 0), (80, .ldc 174, 2, 0, 0, 0, 1296, 0, 56320), (82, .iload_n 2, 1, 0, 0, 0, 0, 0, 0), (83, .ldc 173, 2, 0, 0, 0, 1295, 0, 65536), (85, .isub, 1, 0, 0, 0, 0, 0, 0), (86, .sipush 1023, 3, 0, 0, 0, 0, 0, 0), (89, .iand, 1, 0, 0, 0, 0, 0, 0), (90, .iadd, 1, 0, 0, 0, 0, 0, 0), (91, .invokevirtual 165, 3, 177, 3, 3, 1284, 0, 22), (94, .goto 9, 3, 103, 0, 0, 0, 0, 0), (97, .aload_n 0, 1, 0, 0, 0, 0, 0, 0), (98, .iload_n 1, 1, 0, 0, 0, 0, 0, 0), (99, .iload_n 2, 1, 0, 0, 0, 0, 0, 0), (100, .invokevirtual 165, 3, 177, 3, 3, 1284, 0, 22), (103, .aload_n 0, 1, 0, 0, 0, 0, 0, 0), (104, .getfield 7, 3, 1301, 1, 12, 1098, 0, 22), (107, .iload_n 1, 1, 0, 0, 0, 0, 0, 0), (108, .iaload, 1, 0, 0, 0, 0, 0, 0), (109, .ireturn, 1, 0, 0, 0, 0, 0, 0)]
set_option maxRecDepth 100000 in
theorem jk_X12_point : ji_X12_point.all (jck 180) = true := by decide +kernel
def ji_X12_copy : List JI := [(0, .aload_n 0, 1, 0, 0, 0, 0, 0, 0), (1, .iload_n 1, 1, 0, 0, 0, 0, 0, 0), (2, .iload_n 2, 1, 0, 0, 0, 0, 0, 0), (3, .iload_n 3, 1, 0, 0, 0, 0, 0, 0), (4, .invokevirtual 175, 3, 173, 4, 0, 1301, 0, 22), (7, .ifCond .ne 6, 3, 13, 0, 0, 0, 0, 0), (10, .bipush (-2), 2, 0, 0, 0, 0, 0, 0), (12, .ireturn, 1, 0, 0, 0, 0, 0, 0), (13, .aload_n 0, 1, 0, 0, 0, 0, 0, 0), (14, .getfield 135, 3, 3200, 0, 12, 1097, 0, 22), (17, .bipush 40, 2, 0, 0, 0, 0, 0, 0), (19, .if_icmp .ne 6, 3, 25, 0, 0, 0, 0, 0), (22, .bipush (-3), 2, 0, 0, 0, 0, 0, 0), (24, .ireturn, 1, 0, 0, 0, 0, 0, 0), (25, .aload_n 0, 1, 0, 0, 0, 0, 0, 0), (26, .invokevirtual 157, 3, 176, 1, 0, 1259, 0, 22), (29, .istore 4, 2, 0, 0, 0, 0, 0, 0), (31, .iload_n 2, 1, 0, 0, 0, 0, 0, 0), (32, .istore 5, 2, 0, 0, 0, 0, 0, 0), (34, .iload 5, 2, 0, 0, 0, 0, 0, 0), (36, .iload_n 3, 1, 0, 0, 0, 0, 0, 0), (37, .if_icmp .ge 22, 3, 59, 0, 0, 0, 0, 0), (40, .aload_n 0, 1, 0, 0, 0, 0, 0, 0), (41, .iload 4, 2, 0, 0, 0, 0, 0, 0), (43, .aload_n 0, 1, 0, 0, 0, 0, 0, 0), (44, .iload_n 1, 1, 0, 0, 0, 0, 0, 0), (45, .iload 5, 2, 0, 0, 0, 0, 0, 0), (47, .invokevirtual 149, 3, 174, 3, 0, 1267, 0, 22), (50, .invokevirtual 165, 3, 177, 3, 3, 1284, 0, 22), (53, .iinc 5 1, 3, 0, 0, 0, 0, 0, 0), (56, .goto (-22), 3, 34, 0, 0, 0, 0, 0), (59, .iload 4, 2, 0, 0, 0, 0, 0, 0), (61, .ireturn, 1, 0, 0, 0, 0, 0, 0)]
set_option maxRecDepth 100000 in
theorem jk_X12_copy : ji_X12_copy.all (jck 181) = true := by decide +kernel
def ji_X12_append : List JI := [(0, .aload_n 0, 1, 0, 0, 0, 0, 0, 0), (1, .iload_n 1, 1, 0, 0, 0, 0, 0, 0), (2, .invokevirtual 142, 3, 171, 2, 0, 1275, 0, 22), (5, .ifCond .eq 14, 3, 19, 0, 0, 0, 0, 0), (8, .aload_n 0, 1, 0, 0, 0, 0, 0, 0), (9, .iload_n 2, 1, 0, 0, 0, 0, 0, 0), (10, .iload_n 3, 1, 0, 0, 0, 0, 0, 0), (11, .iload 4, 2, 0, 0, 0, 0, 0, 0), (13, .invokevirtual 175, 3, 173, 4, 0, 1301, 0, 22), (16, .ifCond .ne 6, 3, 22, 0, 0, 0, 0, 0), (19, .bipush (-2), 2, 0, 0, 0, 0, 0, 0), (21, .ireturn, 1, 0, 0, 0, 0, 0, 0), (22, .aload_n 0, 1, 0, 0, 0, 0, 0, 0), (23, .getfield 7, 3, 1301, 1, 12, 1098, 0, 22), (26, .iload_n 1, 1, 0, 0, 0, 0, 0, 0), (27, .iaload, 1, 0, 0, 0, 0, 0, 0), (28, .iload 4, 2, 0, 0, 0, 0, 0, 0), (30, .iadd, 1, 0, 0, 0, 0, 0, 0), (31, .iload_n 3, 1, 0, 0, 0, 0, 0, 0), (32, .isub, 1, 0, 0, 0, 0, 0, 0), (33, .sipush 240, 3, 0, 0, 0, 0, 0, 0), (36, .if_icmp .le 6, 3, 42, 0, 0, 0, 0, 0), (39, .bipush (-3), 2, 0, 0, 0, 0, 0, 0), (41, .ireturn, 1, 0, 0, 0, 0, 0, 0), (42, .aload_n 0, 1, 0, 0, 0, 0, 0, 0), (43, .iload_n 1, 1, 0, 0, 0, 0, 0, 0), (44, .iconst 0, 1, 0, 0, 0, 0, 0, 0), (45, .invokevirtual 153, 3, 175, 3, 3, 1263, 0, 22), (48, .iload_n 3, 1, 0, 0, 0, 0, 0, 0), (49, .istore 5, 2, 0, 0, 0, 0, 0, 0), (51, .iload 5, 2, 0, 0, 0, 0, 0, 0), (53, .iload 4, 2, 0, 0, 0, 0, 0, 0), (55, .if_icmp .ge 21, 3, 76, 0, 0, 0, 0, 0), (58, .aload_n 0, 1, 0, 0, 0, 0, 0, 0), (59, .iload_n 1, 1, 0, 0, 0, 0, 0, 0), (60, .aload_n 0, 1, 0, 0, 0, 0, 0, 0), (61, .iload_n 2, 1, 0, 0, 0, 0, 0, 0), (62, .iload 5, 2, 0, 0, 0, 0, 0, 0), (64, .invokevirtual 149, 3, 174, 3, 0, 1267, 0, 22), (67, .invokevirtual 165, 3, 177, 3, 3, 1284, 0, 22), (70, .iinc 5 1, 3, 0, 0, 0, 0, 0, 0), (73, .goto (-22), 3, 51, 0, 0, 0, 0, 0), (76, .aload_n 0, 1, 0, 0, 0, 0, 0, 0), (77, .getfield 7, 3, 1301, 1, 12, 1098, 0, 22), (80, .iload_n 1, 1, 0, 0, 0, 0, 0, 0), (81, .iaload, 1, 0, 0, 0, 0, 0, 0), (82, .ireturn, 1, 0, 0, 0, 0, 0, 0)]
set_option maxRecDepth 100000 in
theorem jk_X12_append : ji_X12_append.all (jck 182) = true := by decide +kernel
def ji_X12_reversed : List JI := [(0, .aload_n 0, 1, 0, 0, 0, 0, 0, 0), (1, .iload_n 1, 1, 0, 0, 0, 0, 0, 0), (2, .invokevirtual 142, 3, 171, 2, 0, 1275, 0, 22), (5, .ifCond .ne 6, 3, 11, 0, 0, 0, 0, 0), (8, .bipush (-2), 2, 0, 0, 0, 0, 0, 0), (10, .ireturn, 1, 0, 0, 0, 0, 0, 0), (11, .aload_n 0, 1, 0, 0, 0, 0, 0, 0), (12, .getfield 135, 3, 3200, 0, 12, 1097, 0, 22), (15, .bipush 40, 2, 0, 0, 0, 0, 0, 0), (17, .if_icmp .ne 6, 3, 23, 0, 0, 0, 0, 0), (20, .bipush (-3), 2, 0, 0, 0, 0, 0, 0), (22, .ireturn, 1, 0, 0, 0, 0, 0, 0), (23, .aload_n 0, 1, 0, 0, 0, 0, 0, 0), (24, .invokevirtual 157, 3, 176, 1, 0, 1259, 0, 22), (27, .istore_n 2, 1, 0, 0, 0, 0, 0, 0), (28, .aload_n 0, 1, 0, 0, 0, 0, 0, 0), (29, .getfield 7, 3, 1301, 1, 12, 1098, 0, 22), (32, .iload_n 1, 1, 0, 0, 0, 0, 0, 0), (33, .iaload, 1, 0, 0, 0, 0, 0, 0), (34, .iconst 1, 1, 0, 0, 0, 0, 0, 0), (35, .isub, 1, 0, 0, 0, 0, 0, 0), (36, .istore_n 3, 1, 0, 0, 0, 0, 0, 0), (37, .iload_n 3, 1, 0, 0, 0, 0, 0, 0), (38, .ifCond .lt 20, 3, 58, 0, 0, 0, 0, 0), (41, .aload_n 0, 1, 0, 0, 0, 0, 0, 0), (42, .iload_n 2, 1, 0, 0, 0, 0, 0, 0), (43, .aload_n 0, 1, 0, 0, 0, 0, 0, 0), (44, .iload_n 1, 1, 0, 0, 0, 0, 0, 0), (45, .iload_n 3, 1, 0, 0, 0, 0, 0, 0), (46, .invokevirtual 149, 3, 174, 3, 0, 1267, 0, 22), (49, .invokevirtual 165, 3, 177, 3, 3, 1284, 0, 22), (52, .iinc 3 (-1), 3, 0, 0, 0, 0, 0, 0), (55, .goto (-18), 3, 37, 0, 0, 0, 0, 0), (58, .iload_n 2, 1, 0, 0, 0, 0, 0, 0), (59, .ireturn, 1, 0, 0, 0, 0, 0, 0)]
set_option maxRecDepth 100000 in
theorem jk_X12_reversed : ji_X12_reversed.all (jck 183) = true := by decide +kernel
def ji_X12_insert : List JI := [(0, .aload_n 0, 1, 0, 0, 0, 0, 0, 0), (1, .iload_n 1, 1, 0, 0, 0, 0, 0, 0), (2, .invokevirtual 142, 3, 171, 2, 0, 1275, 0, 22), (5, .ifCond .eq 31, 3, 36, 0, 0, 0, 0, 0), (8, .iload_n 2, 1, 0, 0, 0, 0, 0, 0), (9, .i2l, 1, 0, 0, 0, 0, 0, 0), (10, .lconst 0, 1, 0, 0, 0, 0, 0, 0), (11, .aload_n 0, 1, 0, 0, 0, 0, 0, 0), (12, .getfield 7, 3, 1301, 1, 12, 1098, 0, 22), (15, .iload_n 1, 1, 0, 0, 0, 0, 0, 0), (16, .iaload, 1, 0, 0, 0, 0, 0, 0), (17, .i2l, 1, 0, 0, 0, 0, 0, 0), (18, .invokestatic 138, 3, 170, 3, 0, 1279, 0, 0), (21, .ifCond .eq 15, 3, 36, 0, 0, 0, 0, 0), (24, .iload_n 3, 1, 0, 0, 0, 0, 0, 0), (25, .i2l, 1, 0, 0, 0, 0, 0, 0), (26, .lconst 0, 1, 0, 0, 0, 0, 0, 0), (27, .ldc2_w 163, 3, 0, 0, 0, 1283, 0, 65535), (30, .invokestatic 138, 3, 170, 3, 0, 1279, 0, 0), (33, .ifCond .ne 6, 3, 39, 0, 0, 0, 0, 0), (36, .bipush (-2), 2, 0, 0, 0, 0, 0, 0), (38, .ireturn, 1, 0, 0, 0, 0, 0, 0), (39, .aload_n 0, 1, 0, 0, 0, 0, 0, 0), (40, .getfield 7, 3, 1301, 1, 12, 1098, 0, 22), (43, .iload_n 1, 1, 0, 0, 0, 0, 0, 0), (44, .iaload, 1, 0, 0, 0, 0, 0, 0), (45, .sipush 240, 3, 0, 0, 0, 0, 0, 0), (48, .if_icmp .ne 6, 3, 54, 0, 0, 0, 0, 0), (51, .bipush (-3), 2, 0, 0, 0, 0, 0, 0), (53, .ireturn, 1, 0, 0, 0, 0, 0, 0), (54, .aload_n 0, 1, 0, 0, 0, 0, 0, 0), (55, .iload_n 1, 1, 0, 0, 0, 0, 0, 0), (56, .iconst 0, 1, 0, 0, 0, 0, 0, 0), (57, .invokevirtual 153, 3, 175, 3, 3, 1263, 0, 22), (60, .aload_n 0, 1, 0, 0, 0, 0, 0, 0), (61, .getfield 7, 3, 1301, 1, 12, 1098, 0, 22), (64, .iload_n 1, 1, 0, 0, 0, 0, 0, 0), (65, .iaload, 1, 0, 0, 0, 0, 0, 0), (66, .istore 4, 2, 0, 0, 0, 0, 0, 0), (68, .iload 4, 2, 0, 0, 0, 0, 0, 0), (70, .iload_n 2, 1, 0, 0, 0, 0, 0, 0), (71, .if_icmp .le 37, 3, 108, 0, 0, 0, 0, 0), (74, .aload_n 0, 1, 0, 0, 0, 0, 0, 0), (75, .getfield 13, 3, 1302, 1, 12, 1099, 0, 22), (78, .sipush 240, 3, 0, 0, 0, 0, 0, 0), (81, .iload_n 1, 1, 0, 0, 0, 0, 0, 0), (82, .imul, 1, 0, 0, 0, 0, 0, 0), (83, .iload 4, 2, 0, 0, 0, 0, 0, 0), (85, .iadd, 1, 0, 0, 0, 0, 0, 0), (86, .aload_n 0, 1, 0, 0, 0, 0, 0, 0), (87, .getfield 13, 3, 1302, 1, 12, 1099, 0, 22), (90, .sipush 240, 3, 0, 0, 0, 0, 0, 0), (93, .iload_n 1, 1, 0, 0, 0, 0, 0, 0), (94, .imul, 1, 0, 0, 0, 0, 0, 0), (95, .iload 4, 2, 0, 0, 0, 0, 0, 0), (97, .iadd, 1, 0, 0, 0, 0, 0, 0), (98, .iconst 1, 1, 0, 0, 0, 0, 0, 0), (99, .isub, 1, 0, 0, 0, 0, 0, 0), (100, .iaload, 1, 0, 0, 0, 0, 0, 0), (101, .iastore, 1, 0, 0, 0, 0, 0, 0), (102, .iinc 4 (-1), 3, 0, 0, 0, 0, 0, 0), (105, .goto (-37), 3, 68, 0, 0, 0, 0, 0), (108, .aload_n 0, 1, 0, 0, 0, 0, 0, 0), (109, .getfield 13, 3, 1302, 1, 12, 1099, 0, 22), (112, .sipush 240, 3, 0, 0, 0, 0, 0, 0), (115, .iload_n 1, 1, 0, 0, 0, 0, 0, 0), (116, .imul, 1, 0, 0, 0, 0, 0, 0), (117, .iload_n 2, 1, 0, 0, 0, 0, 0, 0), (118, .iadd, 1, 0, 0, 0, 0, 0, 0), (119, .iload_n 3, 1, 0, 0, 0, 0, 0, 0), (120, .iastore, 1, 0, 0, 0, 0, 0, 0), (121, .aload_n 0, 1, 0, 0, 0, 0, 0, 0), (122, .getfield 7, 3, 1301, 1, 12, 1098, 0, 22), (125, .iload_n 1, 1, 0, 0, 0, 0, 0, 0), (126, .dup2, 1, 0, 0, 0, 0, 0, 0), (127, .iaload, 1, 0, 0, 0, 0, 0, 0), (128, .iconst 1, 1, 0, 0, 0, 0, 0, 0), (129, .iadd, 1, 0, 0, 0, 0, 0, 0), (130, .iastore, 1, 0, 0, 0, 0, 0, 0), (131, .aload_n 0, 1, 0, 0, 0, 0, 0, 0), (132, .getfield 7, 3, 1301, 1, 12, 1098, 0, 22), (135, .iload_n 1, 1, 0, 0, 0, 0, 0, 0), (136, .iaload, 1, 0, 0, 0, 0, 0, 0), (137, .ireturn, 1, 0, 0, 0, 0, 0, 0)]
set_option maxRecDepth 100000 in
theorem jk_X12_insert : ji_X12_insert.all (jck 184) = true := by decide +kernel
def ji_X12_remove : List JI := [(0, .aload_n 0, 1, 0, 0, 0, 0, 0, 0), (1, .iload_n 1, 1, 0, 0, 0, 0, 0, 0), (2, .invokevirtual 142, 3, 171, 2, 0, 1275, 0, 22), (5, .ifCond .eq 33, 3, 38, 0, 0, 0, 0, 0), (8, .iload_n 3, 1, 0, 0, 0, 0, 0, 0), (9, .ifCond .lt 29, 3, 38, 0, 0, 0, 0, 0), (12, .iload_n 2, 1, 0, 0, 0, 0, 0, 0), (13, .ifCond .lt 25, 3, 38, 0, 0, 0, 0, 0), (16, .iload_n 3, 1, 0, 0, 0, 0, 0, 0), (17, .aload_n 0, 1, 0, 0, 0, 0, 0, 0), (18, .getfield 7, 3, 1301, 1, 12, 1098, 0, 22), (21, .iload_n 1, 1, 0, 0, 0, 0, 0, 0), (22, .iaload, 1, 0, 0, 0, 0, 0, 0), (23, .if_icmp .gt 15, 3, 38, 0, 0, 0, 0, 0), (26, .iload_n 2, 1, 0, 0, 0, 0, 0, 0), (27, .aload_n 0, 1, 0, 0, 0, 0, 0, 0), (28, .getfield 7, 3, 1301, 1, 12, 1098, 0, 22), (31, .iload_n 1, 1, 0, 0, 0, 0, 0, 0), (32, .iaload, 1, 0, 0, 0, 0, 0, 0), (33, .iload_n 3, 1, 0, 0, 0, 0, 0, 0), (34, .isub, 1, 0, 0, 0, 0, 0, 0), (35, .if_icmp .le 6, 3, 41, 0, 0, 0, 0, 0), (38, .bipush (-2), 2, 0, 0, 0, 0, 0, 0), (40, .ireturn, 1, 0, 0, 0, 0, 0, 0), (41, .aload_n 0, 1, 0, 0, 0, 0, 0, 0), (42, .iload_n 1, 1, 0, 0, 0, 0, 0, 0), (43, .iconst 0, 1, 0, 0, 0, 0, 0, 0), (44, .invokevirtual 153, 3, 175, 3, 3, 1263, 0, 22), (47, .iload_n 2, 1, 0, 0, 0, 0, 0, 0), (48, .iload_n 3, 1, 0, 0, 0, 0, 0, 0), (49, .iadd, 1, 0, 0, 0, 0, 0, 0), (50, .istore 4, 2, 0, 0, 0, 0, 0, 0), (52, .iload 4, 2, 0, 0, 0, 0, 0, 0), (54, .aload_n 0, 1, 0, 0, 0, 0, 0, 0), (55, .getfield 7, 3, 1301, 1, 12, 1098, 0, 22), (58, .iload_n 1, 1, 0, 0, 0, 0, 0, 0), (59, .iaload, 1, 0, 0, 0, 0, 0, 0), (60, .if_icmp .ge 37, 3, 97, 0, 0, 0, 0, 0), (63, .aload_n 0, 1, 0, 0, 0, 0, 0, 0), (64, .getfield 13, 3, 1302, 1, 12, 1099, 0, 22), (67, .sipush 240, 3, 0, 0, 0, 0, 0, 0), (70, .iload_n 1, 1, 0, 0, 0, 0, 0, 0), (71, .imul, 1, 0, 0, 0, 0, 0, 0), (72, .iload 4, 2, 0, 0, 0, 0, 0, 0), (74, .iadd, 1, 0, 0, 0, 0, 0, 0), (75, .iload_n 3, 1, 0, 0, 0, 0, 0, 0), (76, .isub, 1, 0, 0, 0, 0, 0, 0), (77, .aload_n 0, 1, 0, 0, 0, 0, 0, 0), (78, .getfield 13, 3, 1302, 1, 12, 1099, 0, 22), (81, .sipush 240, 3, 0, 0, 0, 0, 0, 0), (84, .iload_n 1, 1, 0, 0, 0, 0, 0, 0), (85, .imul, 1, 0, 0, 0, 0, 0, 0), (86, .iload 4, 2, 0, 0, 0, 0, 0, 0), (88, .iadd, 1, 0, 0, 0, 0, 0, 0), (89, .iaload, 1, 0, 0, 0, 0, 0, 0), (90, .iastore, 1, 0, 0, 0, 0, 0, 0), (91, .iinc 4 1, 3, 0, 0, 0, 0, 0, 0), (94, .goto (-42), 3, 52, 0, 0, 0, 0, 0), (97, .aload_n 0, 1, 0, 0, 0, 0, 0, 0), (98, .getfield 7, 3, 1301, 1, 12, 1098, 0, 22), (101, .iload_n 1, 1, 0, 0, 0, 0, 0, 0), (102, .dup2, 1, 0, 0, 0, 0, 0, 0), (103, .iaload, 1, 0, 0, 0, 0, 0, 0), (104, .iload_n 3, 1, 0, 0, 0, 0, 0, 0), (105, .isub, 1, 0, 0, 0, 0, 0, 0), (106, .iastore, 1, 0, 0, 0, 0, 0, 0), (107, .aload_n 0, 1, 0, 0, 0, 0, 0, 0), (108, .getfield 7, 3, 1301, 1, 12, 1098, 0, 22), (111, .iload_n 1, 1, 0, 0, 0, 0, 0, 0), (112, .iaload, 1, 0, 0, 0, 0, 0, 0), (113, .ireturn, 1, 0, 0, 0, 0, 0, 0)]
set_option maxRecDepth 100000 in
theorem jk_X12_remove : ji_X12_remove.all (jck 185) = true := by decide +kernel
def ji_X12_undo : List JI := [(0, .aload_n 0, 1, 0, 0, 0, 0, 0, 0), (1, .getfield 146, 3, 3203, 0, 12, 1100, 0, 22), (4, .ifCond .ne 6, 3, 10, 0, 0, 0, 0, 0), (7, .bipush (-4), 2, 0, 0, 0, 0, 0, 0), (9, .ireturn, 1, 0, 0, 0, 0, 0, 0), (10, .aload_n 0, 1, 0, 0, 0, 0, 0, 0), (11, .dup, 1, 0, 0, 0, 0, 0, 0), (12, .getfield 146, 3, 3203, 0, 12, 1100, 0, 22), (15, .iconst 1, 1, 0, 0, 0, 0, 0, 0), (16, .isub, 1, 0, 0, 0, 0, 0, 0), (17, .putfield 146, 3, 3203, 0, 12, 1100, 0, 22), (20, .aload_n 0, 1, 0, 0, 0, 0, 0, 0), (21, .getfield 19, 3, 1305, 1, 12, 1102, 0, 22), (24, .aload_n 0, 1, 0, 0, 0, 0, 0, 0), (25, .getfield 146, 3, 3203, 0, 12, 1100, 0, 22), (28, .baload, 1, 0, 0, 0, 0, 0, 0), (29, .ifCond .eq 15, 3, 44, 0, 0, 0, 0, 0), (32, .aload_n 0, 1, 0, 0, 0, 0, 0, 0), (33, .dup, 1, 0, 0, 0, 0, 0, 0), (34, .getfield 135, 3, 3200, 0, 12, 1097, 0, 22), (37, .iconst 1, 1, 0, 0, 0, 0, 0, 0), (38, .isub, 1, 0, 0, 0, 0, 0, 0), (39, .putfield 135, 3, 3200, 0, 12, 1097, 0, 22), (42, .iconst 1, 1, 0, 0, 0, 0, 0, 0), (43, .ireturn, 1, 0, 0, 0, 0, 0, 0), (44, .aload_n 0, 1, 0, 0, 0, 0, 0, 0), (45, .getfield 16, 3, 1304, 1, 12, 1101, 0, 22), (48, .aload_n 0, 1, 0, 0, 0, 0, 0, 0), (49, .getfield 146, 3, 3203, 0, 12, 1100, 0, 22), (52, .iaload, 1, 0, 0, 0, 0, 0, 0), (53, .istore_n 1, 1, 0, 0, 0, 0, 0, 0), (54, .aload_n 0, 1, 0, 0, 0, 0, 0, 0), (55, .getfield 7, 3, 1301, 1, 12, 1098, 0, 22), (58, .iload_n 1, 1, 0, 0, 0, 0, 0, 0), (59, .aload_n 0, 1, 0, 0, 0, 0, 0, 0), (60, .getfield 23, 3, 1306, 1, 12, 1103, 0, 22), (63, .aload_n 0, 1, 0, 0, 0, 0, 0, 0), (64, .getfield 146, 3, 3203, 0, 12, 1100, 0, 22), (67, .iaload, 1, 0, 0, 0, 0, 0, 0), (68, .iastore, 1, 0, 0, 0, 0, 0, 0), (69, .iconst 0, 1, 0, 0, 0, 0, 0, 0), (70, .istore_n 2, 1, 0, 0, 0, 0, 0, 0), (71, .iload_n 2, 1, 0, 0, 0, 0, 0, 0), (72, .aload_n 0, 1, 0, 0, 0, 0, 0, 0), (73, .getfield 7, 3, 1301, 1, 12, 1098, 0, 22), (76, .iload_n 1, 1, 0, 0, 0, 0, 0, 0), (77, .iaload, 1, 0, 0, 0, 0, 0, 0), (78, .if_icmp .ge 36, 3, 114, 0, 0, 0, 0, 0), (81, .aload_n 0, 1, 0, 0, 0, 0, 0, 0), (82, .getfield 13, 3, 1302, 1, 12, 1099, 0, 22), (85, .sipush 240, 3, 0, 0, 0, 0, 0, 0), (88, .iload_n 1, 1, 0, 0, 0, 0, 0, 0), (89, .imul, 1, 0, 0, 0, 0, 0, 0), (90, .iload_n 2, 1, 0, 0, 0, 0, 0, 0), (91, .iadd, 1, 0, 0, 0, 0, 0, 0), (92, .aload_n 0, 1, 0, 0, 0, 0, 0, 0), (93, .getfield 26, 3, 1307, 1, 12, 1104, 0, 22), (96, .sipush 240, 3, 0, 0, 0, 0, 0, 0), (99, .aload_n 0, 1, 0, 0, 0, 0, 0, 0), (100, .getfield 146, 3, 3203, 0, 12, 1100, 0, 22), (103, .imul, 1, 0, 0, 0, 0, 0, 0), (104, .iload_n 2, 1, 0, 0, 0, 0, 0, 0), (105, .iadd, 1, 0, 0, 0, 0, 0, 0), (106, .iaload, 1, 0, 0, 0, 0, 0, 0), (107, .iastore, 1, 0, 0, 0, 0, 0, 0), (108, .iinc 2 1, 3, 0, 0, 0, 0, 0, 0), (111, .goto (-40), 3, 71, 0, 0, 0, 0, 0), (114, .iconst 1, 1, 0, 0, 0, 0, 0, 0), (115, .ireturn, 1, 0, 0, 0, 0, 0, 0)]
set_option maxRecDepth 100000 in
theorem jk_X12_undo : ji_X12_undo.all (jck 186) = true := by decide +kernel
def ji_X12_at : List JI := [(0, .aload_n 0, 1, 0, 0, 0, 0, 0, 0), (1, .iload_n 1, 1, 0, 0, 0, 0, 0, 0), (2, .iload_n 2, 1, 0, 0, 0, 0, 0, 0), (3, .invokevirtual 179, 3, 172, 3, 0, 1329, 0, 22), (6, .ifCond .eq 12, 3, 18, 0, 0, 0, 0, 0), (9, .aload_n 0, 1, 0, 0, 0, 0, 0, 0), (10, .iload_n 1, 1, 0, 0, 0, 0, 0, 0), (11, .iload_n 2, 1, 0, 0, 0, 0, 0, 0), (12, .invokevirtual 149, 3, 174, 3, 0, 1267, 0, 22), (15, .goto 5, 3, 20, 0, 0, 0, 0, 0), (18, .bipush (-2), 2, 0, 0, 0, 0, 0, 0), (20, .ireturn, 1, 0, 0, 0, 0, 0, 0)]
set_option maxRecDepth 100000 in
theorem jk_X12_at : ji_X12_at.all (jck 187) = true := by decide +kernel
def ji_X12_length : List JI := [(0, .aload_n 0, 1, 0, 0, 0, 0, 0, 0), (1, .iload_n 1, 1, 0, 0, 0, 0, 0, 0), (2, .invokevirtual 142, 3, 171, 2, 0, 1275, 0, 22), (5, .ifCond .eq 12, 3, 17, 0, 0, 0, 0, 0), (8, .aload_n 0, 1, 0, 0, 0, 0, 0, 0), (9, .getfield 7, 3, 1301, 1, 12, 1098, 0, 22), (12, .iload_n 1, 1, 0, 0, 0, 0, 0, 0), (13, .iaload, 1, 0, 0, 0, 0, 0, 0), (14, .goto 5, 3, 19, 0, 0, 0, 0, 0), (17, .bipush (-2), 2, 0, 0, 0, 0, 0, 0), (19, .ireturn, 1, 0, 0, 0, 0, 0, 0)]
set_option maxRecDepth 100000 in
theorem jk_X12_length : ji_X12_length.all (jck 188) = true := by decide +kernel
def ji_X12_isPair : List JI := [(0, .iload_n 2, 1, 0, 0, 0, 0, 0, 0), (1, .iconst 1, 1, 0, 0, 0, 0, 0, 0), (2, .iadd, 1, 0, 0, 0, 0, 0, 0), (3, .aload_n 0, 1, 0, 0, 0, 0, 0, 0), (4, .getfield 7, 3, 1301, 1, 12, 1098, 0, 22), (7, .iload_n 1, 1, 0, 0, 0, 0, 0, 0), (8, .iaload, 1, 0, 0, 0, 0, 0, 0), (9, .if_icmp .ge 47, 3, 56, 0, 0, 0, 0, 0), (12, .aload_n 0, 1, 0, 0, 0, 0, 0, 0), (13, .iload_n 1, 1, 0, 0, 0, 0, 0, 0), (14, .iload_n 2, 1, 0, 0, 0, 0, 0, 0), (15, .invokevirtual 149, 3, 174, 3, 0, 1267, 0, 22), (18, .i2l, 1, 0, 0, 0, 0, 0, 0), (19, .ldc2_w 183, 3, 0, 0, 0, 1345, 0, 55296), (22, .ldc2_w 185, 3, 0, 0, 0, 1346, 0, 56319), (25, .invokestatic 138, 3, 170, 3, 0, 1279, 0, 0), (28, .ifCond .eq 28, 3, 56, 0, 0, 0, 0, 0), (31, .aload_n 0, 1, 0, 0, 0, 0, 0, 0), (32, .iload_n 1, 1, 0, 0, 0, 0, 0, 0), (33, .iload_n 2, 1, 0, 0, 0, 0, 0, 0), (34, .iconst 1, 1, 0, 0, 0, 0, 0, 0), (35, .iadd, 1, 0, 0, 0, 0, 0, 0), (36, .invokevirtual 149, 3, 174, 3, 0, 1267, 0, 22), (39, .i2l, 1, 0, 0, 0, 0, 0, 0), (40, .ldc2_w 187, 3, 0, 0, 0, 1347, 0, 56320), (43, .ldc2_w 189, 3, 0, 0, 0, 1348, 0, 57343), (46, .invokestatic 138, 3, 170, 3, 0, 1279, 0, 0), (49, .ifCond .eq 7, 3, 56, 0, 0, 0, 0, 0), (52, .iconst 1, 1, 0, 0, 0, 0, 0, 0), (53, .goto 4, 3, 57, 0, 0, 0, 0, 0), (56, .iconst 0, 1, 0, 0, 0, 0, 0, 0), (57, .ireturn, 1, 0, 5, 0, 0, 0, 0)]
set_option maxRecDepth 100000 in
theorem jk_X12_isPair : ji_X12_isPair.all (jck 189) = true := by decide +kernel
end
section
/-! instructions, by wip/whole/gen4.py -/
def ji_X12_pointFrom : List JI := [(0, .aload_n 0, 1, 0, 0, 0, 0, 0, 0), (1, .iload_n 1, 1, 0, 0, 0, 0, 0, 0), (2, .iload_n 2, 1, 0, 0, 0, 0, 0, 0), (3, .invokevirtual 191, 3, 189, 3, 0, 1341, 0, 22), (6, .ifCond .eq 33, 3, 39, 0, 0, 0, 0, 0), (9, .ldc 173, 2, 0, 0, 0, 1295, 0, 65536), (11, .aload_n 0, 1, 0, 0, 0, 0, 0, 0), (12, .iload_n 1, 1, 0, 0, 0, 0, 0, 0), (13, .iload_n 2, 1, 0, 0, 0, 0, 0, 0), (14, .invokevirtual 149, 3, 174, 3, 0, 1267, 0, 22), (17, .ldc 172, 2, 0, 0, 0, 1294, 0, 55296), (19, .isub, 1, 0, 0, 0, 0, 0, 0), (20, .bipush 10, 2, 0, 0, 0, 0, 0, 0), (22, .ishl, 1, 0, 0, 0, 0, 0, 0), (23, .iadd, 1, 0, 0, 0, 0, 0, 0), (24, .aload_n 0, 1, 0, 0, 0, 0, 0, 0), (25, .iload_n 1, 1, 0, 0, 0, 0, 0, 0), (26, .iload_n 2, 1, 0, 0, 0, 0, 0, 0), (27, .iconst 1, 1, 0, 0, 0, 0, 0, 0), (28, .iadd, 1, 0, 0, 0, 0, 0, 0), (29, .invokevirtual 149, 3, 174, 3, 0, 1267, 0, 22), (32, .iadd, 1, 0, 0, 0, 0, 0, 0), (33, .ldc 174, 2, 0, 0, 0, 1296, 0, 56320), (35, .isub, 1, 0, 0, 0, 0, 0, 0), (36, .goto 9, 3, 45, 0, 0, 0, 0, 0), (39, .aload_n 0, 1, 0, 0, 0, 0, 0, 0), (40, .iload_n 1, 1, 0, 0, 0, 0, 0, 0), (41, .iload_n 2, 1, 0, 0, 0, 0, 0, 0), (42, .invokevirtual 149, 3, 174, 3, 0, 1267, 0, 22), (45, .ireturn, 1, 0, 0, 0, 0, 0, 0)]
set_option maxRecDepth 100000 in
theorem jk_X12_pointFrom : ji_X12_pointFrom.all (jck 190) = true := by decide +kernel
def ji_X12_points : List JI := [(0, .aload_n 0, 1, 0, 0, 0, 0, 0, 0), (1, .iload_n 1, 1, 0, 0, 0, 0, 0, 0), (2, .invokevirtual 142, 3, 171, 2, 0, 1275, 0, 22), (5, .ifCond .ne 6, 3, 11, 0, 0, 0, 0, 0), (8, .bipush (-2), 2, 0, 0, 0, 0, 0, 0), (10, .ireturn, 1, 0, 0, 0, 0, 0, 0), (11, .iconst 0, 1, 0, 0, 0, 0, 0, 0), (12, .istore_n 2, 1, 0, 0, 0, 0, 0, 0), (13, .iconst 0, 1, 0, 0, 0, 0, 0, 0), (14, .istore_n 3, 1, 0, 0, 0, 0, 0, 0), (15, .iload_n 3, 1, 0, 0, 0, 0, 0, 0), (16, .aload_n 0, 1, 0, 0, 0, 0, 0, 0), (17, .getfield 7, 3, 1301, 1, 12, 1098, 0, 22), (20, .iload_n 1, 1, 0, 0, 0, 0, 0, 0), (21, .iaload, 1, 0, 0, 0, 0, 0, 0), (22, .if_icmp .ge 26, 3, 48, 0, 0, 0, 0, 0), (25, .iinc 2 1, 3, 0, 0, 0, 0, 0, 0), (28, .iload_n 3, 1, 0, 0, 0, 0, 0, 0), (29, .aload_n 0, 1, 0, 0, 0, 0, 0, 0), (30, .iload_n 1, 1, 0, 0, 0, 0, 0, 0), (31, .iload_n 3, 1, 0, 0, 0, 0, 0, 0), (32, .invokevirtual 191, 3, 189, 3, 0, 1341, 0, 22), (35, .ifCond .eq 7, 3, 42, 0, 0, 0, 0, 0), (38, .iconst 2, 1, 0, 0, 0, 0, 0, 0), (39, .goto 4, 3, 43, 0, 0, 0, 0, 0), (42, .iconst 1, 1, 0, 0, 0, 0, 0, 0), (43, .iadd, 1, 0, 0, 0, 0, 0, 0), (44, .istore_n 3, 1, 0, 0, 0, 0, 0, 0), (45, .goto (-30), 3, 15, 0, 0, 0, 0, 0), (48, .iload_n 2, 1, 0, 0, 0, 0, 0, 0), (49, .ireturn, 1, 0, 0, 0, 0, 0, 0)]
set_option maxRecDepth 100000 in
theorem jk_X12_points : ji_X12_points.all (jck 191) = true := by decide +kernel
def ji_X12_pointAt : List JI := [(0, .aload_n 0, 1, 0, 0, 0, 0, 0, 0), (1, .iload_n 1, 1, 0, 0, 0, 0, 0, 0), (2, .invokevirtual 142, 3, 171, 2, 0, 1275, 0, 22), (5, .ifCond .ne 6, 3, 11, 0, 0, 0, 0, 0), (8, .bipush (-2), 2, 0, 0, 0, 0, 0, 0), (10, .ireturn, 1, 0, 0, 0, 0, 0, 0), (11, .iconst 0, 1, 0, 0, 0, 0, 0, 0), (12, .istore_n 3, 1, 0, 0, 0, 0, 0, 0), (13, .iconst 0, 1, 0, 0, 0, 0, 0, 0), (14, .istore 4, 2, 0, 0, 0, 0, 0, 0), (16, .iload 4, 2, 0, 0, 0, 0, 0, 0), (18, .aload_n 0, 1, 0, 0, 0, 0, 0, 0), (19, .getfield 7, 3, 1301, 1, 12, 1098, 0, 22), (22, .iload_n 1, 1, 0, 0, 0, 0, 0, 0), (23, .iaload, 1, 0, 0, 0, 0, 0, 0), (24, .if_icmp .ge 42, 3, 66, 0, 0, 0, 0, 0), (27, .iload_n 3, 1, 0, 0, 0, 0, 0, 0), (28, .iload_n 2, 1, 0, 0, 0, 0, 0, 0), (29, .if_icmp .ne 11, 3, 40, 0, 0, 0, 0, 0), (32, .aload_n 0, 1, 0, 0, 0, 0, 0, 0), (33, .iload_n 1, 1, 0, 0, 0, 0, 0, 0), (34, .iload 4, 2, 0, 0, 0, 0, 0, 0), (36, .invokevirtual 194, 3, 190, 3, 0, 1353, 0, 22), (39, .ireturn, 1, 0, 0, 0, 0, 0, 0), (40, .iinc 3 1, 3, 0, 0, 0, 0, 0, 0), (43, .iload 4, 2, 0, 0, 0, 0, 0, 0), (45, .aload_n 0, 1, 0, 0, 0, 0, 0, 0), (46, .iload_n 1, 1, 0, 0, 0, 0, 0, 0), (47, .iload 4, 2, 0, 0, 0, 0, 0, 0), (49, .invokevirtual 191, 3, 189, 3, 0, 1341, 0, 22), (52, .ifCond .eq 7, 3, 59, 0, 0, 0, 0, 0), (55, .iconst 2, 1, 0, 0, 0, 0, 0, 0), (56, .goto 4, 3, 60, 0, 0, 0, 0, 0), (59, .iconst 1, 1, 0, 0, 0, 0, 0, 0), (60, .iadd, 1, 0, 0, 0, 0, 0, 0), (61, .istore 4, 2, 0, 0, 0, 0, 0, 0), (63, .goto (-47), 3, 16, 0, 0, 0, 0, 0), (66, .iconst (-1), 1, 0, 0, 0, 0, 0, 0), (67, .ireturn, 1, 0, 0, 0, 0, 0, 0)]
set_option maxRecDepth 100000 in
theorem jk_X12_pointAt : ji_X12_pointAt.all (jck 192) = true := by decide +kernel
def ji_X12_half : List JI := [(0, .aload_n 0, 1, 0, 0, 0, 0, 0, 0), (1, .iload_n 1, 1, 0, 0, 0, 0, 0, 0), (2, .invokevirtual 142, 3, 171, 2, 0, 1275, 0, 22), (5, .ifCond .ne 6, 3, 11, 0, 0, 0, 0, 0), (8, .bipush (-2), 2, 0, 0, 0, 0, 0, 0), (10, .ireturn, 1, 0, 0, 0, 0, 0, 0), (11, .iconst 0, 1, 0, 0, 0, 0, 0, 0), (12, .istore_n 3, 1, 0, 0, 0, 0, 0, 0), (13, .iconst 0, 1, 0, 0, 0, 0, 0, 0), (14, .istore 4, 2, 0, 0, 0, 0, 0, 0), (16, .iload 4, 2, 0, 0, 0, 0, 0, 0), (18, .aload_n 0, 1, 0, 0, 0, 0, 0, 0), (19, .getfield 7, 3, 1301, 1, 12, 1098, 0, 22), (22, .iload_n 1, 1, 0, 0, 0, 0, 0, 0), (23, .iaload, 1, 0, 0, 0, 0, 0, 0), (24, .if_icmp .ge 67, 3, 91, 0, 0, 0, 0, 0), (27, .aload_n 0, 1, 0, 0, 0, 0, 0, 0), (28, .iload_n 1, 1, 0, 0, 0, 0, 0, 0), (29, .iload 4, 2, 0, 0, 0, 0, 0, 0), (31, .invokevirtual 191, 3, 189, 3, 0, 1341, 0, 22), (34, .ifCond .ne 34, 3, 68, 0, 0, 0, 0, 0), (37, .aload_n 0, 1, 0, 0, 0, 0, 0, 0), (38, .iload_n 1, 1, 0, 0, 0, 0, 0, 0), (39, .iload 4, 2, 0, 0, 0, 0, 0, 0), (41, .invokevirtual 149, 3, 174, 3, 0, 1267, 0, 22), (44, .i2l, 1, 0, 0, 0, 0, 0, 0), (45, .ldc2_w 183, 3, 0, 0, 0, 1345, 0, 55296), (48, .ldc2_w 189, 3, 0, 0, 0, 1348, 0, 57343), (51, .invokestatic 138, 3, 170, 3, 0, 1279, 0, 0), (54, .ifCond .eq 14, 3, 68, 0, 0, 0, 0, 0), (57, .iload_n 3, 1, 0, 0, 0, 0, 0, 0), (58, .iload_n 2, 1, 0, 0, 0, 0, 0, 0), (59, .if_icmp .ne 6, 3, 65, 0, 0, 0, 0, 0), (62, .iload 4, 2, 0, 0, 0, 0, 0, 0), (64, .ireturn, 1, 0, 0, 0, 0, 0, 0), (65, .iinc 3 1, 3, 0, 0, 0, 0, 0, 0), (68, .iload 4, 2, 0, 0, 0, 0, 0, 0), (70, .aload_n 0, 1, 0, 0, 0, 0, 0, 0), (71, .iload_n 1, 1, 0, 0, 0, 0, 0, 0), (72, .iload 4, 2, 0, 0, 0, 0, 0, 0), (74, .invokevirtual 191, 3, 189, 3, 0, 1341, 0, 22), (77, .ifCond .eq 7, 3, 84, 0, 0, 0, 0, 0), (80, .iconst 2, 1, 0, 0, 0, 0, 0, 0), (81, .goto 4, 3, 85, 0, 0, 0, 0, 0), (84, .iconst 1, 1, 0, 0, 0, 0, 0, 0), (85, .iadd, 1, 0, 0, 0, 0, 0, 0), (86, .istore 4, 2, 0, 0, 0, 0, 0, 0), (88, .goto (-72), 3, 16, 0, 0, 0, 0, 0), (91, .iconst (-1), 1, 0, 0, 0, 0, 0, 0), (92, .ireturn, 1, 0, 0, 0, 0, 0, 0)]
set_option maxRecDepth 100000 in
theorem jk_X12_half : ji_X12_half.all (jck 193) = true := by decide +kernel
def ji_X12_order : List JI := [(0, .aload_n 0, 1, 0, 0, 0, 0, 0, 0), (1, .iload_n 1, 1, 0, 0, 0, 0, 0, 0), (2, .invokevirtual 142, 3, 171, 2, 0, 1275, 0, 22), (5, .ifCond .eq 11, 3, 16, 0, 0, 0, 0, 0), (8, .aload_n 0, 1, 0, 0, 0, 0, 0, 0), (9, .iload_n 2, 1, 0, 0, 0, 0, 0, 0), (10, .invokevirtual 142, 3, 171, 2, 0, 1275, 0, 22), (13, .ifCond .ne 6, 3, 19, 0, 0, 0, 0, 0), (16, .bipush (-2), 2, 0, 0, 0, 0, 0, 0), (18, .ireturn, 1, 0, 0, 0, 0, 0, 0), (19, .iconst 0, 1, 0, 0, 0, 0, 0, 0), (20, .istore 4, 2, 0, 0, 0, 0, 0, 0), (22, .iconst 0, 1, 0, 0, 0, 0, 0, 0), (23, .istore 5, 2, 0, 0, 0, 0, 0, 0), (25, .iload 4, 2, 0, 0, 0, 0, 0, 0), (27, .aload_n 0, 1, 0, 0, 0, 0, 0, 0), (28, .getfield 7, 3, 1301, 1, 12, 1098, 0, 22), (31, .iload_n 1, 1, 0, 0, 0, 0, 0, 0), (32, .iaload, 1, 0, 0, 0, 0, 0, 0), (33, .if_icmp .ge 131, 3, 164, 0, 0, 0, 0, 0), (36, .iload 5, 2, 0, 0, 0, 0, 0, 0), (38, .aload_n 0, 1, 0, 0, 0, 0, 0, 0), (39, .getfield 7, 3, 1301, 1, 12, 1098, 0, 22), (42, .iload_n 2, 1, 0, 0, 0, 0, 0, 0), (43, .iaload, 1, 0, 0, 0, 0, 0, 0), (44, .if_icmp .ge 120, 3, 164, 0, 0, 0, 0, 0), (47, .iload_n 3, 1, 0, 0, 0, 0, 0, 0), (48, .ifCond .eq 13, 3, 61, 0, 0, 0, 0, 0), (51, .aload_n 0, 1, 0, 0, 0, 0, 0, 0), (52, .iload_n 1, 1, 0, 0, 0, 0, 0, 0), (53, .iload 4, 2, 0, 0, 0, 0, 0, 0), (55, .invokevirtual 194, 3, 190, 3, 0, 1353, 0, 22), (58, .goto 10, 3, 68, 0, 0, 0, 0, 0), (61, .aload_n 0, 1, 0, 0, 0, 0, 0, 0), (62, .iload_n 1, 1, 0, 0, 0, 0, 0, 0), (63, .iload 4, 2, 0, 0, 0, 0, 0, 0), (65, .invokevirtual 149, 3, 174, 3, 0, 1267, 0, 22), (68, .istore 6, 2, 0, 0, 0, 0, 0, 0), (70, .iload_n 3, 1, 0, 0, 0, 0, 0, 0), (71, .ifCond .eq 13, 3, 84, 0, 0, 0, 0, 0), (74, .aload_n 0, 1, 0, 0, 0, 0, 0, 0), (75, .iload_n 2, 1, 0, 0, 0, 0, 0, 0), (76, .iload 5, 2, 0, 0, 0, 0, 0, 0), (78, .invokevirtual 194, 3, 190, 3, 0, 1353, 0, 22), (81, .goto 10, 3, 91, 0, 0, 0, 0, 0), (84, .aload_n 0, 1, 0, 0, 0, 0, 0, 0), (85, .iload_n 2, 1, 0, 0, 0, 0, 0, 0), (86, .iload 5, 2, 0, 0, 0, 0, 0, 0), (88, .invokevirtual 149, 3, 174, 3, 0, 1267, 0, 22), (91, .istore 7, 2, 0, 0, 0, 0, 0, 0), (93, .iload 6, 2, 0, 0, 0, 0, 0, 0), (95, .iload 7, 2, 0, 0, 0, 0, 0, 0), (97, .if_icmp .eq 16, 3, 113, 0, 0, 0, 0, 0), (100, .iload 6, 2, 0, 0, 0, 0, 0, 0), (102, .iload 7, 2, 0, 0, 0, 0, 0, 0), (104, .if_icmp .ge 7, 3, 111, 0, 0, 0, 0, 0), (107, .iconst (-1), 1, 0, 0, 0, 0, 0, 0), (108, .goto 4, 3, 112, 0, 0, 0, 0, 0), (111, .iconst 1, 1, 0, 0, 0, 0, 0, 0), (112, .ireturn, 1, 0, 0, 0, 0, 0, 0), (113, .iload 4, 2, 0, 0, 0, 0, 0, 0), (115, .iload_n 3, 1, 0, 0, 0, 0, 0, 0), (116, .ifCond .eq 17, 3, 133, 0, 0, 0, 0, 0), (119, .aload_n 0, 1, 0, 0, 0, 0, 0, 0), (120, .iload_n 1, 1, 0, 0, 0, 0, 0, 0), (121, .iload 4, 2, 0, 0, 0, 0, 0, 0), (123, .invokevirtual 191, 3, 189, 3, 0, 1341, 0, 22), (126, .ifCond .eq 7, 3, 133, 0, 0, 0, 0, 0), (129, .iconst 2, 1, 0, 0, 0, 0, 0, 0), (130, .goto 4, 3, 134, 0, 0, 0, 0, 0), (133, .iconst 1, 1, 0, 0, 0, 0, 0, 0), (134, .iadd, 1, 0, 0, 0, 0, 0, 0), (135, .istore 4, 2, 0, 0, 0, 0, 0, 0), (137, .iload 5, 2, 0, 0, 0, 0, 0, 0), (139, .iload_n 3, 1, 0, 0, 0, 0, 0, 0), (140, .ifCond .eq 17, 3, 157, 0, 0, 0, 0, 0), (143, .aload_n 0, 1, 0, 0, 0, 0, 0, 0), (144, .iload_n 2, 1, 0, 0, 0, 0, 0, 0), (145, .iload 5, 2, 0, 0, 0, 0, 0, 0), (147, .invokevirtual 191, 3, 189, 3, 0, 1341, 0, 22), (150, .ifCond .eq 7, 3, 157, 0, 0, 0, 0, 0), (153, .iconst 2, 1, 0, 0, 0, 0, 0, 0), (154, .goto 4, 3, 158, 0, 0, 0, 0, 0), (157, .iconst 1, 1, 0, 0, 0, 0, 0, 0), (158, .iadd, 1, 0, 0, 0, 0, 0, 0), (159, .istore 5, 2, 0, 0, 0, 0, 0, 0), (161, .goto (-136), 3, 25, 0, 0, 0, 0, 0), (164, .iload 4, 2, 0, 0, 0, 0, 0, 0), (166, .aload_n 0, 1, 0, 0, 0, 0, 0, 0), (167, .getfield 7, 3, 1301, 1, 12, 1098, 0, 22), (170, .iload_n 1, 1, 0, 0, 0, 0, 0, 0), (171, .iaload, 1, 0, 0, 0, 0, 0, 0), (172, .if_icmp .ge 7, 3, 179, 0, 0, 0, 0, 0), (175, .iconst 1, 1, 0, 0, 0, 0, 0, 0), (176, .goto 19, 3, 195, 0, 0, 0, 0, 0), (179, .iload 5, 2, 0, 0, 0, 0, 0, 0), (181, .aload_n 0, 1, 0, 0, 0, 0, 0, 0), (182, .getfield 7, 3, 1301, 1, 12, 1098, 0, 22), (185, .iload_n 2, 1, 0, 0, 0, 0, 0, 0), (186, .iaload, 1, 0, 0, 0, 0, 0, 0), (187, .if_icmp .ge 7, 3, 194, 0, 0, 0, 0, 0), (190, .iconst (-1), 1, 0, 0, 0, 0, 0, 0), (191, .goto 4, 3, 195, 0, 0, 0, 0, 0), (194, .iconst 0, 1, 0, 0, 0, 0, 0, 0), (195, .ireturn, 1, 0, 0, 0, 0, 0, 0)]
set_option maxRecDepth 100000 in
theorem jk_X12_order : ji_X12_order.all (jck 194) = true := by decide +kernel
def ji_X12_equalParts : List JI := [(0, .aload_n 0, 1, 0, 0, 0, 0, 0, 0), (1, .iload_n 1, 1, 0, 0, 0, 0, 0, 0), (2, .invokevirtual 142, 3, 171, 2, 0, 1275, 0, 22), (5, .ifCond .eq 74, 3, 79, 0, 0, 0, 0, 0), (8, .aload_n 0, 1, 0, 0, 0, 0, 0, 0), (9, .iload_n 3, 1, 0, 0, 0, 0, 0, 0), (10, .invokevirtual 142, 3, 171, 2, 0, 1275, 0, 22), (13, .ifCond .eq 66, 3, 79, 0, 0, 0, 0, 0), (16, .iload 5, 2, 0, 0, 0, 0, 0, 0), (18, .ifCond .lt 61, 3, 79, 0, 0, 0, 0, 0), (21, .iload_n 2, 1, 0, 0, 0, 0, 0, 0), (22, .ifCond .lt 57, 3, 79, 0, 0, 0, 0, 0), (25, .iload 4, 2, 0, 0, 0, 0, 0, 0), (27, .ifCond .lt 52, 3, 79, 0, 0, 0, 0, 0), (30, .iload 5, 2, 0, 0, 0, 0, 0, 0), (32, .aload_n 0, 1, 0, 0, 0, 0, 0, 0), (33, .getfield 7, 3, 1301, 1, 12, 1098, 0, 22), (36, .iload_n 1, 1, 0, 0, 0, 0, 0, 0), (37, .iaload, 1, 0, 0, 0, 0, 0, 0), (38, .if_icmp .gt 41, 3, 79, 0, 0, 0, 0, 0), (41, .iload_n 2, 1, 0, 0, 0, 0, 0, 0), (42, .aload_n 0, 1, 0, 0, 0, 0, 0, 0), (43, .getfield 7, 3, 1301, 1, 12, 1098, 0, 22), (46, .iload_n 1, 1, 0, 0, 0, 0, 0, 0), (47, .iaload, 1, 0, 0, 0, 0, 0, 0), (48, .iload 5, 2, 0, 0, 0, 0, 0, 0), (50, .isub, 1, 0, 0, 0, 0, 0, 0), (51, .if_icmp .gt 28, 3, 79, 0, 0, 0, 0, 0), (54, .iload 5, 2, 0, 0, 0, 0, 0, 0), (56, .aload_n 0, 1, 0, 0, 0, 0, 0, 0), (57, .getfield 7, 3, 1301, 1, 12, 1098, 0, 22), (60, .iload_n 3, 1, 0, 0, 0, 0, 0, 0), (61, .iaload, 1, 0, 0, 0, 0, 0, 0), (62, .if_icmp .gt 17, 3, 79, 0, 0, 0, 0, 0), (65, .iload 4, 2, 0, 0, 0, 0, 0, 0), (67, .aload_n 0, 1, 0, 0, 0, 0, 0, 0), (68, .getfield 7, 3, 1301, 1, 12, 1098, 0, 22), (71, .iload_n 3, 1, 0, 0, 0, 0, 0, 0), (72, .iaload, 1, 0, 0, 0, 0, 0, 0), (73, .iload 5, 2, 0, 0, 0, 0, 0, 0), (75, .isub, 1, 0, 0, 0, 0, 0, 0), (76, .if_icmp .le 6, 3, 82, 0, 0, 0, 0, 0), (79, .bipush (-2), 2, 0, 0, 0, 0, 0, 0), (81, .ireturn, 1, 0, 0, 0, 0, 0, 0), (82, .iconst 0, 1, 0, 0, 0, 0, 0, 0), (83, .istore 6, 2, 0, 0, 0, 0, 0, 0), (85, .iload 6, 2, 0, 0, 0, 0, 0, 0), (87, .iload 5, 2, 0, 0, 0, 0, 0, 0), (89, .if_icmp .ge 33, 3, 122, 0, 0, 0, 0, 0), (92, .aload_n 0, 1, 0, 0, 0, 0, 0, 0), (93, .iload_n 1, 1, 0, 0, 0, 0, 0, 0), (94, .iload_n 2, 1, 0, 0, 0, 0, 0, 0), (95, .iload 6, 2, 0, 0, 0, 0, 0, 0), (97, .iadd, 1, 0, 0, 0, 0, 0, 0), (98, .invokevirtual 149, 3, 174, 3, 0, 1267, 0, 22), (101, .aload_n 0, 1, 0, 0, 0, 0, 0, 0), (102, .iload_n 3, 1, 0, 0, 0, 0, 0, 0), (103, .iload 4, 2, 0, 0, 0, 0, 0, 0), (105, .iload 6, 2, 0, 0, 0, 0, 0, 0), (107, .iadd, 1, 0, 0, 0, 0, 0, 0), (108, .invokevirtual 149, 3, 174, 3, 0, 1267, 0, 22), (111, .if_icmp .eq 5, 3, 116, 0, 0, 0, 0, 0), (114, .iconst 0, 1, 0, 0, 0, 0, 0, 0), (115, .ireturn, 1, 0, 0, 0, 0, 0, 0), (116, .iinc 6 1, 3, 0, 0, 0, 0, 0, 0), (119, .goto (-34), 3, 85, 0, 0, 0, 0, 0), (122, .iconst 1, 1, 0, 0, 0, 0, 0, 0), (123, .ireturn, 1, 0, 0, 0, 0, 0, 0)]
set_option maxRecDepth 100000 in
theorem jk_X12_equalParts : ji_X12_equalParts.all (jck 195) = true := by decide +kernel
def ji_X12_look : List JI := [(0, .aload_n 0, 1, 0, 0, 0, 0, 0, 0), (1, .getfield 7, 3, 1301, 1, 12, 1098, 0, 22), (4, .iload_n 1, 1, 0, 0, 0, 0, 0, 0), (5, .iaload, 1, 0, 0, 0, 0, 0, 0), (6, .istore_n 3, 1, 0, 0, 0, 0, 0, 0), (7, .aload_n 0, 1, 0, 0, 0, 0, 0, 0), (8, .getfield 7, 3, 1301, 1, 12, 1098, 0, 22), (11, .iload_n 2, 1, 0, 0, 0, 0, 0, 0), (12, .iaload, 1, 0, 0, 0, 0, 0, 0), (13, .istore 4, 2, 0, 0, 0, 0, 0, 0), (15, .iload_n 3, 1, 0, 0, 0, 0, 0, 0), (16, .istore 5, 2, 0, 0, 0, 0, 0, 0), (18, .iload 5, 2, 0, 0, 0, 0, 0, 0), (20, .ifCond .lt 92, 3, 112, 0, 0, 0, 0, 0), (23, .iload 4, 2, 0, 0, 0, 0, 0, 0), (25, .istore 6, 2, 0, 0, 0, 0, 0, 0), (27, .iload 6, 2, 0, 0, 0, 0, 0, 0), (29, .ifCond .lt 77, 3, 106, 0, 0, 0, 0, 0), (32, .aload_n 0, 1, 0, 0, 0, 0, 0, 0), (33, .getfield 30, 3, 1308, 1, 12, 1105, 0, 22), (36, .sipush 241, 3, 0, 0, 0, 0, 0, 0), (39, .iload 5, 2, 0, 0, 0, 0, 0, 0), (41, .imul, 1, 0, 0, 0, 0, 0, 0), (42, .iload 6, 2, 0, 0, 0, 0, 0, 0), (44, .iadd, 1, 0, 0, 0, 0, 0, 0), (45, .iload 5, 2, 0, 0, 0, 0, 0, 0), (47, .iload_n 3, 1, 0, 0, 0, 0, 0, 0), (48, .if_icmp .eq 27, 3, 75, 0, 0, 0, 0, 0), (51, .iload 6, 2, 0, 0, 0, 0, 0, 0), (53, .iload 4, 2, 0, 0, 0, 0, 0, 0), (55, .if_icmp .eq 20, 3, 75, 0, 0, 0, 0, 0), (58, .aload_n 0, 1, 0, 0, 0, 0, 0, 0), (59, .iload_n 1, 1, 0, 0, 0, 0, 0, 0), (60, .iload 5, 2, 0, 0, 0, 0, 0, 0), (62, .invokevirtual 149, 3, 174, 3, 0, 1267, 0, 22), (65, .aload_n 0, 1, 0, 0, 0, 0, 0, 0), (66, .iload_n 2, 1, 0, 0, 0, 0, 0, 0), (67, .iload 6, 2, 0, 0, 0, 0, 0, 0), (69, .invokevirtual 149, 3, 174, 3, 0, 1267, 0, 22), (72, .if_icmp .eq 7, 3, 79, 0, 0, 0, 0, 0), (75, .iconst 0, 1, 0, 0, 0, 0, 0, 0), (76, .goto 23, 3, 99, 0, 0, 0, 0, 0), (79, .iconst 1, 1, 0, 0, 0, 0, 0, 0), (80, .aload_n 0, 1, 0, 0, 0, 0, 0, 0), (81, .getfield 30, 3, 1308, 1, 12, 1105, 0, 22), (84, .sipush 241, 3, 0, 0, 0, 0, 0, 0), (87, .iload 5, 2, 0, 0, 0, 0, 0, 0), (89, .iconst 1, 1, 0, 0, 0, 0, 0, 0), (90, .iadd, 1, 0, 0, 0, 0, 0, 0), (91, .imul, 1, 0, 0, 0, 0, 0, 0), (92, .iload 6, 2, 0, 0, 0, 0, 0, 0), (94, .iadd, 1, 0, 0, 0, 0, 0, 0), (95, .iconst 1, 1, 0, 0, 0, 0, 0, 0), (96, .iadd, 1, 0, 0, 0, 0, 0, 0), (97, .iaload, 1, 0, 0, 0, 0, 0, 0), (98, .iadd, 1, 0, 0, 0, 0, 0, 0), (99, .iastore, 1, 0, 0, 0, 0, 0, 0), (100, .iinc 6 (-1), 3, 0, 0, 0, 0, 0, 0), (103, .goto (-76), 3, 27, 0, 0, 0, 0, 0), (106, .iinc 5 (-1), 3, 0, 0, 0, 0, 0, 0), (109, .goto (-91), 3, 18, 0, 0, 0, 0, 0), (112, .return_, 1, 0, 0, 0, 0, 0, 0)]
set_option maxRecDepth 100000 in
theorem jk_X12_look : ji_X12_look.all (jck 196) = true := by decide +kernel
def ji_X12_isLess : List JI := [(0, .aload_n 0, 1, 0, 0, 0, 0, 0, 0), (1, .getfield 30, 3, 1308, 1, 12, 1105, 0, 22), (4, .sipush 241, 3, 0, 0, 0, 0, 0, 0), (7, .iload_n 2, 1, 0, 0, 0, 0, 0, 0), (8, .imul, 1, 0, 0, 0, 0, 0, 0), (9, .iload_n 3, 1, 0, 0, 0, 0, 0, 0), (10, .iadd, 1, 0, 0, 0, 0, 0, 0), (11, .iaload, 1, 0, 0, 0, 0, 0, 0), (12, .istore 4, 2, 0, 0, 0, 0, 0, 0), (14, .iload_n 2, 1, 0, 0, 0, 0, 0, 0), (15, .iload 4, 2, 0, 0, 0, 0, 0, 0), (17, .iadd, 1, 0, 0, 0, 0, 0, 0), (18, .aload_n 0, 1, 0, 0, 0, 0, 0, 0), (19, .getfield 7, 3, 1301, 1, 12, 1098, 0, 22), (22, .iload_n 1, 1, 0, 0, 0, 0, 0, 0), (23, .iaload, 1, 0, 0, 0, 0, 0, 0), (24, .if_icmp .ne 24, 3, 48, 0, 0, 0, 0, 0), (27, .iload_n 3, 1, 0, 0, 0, 0, 0, 0), (28, .iload 4, 2, 0, 0, 0, 0, 0, 0), (30, .iadd, 1, 0, 0, 0, 0, 0, 0), (31, .aload_n 0, 1, 0, 0, 0, 0, 0, 0), (32, .getfield 7, 3, 1301, 1, 12, 1098, 0, 22), (35, .iload_n 1, 1, 0, 0, 0, 0, 0, 0), (36, .iaload, 1, 0, 0, 0, 0, 0, 0), (37, .if_icmp .ge 7, 3, 44, 0, 0, 0, 0, 0), (40, .iconst 1, 1, 0, 0, 0, 0, 0, 0), (41, .goto 46, 3, 87, 0, 0, 0, 0, 0), (44, .iconst 0, 1, 0, 0, 0, 0, 0, 0), (45, .goto 42, 3, 87, 0, 0, 0, 0, 0), (48, .iload_n 3, 1, 0, 0, 0, 0, 0, 0), (49, .iload 4, 2, 0, 0, 0, 0, 0, 0), (51, .iadd, 1, 0, 0, 0, 0, 0, 0), (52, .aload_n 0, 1, 0, 0, 0, 0, 0, 0), (53, .getfield 7, 3, 1301, 1, 12, 1098, 0, 22), (56, .iload_n 1, 1, 0, 0, 0, 0, 0, 0), (57, .iaload, 1, 0, 0, 0, 0, 0, 0), (58, .if_icmp .ge 28, 3, 86, 0, 0, 0, 0, 0), (61, .aload_n 0, 1, 0, 0, 0, 0, 0, 0), (62, .iload_n 1, 1, 0, 0, 0, 0, 0, 0), (63, .iload_n 2, 1, 0, 0, 0, 0, 0, 0), (64, .iload 4, 2, 0, 0, 0, 0, 0, 0), (66, .iadd, 1, 0, 0, 0, 0, 0, 0), (67, .invokevirtual 149, 3, 174, 3, 0, 1267, 0, 22), (70, .aload_n 0, 1, 0, 0, 0, 0, 0, 0), (71, .iload_n 1, 1, 0, 0, 0, 0, 0, 0), (72, .iload_n 3, 1, 0, 0, 0, 0, 0, 0), (73, .iload 4, 2, 0, 0, 0, 0, 0, 0), (75, .iadd, 1, 0, 0, 0, 0, 0, 0), (76, .invokevirtual 149, 3, 174, 3, 0, 1267, 0, 22), (79, .if_icmp .ge 7, 3, 86, 0, 0, 0, 0, 0), (82, .iconst 1, 1, 0, 0, 0, 0, 0, 0), (83, .goto 4, 3, 87, 0, 0, 0, 0, 0), (86, .iconst 0, 1, 0, 0, 0, 0, 0, 0), (87, .ireturn, 1, 0, 5, 0, 0, 0, 0)]
set_option maxRecDepth 100000 in
theorem jk_X12_isLess : ji_X12_isLess.all (jck 197) = true := by decide +kernel
def ji_X12_orders : List JI := [(0, .aload_n 0, 1, 0, 0, 0, 0, 0, 0), (1, .iload_n 1, 1, 0, 0, 0, 0, 0, 0), (2, .iload_n 1, 1, 0, 0, 0, 0, 0, 0), (3, .invokevirtual 197, 3, 196, 3, 3, 1377, 0, 22), (6, .iconst 0, 1, 0, 0, 0, 0, 0, 0), (7, .istore_n 2, 1, 0, 0, 0, 0, 0, 0), (8, .iload_n 2, 1, 0, 0, 0, 0, 0, 0), (9, .aload_n 0, 1, 0, 0, 0, 0, 0, 0), (10, .getfield 7, 3, 1301, 1, 12, 1098, 0, 22), (13, .iload_n 1, 1, 0, 0, 0, 0, 0, 0), (14, .iaload, 1, 0, 0, 0, 0, 0, 0), (15, .if_icmp .ge 21, 3, 36, 0, 0, 0, 0, 0), (18, .aload_n 0, 1, 0, 0, 0, 0, 0, 0), (19, .getfield 33, 3, 1309, 1, 12, 1106, 0, 22), (22, .aload_n 0, 1, 0, 0, 0, 0, 0, 0), (23, .iload_n 1, 1, 0, 0, 0, 0, 0, 0), (24, .iload_n 2, 1, 0, 0, 0, 0, 0, 0), (25, .invokevirtual 200, 3, 199, 3, 0, 1381, 0, 22), (28, .iload_n 2, 1, 0, 0, 0, 0, 0, 0), (29, .iastore, 1, 0, 0, 0, 0, 0, 0), (30, .iinc 2 1, 3, 0, 0, 0, 0, 0, 0), (33, .goto (-25), 3, 8, 0, 0, 0, 0, 0), (36, .return_, 1, 0, 0, 0, 0, 0, 0)]
set_option maxRecDepth 100000 in
theorem jk_X12_orders : ji_X12_orders.all (jck 198) = true := by decide +kernel
def ji_X12_rankOf : List JI := [(0, .iconst 0, 1, 0, 0, 0, 0, 0, 0), (1, .istore_n 3, 1, 0, 0, 0, 0, 0, 0), (2, .iconst 0, 1, 0, 0, 0, 0, 0, 0), (3, .istore 4, 2, 0, 0, 0, 0, 0, 0), (5, .iload 4, 2, 0, 0, 0, 0, 0, 0), (7, .aload_n 0, 1, 0, 0, 0, 0, 0, 0), (8, .getfield 7, 3, 1301, 1, 12, 1098, 0, 22), (11, .iload_n 1, 1, 0, 0, 0, 0, 0, 0), (12, .iaload, 1, 0, 0, 0, 0, 0, 0), (13, .if_icmp .ge 34, 3, 47, 0, 0, 0, 0, 0), (16, .iload_n 3, 1, 0, 0, 0, 0, 0, 0), (17, .iload 4, 2, 0, 0, 0, 0, 0, 0), (19, .iload_n 2, 1, 0, 0, 0, 0, 0, 0), (20, .if_icmp .eq 18, 3, 38, 0, 0, 0, 0, 0), (23, .aload_n 0, 1, 0, 0, 0, 0, 0, 0), (24, .iload_n 1, 1, 0, 0, 0, 0, 0, 0), (25, .iload 4, 2, 0, 0, 0, 0, 0, 0), (27, .iload_n 2, 1, 0, 0, 0, 0, 0, 0), (28, .invokevirtual 203, 3, 197, 4, 0, 1385, 0, 22), (31, .ifCond .eq 7, 3, 38, 0, 0, 0, 0, 0), (34, .iconst 1, 1, 0, 0, 0, 0, 0, 0), (35, .goto 4, 3, 39, 0, 0, 0, 0, 0), (38, .iconst 0, 1, 0, 0, 0, 0, 0, 0), (39, .iadd, 1, 0, 0, 0, 0, 0, 0), (40, .istore_n 3, 1, 0, 0, 0, 0, 0, 0), (41, .iinc 4 1, 3, 0, 0, 0, 0, 0, 0), (44, .goto (-39), 3, 5, 0, 0, 0, 0, 0), (47, .iload_n 3, 1, 0, 0, 0, 0, 0, 0), (48, .ireturn, 1, 0, 0, 0, 0, 0, 0)]
set_option maxRecDepth 100000 in
theorem jk_X12_rankOf : ji_X12_rankOf.all (jck 199) = true := by decide +kernel
def ji_X12_suffix : List JI := [(0, .aload_n 0, 1, 0, 0, 0, 0, 0, 0), (1, .iload_n 1, 1, 0, 0, 0, 0, 0, 0), (2, .invokevirtual 142, 3, 171, 2, 0, 1275, 0, 22), (5, .ifCond .ne 6, 3, 11, 0, 0, 0, 0, 0), (8, .bipush (-2), 2, 0, 0, 0, 0, 0, 0), (10, .ireturn, 1, 0, 0, 0, 0, 0, 0), (11, .iload_n 2, 1, 0, 0, 0, 0, 0, 0), (12, .i2l, 1, 0, 0, 0, 0, 0, 0), (13, .lconst 0, 1, 0, 0, 0, 0, 0, 0), (14, .aload_n 0, 1, 0, 0, 0, 0, 0, 0), (15, .getfield 7, 3, 1301, 1, 12, 1098, 0, 22), (18, .iload_n 1, 1, 0, 0, 0, 0, 0, 0), (19, .iaload, 1, 0, 0, 0, 0, 0, 0), (20, .iconst 1, 1, 0, 0, 0, 0, 0, 0), (21, .isub, 1, 0, 0, 0, 0, 0, 0), (22, .i2l, 1, 0, 0, 0, 0, 0, 0), (23, .invokestatic 138, 3, 170, 3, 0, 1279, 0, 0), (26, .ifCond .ne 5, 3, 31, 0, 0, 0, 0, 0), (29, .iconst (-1), 1, 0, 0, 0, 0, 0, 0), (30, .ireturn, 1, 0, 0, 0, 0, 0, 0), (31, .aload_n 0, 1, 0, 0, 0, 0, 0, 0), (32, .iload_n 1, 1, 0, 0, 0, 0, 0, 0), (33, .invokevirtual 206, 3, 198, 2, 3, 1373, 0, 22), (36, .aload_n 0, 1, 0, 0, 0, 0, 0, 0), (37, .getfield 33, 3, 1309, 1, 12, 1106, 0, 22), (40, .iload_n 2, 1, 0, 0, 0, 0, 0, 0), (41, .iaload, 1, 0, 0, 0, 0, 0, 0), (42, .ireturn, 1, 0, 0, 0, 0, 0, 0)]
set_option maxRecDepth 100000 in
theorem jk_X12_suffix : ji_X12_suffix.all (jck 200) = true := by decide +kernel
def ji_X12_rank : List JI := [(0, .aload_n 0, 1, 0, 0, 0, 0, 0, 0), (1, .iload_n 1, 1, 0, 0, 0, 0, 0, 0), (2, .iload_n 2, 1, 0, 0, 0, 0, 0, 0), (3, .invokevirtual 179, 3, 172, 3, 0, 1329, 0, 22), (6, .ifCond .ne 6, 3, 12, 0, 0, 0, 0, 0), (9, .bipush (-2), 2, 0, 0, 0, 0, 0, 0), (11, .ireturn, 1, 0, 0, 0, 0, 0, 0), (12, .aload_n 0, 1, 0, 0, 0, 0, 0, 0), (13, .iload_n 1, 1, 0, 0, 0, 0, 0, 0), (14, .iload_n 1, 1, 0, 0, 0, 0, 0, 0), (15, .invokevirtual 197, 3, 196, 3, 3, 1377, 0, 22), (18, .aload_n 0, 1, 0, 0, 0, 0, 0, 0), (19, .iload_n 1, 1, 0, 0, 0, 0, 0, 0), (20, .iload_n 2, 1, 0, 0, 0, 0, 0, 0), (21, .invokevirtual 200, 3, 199, 3, 0, 1381, 0, 22), (24, .ireturn, 1, 0, 0, 0, 0, 0, 0)]
set_option maxRecDepth 100000 in
theorem jk_X12_rank : ji_X12_rank.all (jck 201) = true := by decide +kernel
def ji_X12_common : List JI := [(0, .aload_n 0, 1, 0, 0, 0, 0, 0, 0), (1, .iload_n 1, 1, 0, 0, 0, 0, 0, 0), (2, .iload_n 2, 1, 0, 0, 0, 0, 0, 0), (3, .invokevirtual 179, 3, 172, 3, 0, 1329, 0, 22), (6, .ifCond .eq 12, 3, 18, 0, 0, 0, 0, 0), (9, .aload_n 0, 1, 0, 0, 0, 0, 0, 0), (10, .iload_n 1, 1, 0, 0, 0, 0, 0, 0), (11, .iload_n 3, 1, 0, 0, 0, 0, 0, 0), (12, .invokevirtual 179, 3, 172, 3, 0, 1329, 0, 22), (15, .ifCond .ne 6, 3, 21, 0, 0, 0, 0, 0), (18, .bipush (-2), 2, 0, 0, 0, 0, 0, 0), (20, .ireturn, 1, 0, 0, 0, 0, 0, 0), (21, .aload_n 0, 1, 0, 0, 0, 0, 0, 0), (22, .iload_n 1, 1, 0, 0, 0, 0, 0, 0), (23, .iload_n 1, 1, 0, 0, 0, 0, 0, 0), (24, .invokevirtual 197, 3, 196, 3, 3, 1377, 0, 22), (27, .aload_n 0, 1, 0, 0, 0, 0, 0, 0), (28, .getfield 30, 3, 1308, 1, 12, 1105, 0, 22), (31, .sipush 241, 3, 0, 0, 0, 0, 0, 0), (34, .iload_n 2, 1, 0, 0, 0, 0, 0, 0), (35, .imul, 1, 0, 0, 0, 0, 0, 0), (36, .iload_n 3, 1, 0, 0, 0, 0, 0, 0), (37, .iadd, 1, 0, 0, 0, 0, 0, 0), (38, .iaload, 1, 0, 0, 0, 0, 0, 0), (39, .ireturn, 1, 0, 0, 0, 0, 0, 0)]
set_option maxRecDepth 100000 in
theorem jk_X12_common : ji_X12_common.all (jck 202) = true := by decide +kernel
def ji_X12_border : List JI := [(0, .aload_n 0, 1, 0, 0, 0, 0, 0, 0), (1, .iload_n 1, 1, 0, 0, 0, 0, 0, 0), (2, .invokevirtual 142, 3, 171, 2, 0, 1275, 0, 22), (5, .ifCond .eq 19, 3, 24, 0, 0, 0, 0, 0), (8, .iload_n 2, 1, 0, 0, 0, 0, 0, 0), (9, .i2l, 1, 0, 0, 0, 0, 0, 0), (10, .lconst 1, 1, 0, 0, 0, 0, 0, 0), (11, .aload_n 0, 1, 0, 0, 0, 0, 0, 0), (12, .getfield 7, 3, 1301, 1, 12, 1098, 0, 22), (15, .iload_n 1, 1, 0, 0, 0, 0, 0, 0), (16, .iaload, 1, 0, 0, 0, 0, 0, 0), (17, .i2l, 1, 0, 0, 0, 0, 0, 0), (18, .invokestatic 138, 3, 170, 3, 0, 1279, 0, 0), (21, .ifCond .ne 6, 3, 27, 0, 0, 0, 0, 0), (24, .bipush (-2), 2, 0, 0, 0, 0, 0, 0), (26, .ireturn, 1, 0, 0, 0, 0, 0, 0), (27, .aload_n 0, 1, 0, 0, 0, 0, 0, 0), (28, .iload_n 1, 1, 0, 0, 0, 0, 0, 0), (29, .iload_n 1, 1, 0, 0, 0, 0, 0, 0), (30, .invokevirtual 197, 3, 196, 3, 3, 1377, 0, 22), (33, .iload_n 2, 1, 0, 0, 0, 0, 0, 0), (34, .iconst 1, 1, 0, 0, 0, 0, 0, 0), (35, .isub, 1, 0, 0, 0, 0, 0, 0), (36, .istore_n 3, 1, 0, 0, 0, 0, 0, 0), (37, .iload_n 3, 1, 0, 0, 0, 0, 0, 0), (38, .ifCond .le 23, 3, 61, 0, 0, 0, 0, 0), (41, .aload_n 0, 1, 0, 0, 0, 0, 0, 0), (42, .getfield 30, 3, 1308, 1, 12, 1105, 0, 22), (45, .iload_n 2, 1, 0, 0, 0, 0, 0, 0), (46, .iload_n 3, 1, 0, 0, 0, 0, 0, 0), (47, .isub, 1, 0, 0, 0, 0, 0, 0), (48, .iaload, 1, 0, 0, 0, 0, 0, 0), (49, .iload_n 3, 1, 0, 0, 0, 0, 0, 0), (50, .if_icmp .lt 5, 3, 55, 0, 0, 0, 0, 0), (53, .iload_n 3, 1, 0, 0, 0, 0, 0, 0), (54, .ireturn, 1, 0, 0, 0, 0, 0, 0), (55, .iinc 3 (-1), 3, 0, 0, 0, 0, 0, 0), (58, .goto (-21), 3, 37, 0, 0, 0, 0, 0), (61, .iconst 0, 1, 0, 0, 0, 0, 0, 0), (62, .ireturn, 1, 0, 0, 0, 0, 0, 0)]
set_option maxRecDepth 100000 in
theorem jk_X12_border : ji_X12_border.all (jck 203) = true := by decide +kernel
def ji_X12_stands : List JI := [(0, .iconst 0, 1, 0, 0, 0, 0, 0, 0), (1, .istore 6, 2, 0, 0, 0, 0, 0, 0), (3, .iconst 0, 1, 0, 0, 0, 0, 0, 0), (4, .istore 7, 2, 0, 0, 0, 0, 0, 0), (6, .iload 7, 2, 0, 0, 0, 0, 0, 0), (8, .aload_n 0, 1, 0, 0, 0, 0, 0, 0), (9, .getfield 7, 3, 1301, 1, 12, 1098, 0, 22), (12, .iload_n 2, 1, 0, 0, 0, 0, 0, 0), (13, .iaload, 1, 0, 0, 0, 0, 0, 0), (14, .if_icmp .ge 69, 3, 83, 0, 0, 0, 0, 0), (17, .aload_n 0, 1, 0, 0, 0, 0, 0, 0), (18, .iload_n 1, 1, 0, 0, 0, 0, 0, 0), (19, .iload_n 3, 1, 0, 0, 0, 0, 0, 0), (20, .iload 7, 2, 0, 0, 0, 0, 0, 0), (22, .iadd, 1, 0, 0, 0, 0, 0, 0), (23, .invokevirtual 149, 3, 174, 3, 0, 1267, 0, 22), (26, .istore 8, 2, 0, 0, 0, 0, 0, 0), (28, .aload_n 0, 1, 0, 0, 0, 0, 0, 0), (29, .iload_n 2, 1, 0, 0, 0, 0, 0, 0), (30, .iload 7, 2, 0, 0, 0, 0, 0, 0), (32, .invokevirtual 149, 3, 174, 3, 0, 1267, 0, 22), (35, .istore 9, 2, 0, 0, 0, 0, 0, 0), (37, .iload 6, 2, 0, 0, 0, 0, 0, 0), (39, .iload 8, 2, 0, 0, 0, 0, 0, 0), (41, .iload 9, 2, 0, 0, 0, 0, 0, 0), (43, .if_icmp .eq 17, 3, 60, 0, 0, 0, 0, 0), (46, .iload 8, 2, 0, 0, 0, 0, 0, 0), (48, .iload 4, 2, 0, 0, 0, 0, 0, 0), (50, .if_icmp .eq 10, 3, 60, 0, 0, 0, 0, 0), (53, .iload 9, 2, 0, 0, 0, 0, 0, 0), (55, .iload 4, 2, 0, 0, 0, 0, 0, 0), (57, .if_icmp .ne 7, 3, 64, 0, 0, 0, 0, 0), (60, .iconst 0, 1, 0, 0, 0, 0, 0, 0), (61, .goto 4, 3, 65, 0, 0, 0, 0, 0), (64, .iconst 1, 1, 0, 0, 0, 0, 0, 0), (65, .iadd, 1, 0, 0, 0, 0, 0, 0), (66, .istore 6, 2, 0, 0, 0, 0, 0, 0), (68, .iload 6, 2, 0, 0, 0, 0, 0, 0), (70, .iload 5, 2, 0, 0, 0, 0, 0, 0), (72, .if_icmp .le 5, 3, 77, 0, 0, 0, 0, 0), (75, .iconst 0, 1, 0, 0, 0, 0, 0, 0), (76, .ireturn, 1, 0, 5, 0, 0, 0, 0), (77, .iinc 7 1, 3, 0, 0, 0, 0, 0, 0), (80, .goto (-74), 3, 6, 0, 0, 0, 0, 0), (83, .iconst 1, 1, 0, 0, 0, 0, 0, 0), (84, .ireturn, 1, 0, 5, 0, 0, 0, 0)]
set_option maxRecDepth 100000 in
theorem jk_X12_stands : ji_X12_stands.all (jck 204) = true := by decide +kernel
def ji_X12_place : List JI := [(0, .iconst 0, 1, 0, 0, 0, 0, 0, 0), (1, .istore 6, 2, 0, 0, 0, 0, 0, 0), (3, .iconst 0, 1, 0, 0, 0, 0, 0, 0), (4, .istore 7, 2, 0, 0, 0, 0, 0, 0), (6, .iload 7, 2, 0, 0, 0, 0, 0, 0), (8, .aload_n 0, 1, 0, 0, 0, 0, 0, 0), (9, .getfield 7, 3, 1301, 1, 12, 1098, 0, 22), (12, .iload_n 2, 1, 0, 0, 0, 0, 0, 0), (13, .iaload, 1, 0, 0, 0, 0, 0, 0), (14, .iadd, 1, 0, 0, 0, 0, 0, 0), (15, .aload_n 0, 1, 0, 0, 0, 0, 0, 0), (16, .getfield 7, 3, 1301, 1, 12, 1098, 0, 22), (19, .iload_n 1, 1, 0, 0, 0, 0, 0, 0), (20, .iaload, 1, 0, 0, 0, 0, 0, 0), (21, .if_icmp .gt 36, 3, 57, 0, 0, 0, 0, 0), (24, .aload_n 0, 1, 0, 0, 0, 0, 0, 0), (25, .iload_n 1, 1, 0, 0, 0, 0, 0, 0), (26, .iload_n 2, 1, 0, 0, 0, 0, 0, 0), (27, .iload 7, 2, 0, 0, 0, 0, 0, 0), (29, .iload_n 3, 1, 0, 0, 0, 0, 0, 0), (30, .iload 4, 2, 0, 0, 0, 0, 0, 0), (32, .invokevirtual 210, 3, 204, 6, 0, 1409, 0, 22), (35, .ifCond .eq 16, 3, 51, 0, 0, 0, 0, 0), (38, .iload 6, 2, 0, 0, 0, 0, 0, 0), (40, .iload 5, 2, 0, 0, 0, 0, 0, 0), (42, .if_icmp .ne 6, 3, 48, 0, 0, 0, 0, 0), (45, .iload 7, 2, 0, 0, 0, 0, 0, 0), (47, .ireturn, 1, 0, 0, 0, 0, 0, 0), (48, .iinc 6 1, 3, 0, 0, 0, 0, 0, 0), (51, .iinc 7 1, 3, 0, 0, 0, 0, 0, 0), (54, .goto (-48), 3, 6, 0, 0, 0, 0, 0), (57, .iconst (-1), 1, 0, 0, 0, 0, 0, 0), (58, .ireturn, 1, 0, 0, 0, 0, 0, 0)]
set_option maxRecDepth 100000 in
theorem jk_X12_place : ji_X12_place.all (jck 205) = true := by decide +kernel
def ji_X12_find : List JI := [(0, .aload_n 0, 1, 0, 0, 0, 0, 0, 0), (1, .iload_n 1, 1, 0, 0, 0, 0, 0, 0), (2, .invokevirtual 142, 3, 171, 2, 0, 1275, 0, 22), (5, .ifCond .eq 23, 3, 28, 0, 0, 0, 0, 0), (8, .aload_n 0, 1, 0, 0, 0, 0, 0, 0), (9, .iload_n 2, 1, 0, 0, 0, 0, 0, 0), (10, .invokevirtual 142, 3, 171, 2, 0, 1275, 0, 22), (13, .ifCond .eq 15, 3, 28, 0, 0, 0, 0, 0), (16, .aload_n 0, 1, 0, 0, 0, 0, 0, 0), (17, .iload_n 1, 1, 0, 0, 0, 0, 0, 0), (18, .iload_n 2, 1, 0, 0, 0, 0, 0, 0), (19, .iconst (-1), 1, 0, 0, 0, 0, 0, 0), (20, .iconst 0, 1, 0, 0, 0, 0, 0, 0), (21, .iload_n 3, 1, 0, 0, 0, 0, 0, 0), (22, .invokevirtual 214, 3, 205, 6, 0, 1405, 0, 22), (25, .goto 5, 3, 30, 0, 0, 0, 0, 0), (28, .bipush (-2), 2, 0, 0, 0, 0, 0, 0), (30, .ireturn, 1, 0, 0, 0, 0, 0, 0)]
set_option maxRecDepth 100000 in
theorem jk_X12_find : ji_X12_find.all (jck 206) = true := by decide +kernel
def ji_X12_countOf : List JI := [(0, .aload_n 0, 1, 0, 0, 0, 0, 0, 0), (1, .iload_n 1, 1, 0, 0, 0, 0, 0, 0), (2, .invokevirtual 142, 3, 171, 2, 0, 1275, 0, 22), (5, .ifCond .eq 11, 3, 16, 0, 0, 0, 0, 0), (8, .aload_n 0, 1, 0, 0, 0, 0, 0, 0), (9, .iload_n 2, 1, 0, 0, 0, 0, 0, 0), (10, .invokevirtual 142, 3, 171, 2, 0, 1275, 0, 22), (13, .ifCond .ne 6, 3, 19, 0, 0, 0, 0, 0), (16, .bipush (-2), 2, 0, 0, 0, 0, 0, 0), (18, .ireturn, 1, 0, 0, 0, 0, 0, 0), (19, .iconst 0, 1, 0, 0, 0, 0, 0, 0), (20, .istore_n 3, 1, 0, 0, 0, 0, 0, 0), (21, .iconst 0, 1, 0, 0, 0, 0, 0, 0), (22, .istore 4, 2, 0, 0, 0, 0, 0, 0), (24, .iload 4, 2, 0, 0, 0, 0, 0, 0), (26, .aload_n 0, 1, 0, 0, 0, 0, 0, 0), (27, .getfield 7, 3, 1301, 1, 12, 1098, 0, 22), (30, .iload_n 2, 1, 0, 0, 0, 0, 0, 0), (31, .iaload, 1, 0, 0, 0, 0, 0, 0), (32, .iadd, 1, 0, 0, 0, 0, 0, 0), (33, .aload_n 0, 1, 0, 0, 0, 0, 0, 0), (34, .getfield 7, 3, 1301, 1, 12, 1098, 0, 22), (37, .iload_n 1, 1, 0, 0, 0, 0, 0, 0), (38, .iaload, 1, 0, 0, 0, 0, 0, 0), (39, .if_icmp .gt 30, 3, 69, 0, 0, 0, 0, 0), (42, .iload_n 3, 1, 0, 0, 0, 0, 0, 0), (43, .aload_n 0, 1, 0, 0, 0, 0, 0, 0), (44, .iload_n 1, 1, 0, 0, 0, 0, 0, 0), (45, .iload_n 2, 1, 0, 0, 0, 0, 0, 0), (46, .iload 4, 2, 0, 0, 0, 0, 0, 0), (48, .iconst (-1), 1, 0, 0, 0, 0, 0, 0), (49, .iconst 0, 1, 0, 0, 0, 0, 0, 0), (50, .invokevirtual 210, 3, 204, 6, 0, 1409, 0, 22), (53, .ifCond .eq 7, 3, 60, 0, 0, 0, 0, 0), (56, .iconst 1, 1, 0, 0, 0, 0, 0, 0), (57, .goto 4, 3, 61, 0, 0, 0, 0, 0), (60, .iconst 0, 1, 0, 0, 0, 0, 0, 0), (61, .iadd, 1, 0, 0, 0, 0, 0, 0), (62, .istore_n 3, 1, 0, 0, 0, 0, 0, 0), (63, .iinc 4 1, 3, 0, 0, 0, 0, 0, 0), (66, .goto (-42), 3, 24, 0, 0, 0, 0, 0), (69, .iload_n 3, 1, 0, 0, 0, 0, 0, 0), (70, .ireturn, 1, 0, 0, 0, 0, 0, 0)]
set_option maxRecDepth 100000 in
theorem jk_X12_countOf : ji_X12_countOf.all (jck 207) = true := by decide +kernel
def ji_X12_wild : List JI := [(0, .aload_n 0, 1, 0, 0, 0, 0, 0, 0), (1, .iload_n 1, 1, 0, 0, 0, 0, 0, 0), (2, .invokevirtual 142, 3, 171, 2, 0, 1275, 0, 22), (5, .ifCond .eq 36, 3, 41, 0, 0, 0, 0, 0), (8, .aload_n 0, 1, 0, 0, 0, 0, 0, 0), (9, .iload_n 2, 1, 0, 0, 0, 0, 0, 0), (10, .invokevirtual 142, 3, 171, 2, 0, 1275, 0, 22), (13, .ifCond .eq 28, 3, 41, 0, 0, 0, 0, 0), (16, .iload_n 3, 1, 0, 0, 0, 0, 0, 0), (17, .i2l, 1, 0, 0, 0, 0, 0, 0), (18, .lconst 0, 1, 0, 0, 0, 0, 0, 0), (19, .ldc2_w 163, 3, 0, 0, 0, 1283, 0, 65535), (22, .invokestatic 138, 3, 170, 3, 0, 1279, 0, 0), (25, .ifCond .eq 16, 3, 41, 0, 0, 0, 0, 0), (28, .aload_n 0, 1, 0, 0, 0, 0, 0, 0), (29, .iload_n 1, 1, 0, 0, 0, 0, 0, 0), (30, .iload_n 2, 1, 0, 0, 0, 0, 0, 0), (31, .iload_n 3, 1, 0, 0, 0, 0, 0, 0), (32, .iconst 0, 1, 0, 0, 0, 0, 0, 0), (33, .iload 4, 2, 0, 0, 0, 0, 0, 0), (35, .invokevirtual 214, 3, 205, 6, 0, 1405, 0, 22), (38, .goto 5, 3, 43, 0, 0, 0, 0, 0), (41, .bipush (-2), 2, 0, 0, 0, 0, 0, 0), (43, .ireturn, 1, 0, 0, 0, 0, 0, 0)]
set_option maxRecDepth 100000 in
theorem jk_X12_wild : ji_X12_wild.all (jck 208) = true := by decide +kernel
def ji_X12_near : List JI := [(0, .aload_n 0, 1, 0, 0, 0, 0, 0, 0), (1, .iload_n 1, 1, 0, 0, 0, 0, 0, 0), (2, .invokevirtual 142, 3, 171, 2, 0, 1275, 0, 22), (5, .ifCond .eq 36, 3, 41, 0, 0, 0, 0, 0), (8, .aload_n 0, 1, 0, 0, 0, 0, 0, 0), (9, .iload_n 2, 1, 0, 0, 0, 0, 0, 0), (10, .invokevirtual 142, 3, 171, 2, 0, 1275, 0, 22), (13, .ifCond .eq 28, 3, 41, 0, 0, 0, 0, 0), (16, .iload_n 3, 1, 0, 0, 0, 0, 0, 0), (17, .i2l, 1, 0, 0, 0, 0, 0, 0), (18, .lconst 0, 1, 0, 0, 0, 0, 0, 0), (19, .ldc2_w 218, 3, 0, 0, 0, 1425, 0, 3), (22, .invokestatic 138, 3, 170, 3, 0, 1279, 0, 0), (25, .ifCond .eq 16, 3, 41, 0, 0, 0, 0, 0), (28, .aload_n 0, 1, 0, 0, 0, 0, 0, 0), (29, .iload_n 1, 1, 0, 0, 0, 0, 0, 0), (30, .iload_n 2, 1, 0, 0, 0, 0, 0, 0), (31, .iconst (-1), 1, 0, 0, 0, 0, 0, 0), (32, .iload_n 3, 1, 0, 0, 0, 0, 0, 0), (33, .iload 4, 2, 0, 0, 0, 0, 0, 0), (35, .invokevirtual 214, 3, 205, 6, 0, 1405, 0, 22), (38, .goto 5, 3, 43, 0, 0, 0, 0, 0), (41, .bipush (-2), 2, 0, 0, 0, 0, 0, 0), (43, .ireturn, 1, 0, 0, 0, 0, 0, 0)]
set_option maxRecDepth 100000 in
theorem jk_X12_near : ji_X12_near.all (jck 209) = true := by decide +kernel
def ji_X12_pattern : List JI := [(0, .aload_n 0, 1, 0, 0, 0, 0, 0, 0), (1, .iload_n 1, 1, 0, 0, 0, 0, 0, 0), (2, .invokevirtual 142, 3, 171, 2, 0, 1275, 0, 22), (5, .ifCond .eq 20, 3, 25, 0, 0, 0, 0, 0), (8, .aload_n 0, 1, 0, 0, 0, 0, 0, 0), (9, .getfield 7, 3, 1301, 1, 12, 1098, 0, 22), (12, .iload_n 1, 1, 0, 0, 0, 0, 0, 0), (13, .iaload, 1, 0, 0, 0, 0, 0, 0), (14, .i2l, 1, 0, 0, 0, 0, 0, 0), (15, .lconst 1, 1, 0, 0, 0, 0, 0, 0), (16, .ldc2_w 220, 3, 0, 0, 0, 1430, 0, 40), (19, .invokestatic 138, 3, 170, 3, 0, 1279, 0, 0), (22, .ifCond .ne 6, 3, 28, 0, 0, 0, 0, 0), (25, .bipush (-2), 2, 0, 0, 0, 0, 0, 0), (27, .ireturn, 1, 0, 0, 0, 0, 0, 0), (28, .aload_n 0, 1, 0, 0, 0, 0, 0, 0), (29, .getfield 222, 3, 3210, 0, 12, 1107, 0, 22), (32, .bipush 16, 2, 0, 0, 0, 0, 0, 0), (34, .if_icmp .ne 6, 3, 40, 0, 0, 0, 0, 0), (37, .bipush (-3), 2, 0, 0, 0, 0, 0, 0), (39, .ireturn, 1, 0, 0, 0, 0, 0, 0), (40, .aload_n 0, 1, 0, 0, 0, 0, 0, 0), (41, .getfield 36, 3, 1311, 1, 12, 1108, 0, 22), (44, .aload_n 0, 1, 0, 0, 0, 0, 0, 0), (45, .getfield 222, 3, 3210, 0, 12, 1107, 0, 22), (48, .aload_n 0, 1, 0, 0, 0, 0, 0, 0), (49, .getfield 7, 3, 1301, 1, 12, 1098, 0, 22), (52, .iload_n 1, 1, 0, 0, 0, 0, 0, 0), (53, .iaload, 1, 0, 0, 0, 0, 0, 0), (54, .iastore, 1, 0, 0, 0, 0, 0, 0), (55, .iconst 0, 1, 0, 0, 0, 0, 0, 0), (56, .istore_n 2, 1, 0, 0, 0, 0, 0, 0), (57, .iload_n 2, 1, 0, 0, 0, 0, 0, 0), (58, .aload_n 0, 1, 0, 0, 0, 0, 0, 0), (59, .getfield 7, 3, 1301, 1, 12, 1098, 0, 22), (62, .iload_n 1, 1, 0, 0, 0, 0, 0, 0), (63, .iaload, 1, 0, 0, 0, 0, 0, 0), (64, .if_icmp .ge 29, 3, 93, 0, 0, 0, 0, 0), (67, .aload_n 0, 1, 0, 0, 0, 0, 0, 0), (68, .getfield 39, 3, 1312, 1, 12, 1109, 0, 22), (71, .bipush 40, 2, 0, 0, 0, 0, 0, 0), (73, .aload_n 0, 1, 0, 0, 0, 0, 0, 0), (74, .getfield 222, 3, 3210, 0, 12, 1107, 0, 22), (77, .imul, 1, 0, 0, 0, 0, 0, 0), (78, .iload_n 2, 1, 0, 0, 0, 0, 0, 0), (79, .iadd, 1, 0, 0, 0, 0, 0, 0), (80, .aload_n 0, 1, 0, 0, 0, 0, 0, 0), (81, .iload_n 1, 1, 0, 0, 0, 0, 0, 0), (82, .iload_n 2, 1, 0, 0, 0, 0, 0, 0), (83, .invokevirtual 149, 3, 174, 3, 0, 1267, 0, 22), (86, .iastore, 1, 0, 0, 0, 0, 0, 0), (87, .iinc 2 1, 3, 0, 0, 0, 0, 0, 0), (90, .goto (-33), 3, 57, 0, 0, 0, 0, 0), (93, .aload_n 0, 1, 0, 0, 0, 0, 0, 0), (94, .dup, 1, 0, 0, 0, 0, 0, 0), (95, .getfield 222, 3, 3210, 0, 12, 1107, 0, 22), (98, .iconst 1, 1, 0, 0, 0, 0, 0, 0), (99, .iadd, 1, 0, 0, 0, 0, 0, 0), (100, .putfield 222, 3, 3210, 0, 12, 1107, 0, 22), (103, .aload_n 0, 1, 0, 0, 0, 0, 0, 0), (104, .getfield 222, 3, 3210, 0, 12, 1107, 0, 22), (107, .iconst 1, 1, 0, 0, 0, 0, 0, 0), (108, .isub, 1, 0, 0, 0, 0, 0, 0), (109, .ireturn, 1, 0, 0, 0, 0, 0, 0)]
set_option maxRecDepth 100000 in
theorem jk_X12_pattern : ji_X12_pattern.all (jck 210) = true := by decide +kernel
def ji_X12_occurs : List JI := [(0, .iload_n 2, 1, 0, 0, 0, 0, 0, 0), (1, .aload_n 0, 1, 0, 0, 0, 0, 0, 0), (2, .getfield 36, 3, 1311, 1, 12, 1108, 0, 22), (5, .iload_n 3, 1, 0, 0, 0, 0, 0, 0), (6, .iaload, 1, 0, 0, 0, 0, 0, 0), (7, .iadd, 1, 0, 0, 0, 0, 0, 0), (8, .aload_n 0, 1, 0, 0, 0, 0, 0, 0), (9, .getfield 7, 3, 1301, 1, 12, 1098, 0, 22), (12, .iload_n 1, 1, 0, 0, 0, 0, 0, 0), (13, .iaload, 1, 0, 0, 0, 0, 0, 0), (14, .if_icmp .le 5, 3, 19, 0, 0, 0, 0, 0), (17, .iconst 0, 1, 0, 0, 0, 0, 0, 0), (18, .ireturn, 1, 0, 5, 0, 0, 0, 0), (19, .iconst 0, 1, 0, 0, 0, 0, 0, 0), (20, .istore 4, 2, 0, 0, 0, 0, 0, 0), (22, .iload 4, 2, 0, 0, 0, 0, 0, 0), (24, .aload_n 0, 1, 0, 0, 0, 0, 0, 0), (25, .getfield 36, 3, 1311, 1, 12, 1108, 0, 22), (28, .iload_n 3, 1, 0, 0, 0, 0, 0, 0), (29, .iaload, 1, 0, 0, 0, 0, 0, 0), (30, .if_icmp .ge 35, 3, 65, 0, 0, 0, 0, 0), (33, .aload_n 0, 1, 0, 0, 0, 0, 0, 0), (34, .iload_n 1, 1, 0, 0, 0, 0, 0, 0), (35, .iload_n 2, 1, 0, 0, 0, 0, 0, 0), (36, .iload 4, 2, 0, 0, 0, 0, 0, 0), (38, .iadd, 1, 0, 0, 0, 0, 0, 0), (39, .invokevirtual 149, 3, 174, 3, 0, 1267, 0, 22), (42, .aload_n 0, 1, 0, 0, 0, 0, 0, 0), (43, .getfield 39, 3, 1312, 1, 12, 1109, 0, 22), (46, .bipush 40, 2, 0, 0, 0, 0, 0, 0), (48, .iload_n 3, 1, 0, 0, 0, 0, 0, 0), (49, .imul, 1, 0, 0, 0, 0, 0, 0), (50, .iload 4, 2, 0, 0, 0, 0, 0, 0), (52, .iadd, 1, 0, 0, 0, 0, 0, 0), (53, .iaload, 1, 0, 0, 0, 0, 0, 0), (54, .if_icmp .eq 5, 3, 59, 0, 0, 0, 0, 0), (57, .iconst 0, 1, 0, 0, 0, 0, 0, 0), (58, .ireturn, 1, 0, 5, 0, 0, 0, 0), (59, .iinc 4 1, 3, 0, 0, 0, 0, 0, 0), (62, .goto (-40), 3, 22, 0, 0, 0, 0, 0), (65, .iconst 1, 1, 0, 0, 0, 0, 0, 0), (66, .ireturn, 1, 0, 5, 0, 0, 0, 0)]
set_option maxRecDepth 100000 in
theorem jk_X12_occurs : ji_X12_occurs.all (jck 211) = true := by decide +kernel
def ji_X12_matches : List JI := [(0, .aload_n 0, 1, 0, 0, 0, 0, 0, 0), (1, .iload_n 1, 1, 0, 0, 0, 0, 0, 0), (2, .invokevirtual 142, 3, 171, 2, 0, 1275, 0, 22), (5, .ifCond .ne 6, 3, 11, 0, 0, 0, 0, 0), (8, .bipush (-2), 2, 0, 0, 0, 0, 0, 0), (10, .ireturn, 1, 0, 0, 0, 0, 0, 0), (11, .aload_n 0, 1, 0, 0, 0, 0, 0, 0), (12, .iconst 0, 1, 0, 0, 0, 0, 0, 0), (13, .putfield 225, 3, 3213, 0, 12, 1110, 0, 22), (16, .iconst 0, 1, 0, 0, 0, 0, 0, 0), (17, .istore_n 2, 1, 0, 0, 0, 0, 0, 0), (18, .iload_n 2, 1, 0, 0, 0, 0, 0, 0), (19, .aload_n 0, 1, 0, 0, 0, 0, 0, 0), (20, .getfield 7, 3, 1301, 1, 12, 1098, 0, 22), (23, .iload_n 1, 1, 0, 0, 0, 0, 0, 0), (24, .iaload, 1, 0, 0, 0, 0, 0, 0), (25, .if_icmp .ge 65, 3, 90, 0, 0, 0, 0, 0), (28, .iconst 0, 1, 0, 0, 0, 0, 0, 0), (29, .istore_n 3, 1, 0, 0, 0, 0, 0, 0), (30, .iload_n 3, 1, 0, 0, 0, 0, 0, 0), (31, .aload_n 0, 1, 0, 0, 0, 0, 0, 0), (32, .getfield 222, 3, 3210, 0, 12, 1107, 0, 22), (35, .if_icmp .ge 49, 3, 84, 0, 0, 0, 0, 0), (38, .aload_n 0, 1, 0, 0, 0, 0, 0, 0), (39, .iload_n 1, 1, 0, 0, 0, 0, 0, 0), (40, .iload_n 2, 1, 0, 0, 0, 0, 0, 0), (41, .iload_n 3, 1, 0, 0, 0, 0, 0, 0), (42, .invokevirtual 228, 3, 211, 4, 0, 1435, 0, 22), (45, .ifCond .eq 33, 3, 78, 0, 0, 0, 0, 0), (48, .aload_n 0, 1, 0, 0, 0, 0, 0, 0), (49, .getfield 42, 3, 1314, 1, 12, 1111, 0, 22), (52, .aload_n 0, 1, 0, 0, 0, 0, 0, 0), (53, .getfield 225, 3, 3213, 0, 12, 1110, 0, 22), (56, .iload_n 2, 1, 0, 0, 0, 0, 0, 0), (57, .iastore, 1, 0, 0, 0, 0, 0, 0), (58, .aload_n 0, 1, 0, 0, 0, 0, 0, 0), (59, .getfield 45, 3, 1315, 1, 12, 1112, 0, 22), (62, .aload_n 0, 1, 0, 0, 0, 0, 0, 0), (63, .getfield 225, 3, 3213, 0, 12, 1110, 0, 22), (66, .iload_n 3, 1, 0, 0, 0, 0, 0, 0), (67, .iastore, 1, 0, 0, 0, 0, 0, 0), (68, .aload_n 0, 1, 0, 0, 0, 0, 0, 0), (69, .dup, 1, 0, 0, 0, 0, 0, 0), (70, .getfield 225, 3, 3213, 0, 12, 1110, 0, 22), (73, .iconst 1, 1, 0, 0, 0, 0, 0, 0), (74, .iadd, 1, 0, 0, 0, 0, 0, 0), (75, .putfield 225, 3, 3213, 0, 12, 1110, 0, 22), (78, .iinc 3 1, 3, 0, 0, 0, 0, 0, 0), (81, .goto (-51), 3, 30, 0, 0, 0, 0, 0), (84, .iinc 2 1, 3, 0, 0, 0, 0, 0, 0), (87, .goto (-69), 3, 18, 0, 0, 0, 0, 0), (90, .aload_n 0, 1, 0, 0, 0, 0, 0, 0), (91, .getfield 225, 3, 3213, 0, 12, 1110, 0, 22), (94, .ireturn, 1, 0, 0, 0, 0, 0, 0)]
set_option maxRecDepth 100000 in
theorem jk_X12_matches : ji_X12_matches.all (jck 212) = true := by decide +kernel
def ji_X12_match : List JI := [(0, .iload_n 2, 1, 0, 0, 0, 0, 0, 0), (1, .i2l, 1, 0, 0, 0, 0, 0, 0), (2, .lconst 0, 1, 0, 0, 0, 0, 0, 0), (3, .lconst 1, 1, 0, 0, 0, 0, 0, 0), (4, .invokestatic 138, 3, 170, 3, 0, 1279, 0, 0), (7, .ifCond .ne 8, 3, 15, 0, 0, 0, 0, 0), (10, .bipush (-2), 2, 0, 0, 0, 0, 0, 0), (12, .goto 42, 3, 54, 0, 0, 0, 0, 0), (15, .iload_n 1, 1, 0, 0, 0, 0, 0, 0), (16, .i2l, 1, 0, 0, 0, 0, 0, 0), (17, .lconst 0, 1, 0, 0, 0, 0, 0, 0), (18, .aload_n 0, 1, 0, 0, 0, 0, 0, 0), (19, .getfield 225, 3, 3213, 0, 12, 1110, 0, 22), (22, .iconst 1, 1, 0, 0, 0, 0, 0, 0), (23, .isub, 1, 0, 0, 0, 0, 0, 0), (24, .i2l, 1, 0, 0, 0, 0, 0, 0), (25, .invokestatic 138, 3, 170, 3, 0, 1279, 0, 0), (28, .ifCond .ne 7, 3, 35, 0, 0, 0, 0, 0), (31, .iconst (-1), 1, 0, 0, 0, 0, 0, 0), (32, .goto 22, 3, 54, 0, 0, 0, 0, 0), (35, .iload_n 2, 1, 0, 0, 0, 0, 0, 0), (36, .ifCond .ne 12, 3, 48, 0, 0, 0, 0, 0), (39, .aload_n 0, 1, 0, 0, 0, 0, 0, 0), (40, .getfield 42, 3, 1314, 1, 12, 1111, 0, 22), (43, .iload_n 1, 1, 0, 0, 0, 0, 0, 0), (44, .iaload, 1, 0, 0, 0, 0, 0, 0), (45, .goto 9, 3, 54, 0, 0, 0, 0, 0), (48, .aload_n 0, 1, 0, 0, 0, 0, 0, 0), (49, .getfield 45, 3, 1315, 1, 12, 1112, 0, 22), (52, .iload_n 1, 1, 0, 0, 0, 0, 0, 0), (53, .iaload, 1, 0, 0, 0, 0, 0, 0), (54, .ireturn, 1, 0, 0, 0, 0, 0, 0)]
set_option maxRecDepth 100000 in
theorem jk_X12_match : ji_X12_match.all (jck 213) = true := by decide +kernel
def ji_X12_forget : List JI := [(0, .aload_n 0, 1, 0, 0, 0, 0, 0, 0), (1, .getfield 222, 3, 3210, 0, 12, 1107, 0, 22), (4, .istore_n 1, 1, 0, 0, 0, 0, 0, 0), (5, .aload_n 0, 1, 0, 0, 0, 0, 0, 0), (6, .iconst 0, 1, 0, 0, 0, 0, 0, 0), (7, .putfield 222, 3, 3210, 0, 12, 1107, 0, 22), (10, .iload_n 1, 1, 0, 0, 0, 0, 0, 0), (11, .ireturn, 1, 0, 0, 0, 0, 0, 0)]
set_option maxRecDepth 100000 in
theorem jk_X12_forget : ji_X12_forget.all (jck 214) = true := by decide +kernel
def ji_X12_cover : List JI := [(0, .aload_n 0, 1, 0, 0, 0, 0, 0, 0), (1, .iload_n 1, 1, 0, 0, 0, 0, 0, 0), (2, .invokevirtual 142, 3, 171, 2, 0, 1275, 0, 22), (5, .ifCond .ne 6, 3, 11, 0, 0, 0, 0, 0), (8, .bipush (-2), 2, 0, 0, 0, 0, 0, 0), (10, .ireturn, 1, 0, 0, 0, 0, 0, 0), (11, .aload_n 0, 1, 0, 0, 0, 0, 0, 0), (12, .getfield 7, 3, 1301, 1, 12, 1098, 0, 22), (15, .iload_n 1, 1, 0, 0, 0, 0, 0, 0), (16, .iaload, 1, 0, 0, 0, 0, 0, 0), (17, .istore_n 2, 1, 0, 0, 0, 0, 0, 0), (18, .aload_n 0, 1, 0, 0, 0, 0, 0, 0), (19, .getfield 51, 3, 1318, 1, 12, 1115, 0, 22), (22, .iload_n 2, 1, 0, 0, 0, 0, 0, 0), (23, .iconst 0, 1, 0, 0, 0, 0, 0, 0), (24, .iastore, 1, 0, 0, 0, 0, 0, 0), (25, .iload_n 2, 1, 0, 0, 0, 0, 0, 0), (26, .iconst 1, 1, 0, 0, 0, 0, 0, 0), (27, .isub, 1, 0, 0, 0, 0, 0, 0), (28, .istore_n 3, 1, 0, 0, 0, 0, 0, 0), (29, .iload_n 3, 1, 0, 0, 0, 0, 0, 0), (30, .ifCond .lt 113, 3, 143, 0, 0, 0, 0, 0), (33, .aload_n 0, 1, 0, 0, 0, 0, 0, 0), (34, .getfield 51, 3, 1318, 1, 12, 1115, 0, 22), (37, .iload_n 3, 1, 0, 0, 0, 0, 0, 0), (38, .iconst (-1), 1, 0, 0, 0, 0, 0, 0), (39, .iastore, 1, 0, 0, 0, 0, 0, 0), (40, .iconst 0, 1, 0, 0, 0, 0, 0, 0), (41, .istore 4, 2, 0, 0, 0, 0, 0, 0), (43, .iload 4, 2, 0, 0, 0, 0, 0, 0), (45, .aload_n 0, 1, 0, 0, 0, 0, 0, 0), (46, .getfield 222, 3, 3210, 0, 12, 1107, 0, 22), (49, .if_icmp .ge 88, 3, 137, 0, 0, 0, 0, 0), (52, .aload_n 0, 1, 0, 0, 0, 0, 0, 0), (53, .iload_n 1, 1, 0, 0, 0, 0, 0, 0), (54, .iload_n 3, 1, 0, 0, 0, 0, 0, 0), (55, .iload 4, 2, 0, 0, 0, 0, 0, 0), (57, .invokevirtual 228, 3, 211, 4, 0, 1435, 0, 22), (60, .ifCond .eq 20, 3, 80, 0, 0, 0, 0, 0), (63, .aload_n 0, 1, 0, 0, 0, 0, 0, 0), (64, .getfield 51, 3, 1318, 1, 12, 1115, 0, 22), (67, .iload_n 3, 1, 0, 0, 0, 0, 0, 0), (68, .aload_n 0, 1, 0, 0, 0, 0, 0, 0), (69, .getfield 36, 3, 1311, 1, 12, 1108, 0, 22), (72, .iload 4, 2, 0, 0, 0, 0, 0, 0), (74, .iaload, 1, 0, 0, 0, 0, 0, 0), (75, .iadd, 1, 0, 0, 0, 0, 0, 0), (76, .iaload, 1, 0, 0, 0, 0, 0, 0), (77, .goto 4, 3, 81, 0, 0, 0, 0, 0), (80, .iconst (-1), 1, 0, 0, 0, 0, 0, 0), (81, .istore 5, 2, 0, 0, 0, 0, 0, 0), (83, .aload_n 0, 1, 0, 0, 0, 0, 0, 0), (84, .getfield 51, 3, 1318, 1, 12, 1115, 0, 22), (87, .iload_n 3, 1, 0, 0, 0, 0, 0, 0), (88, .iload 5, 2, 0, 0, 0, 0, 0, 0), (90, .iconst (-1), 1, 0, 0, 0, 0, 0, 0), (91, .if_icmp .eq 33, 3, 124, 0, 0, 0, 0, 0), (94, .aload_n 0, 1, 0, 0, 0, 0, 0, 0), (95, .getfield 51, 3, 1318, 1, 12, 1115, 0, 22), (98, .iload_n 3, 1, 0, 0, 0, 0, 0, 0), (99, .iaload, 1, 0, 0, 0, 0, 0, 0), (100, .iconst (-1), 1, 0, 0, 0, 0, 0, 0), (101, .if_icmp .eq 16, 3, 117, 0, 0, 0, 0, 0), (104, .iload 5, 2, 0, 0, 0, 0, 0, 0), (106, .iconst 1, 1, 0, 0, 0, 0, 0, 0), (107, .iadd, 1, 0, 0, 0, 0, 0, 0), (108, .aload_n 0, 1, 0, 0, 0, 0, 0, 0), (109, .getfield 51, 3, 1318, 1, 12, 1115, 0, 22), (112, .iload_n 3, 1, 0, 0, 0, 0, 0, 0), (113, .iaload, 1, 0, 0, 0, 0, 0, 0), (114, .if_icmp .ge 10, 3, 124, 0, 0, 0, 0, 0), (117, .iload 5, 2, 0, 0, 0, 0, 0, 0), (119, .iconst 1, 1, 0, 0, 0, 0, 0, 0), (120, .iadd, 1, 0, 0, 0, 0, 0, 0), (121, .goto 9, 3, 130, 0, 0, 0, 0, 0), (124, .aload_n 0, 1, 0, 0, 0, 0, 0, 0), (125, .getfield 51, 3, 1318, 1, 12, 1115, 0, 22), (128, .iload_n 3, 1, 0, 0, 0, 0, 0, 0), (129, .iaload, 1, 0, 0, 0, 0, 0, 0), (130, .iastore, 1, 0, 0, 0, 0, 0, 0), (131, .iinc 4 1, 3, 0, 0, 0, 0, 0, 0), (134, .goto (-91), 3, 43, 0, 0, 0, 0, 0), (137, .iinc 3 (-1), 3, 0, 0, 0, 0, 0, 0), (140, .goto (-111), 3, 29, 0, 0, 0, 0, 0), (143, .aload_n 0, 1, 0, 0, 0, 0, 0, 0), (144, .getfield 51, 3, 1318, 1, 12, 1115, 0, 22), (147, .iconst 0, 1, 0, 0, 0, 0, 0, 0), (148, .iaload, 1, 0, 0, 0, 0, 0, 0), (149, .iconst (-1), 1, 0, 0, 0, 0, 0, 0), (150, .if_icmp .ne 6, 3, 156, 0, 0, 0, 0, 0), (153, .bipush (-4), 2, 0, 0, 0, 0, 0, 0), (155, .ireturn, 1, 0, 0, 0, 0, 0, 0), (156, .aload_n 0, 1, 0, 0, 0, 0, 0, 0), (157, .iconst 0, 1, 0, 0, 0, 0, 0, 0), (158, .putfield 231, 3, 3216, 0, 12, 1113, 0, 22), (161, .iconst 0, 1, 0, 0, 0, 0, 0, 0), (162, .istore_n 3, 1, 0, 0, 0, 0, 0, 0), (163, .iload_n 3, 1, 0, 0, 0, 0, 0, 0), (164, .iload_n 2, 1, 0, 0, 0, 0, 0, 0), (165, .if_icmp .ge 82, 3, 247, 0, 0, 0, 0, 0), (168, .iconst 0, 1, 0, 0, 0, 0, 0, 0), (169, .istore 4, 2, 0, 0, 0, 0, 0, 0), (171, .aload_n 0, 1, 0, 0, 0, 0, 0, 0), (172, .iload_n 1, 1, 0, 0, 0, 0, 0, 0), (173, .iload_n 3, 1, 0, 0, 0, 0, 0, 0), (174, .iload 4, 2, 0, 0, 0, 0, 0, 0), (176, .invokevirtual 228, 3, 211, 4, 0, 1435, 0, 22), (179, .ifCond .eq 28, 3, 207, 0, 0, 0, 0, 0), (182, .aload_n 0, 1, 0, 0, 0, 0, 0, 0), (183, .getfield 51, 3, 1318, 1, 12, 1115, 0, 22), (186, .iload_n 3, 1, 0, 0, 0, 0, 0, 0), (187, .aload_n 0, 1, 0, 0, 0, 0, 0, 0), (188, .getfield 36, 3, 1311, 1, 12, 1108, 0, 22), (191, .iload 4, 2, 0, 0, 0, 0, 0, 0), (193, .iaload, 1, 0, 0, 0, 0, 0, 0), (194, .iadd, 1, 0, 0, 0, 0, 0, 0), (195, .iaload, 1, 0, 0, 0, 0, 0, 0), (196, .aload_n 0, 1, 0, 0, 0, 0, 0, 0), (197, .getfield 51, 3, 1318, 1, 12, 1115, 0, 22), (200, .iload_n 3, 1, 0, 0, 0, 0, 0, 0), (201, .iaload, 1, 0, 0, 0, 0, 0, 0), (202, .iconst 1, 1, 0, 0, 0, 0, 0, 0), (203, .isub, 1, 0, 0, 0, 0, 0, 0), (204, .if_icmp .eq 9, 3, 213, 0, 0, 0, 0, 0), (207, .iinc 4 1, 3, 0, 0, 0, 0, 0, 0), (210, .goto (-39), 3, 171, 0, 0, 0, 0, 0), (213, .aload_n 0, 1, 0, 0, 0, 0, 0, 0), (214, .getfield 48, 3, 1317, 1, 12, 1114, 0, 22), (217, .aload_n 0, 1, 0, 0, 0, 0, 0, 0), (218, .getfield 231, 3, 3216, 0, 12, 1113, 0, 22), (221, .iload 4, 2, 0, 0, 0, 0, 0, 0), (223, .iastore, 1, 0, 0, 0, 0, 0, 0), (224, .aload_n 0, 1, 0, 0, 0, 0, 0, 0), (225, .dup, 1, 0, 0, 0, 0, 0, 0), (226, .getfield 231, 3, 3216, 0, 12, 1113, 0, 22), (229, .iconst 1, 1, 0, 0, 0, 0, 0, 0), (230, .iadd, 1, 0, 0, 0, 0, 0, 0), (231, .putfield 231, 3, 3216, 0, 12, 1113, 0, 22), (234, .iload_n 3, 1, 0, 0, 0, 0, 0, 0), (235, .aload_n 0, 1, 0, 0, 0, 0, 0, 0), (236, .getfield 36, 3, 1311, 1, 12, 1108, 0, 22), (239, .iload 4, 2, 0, 0, 0, 0, 0, 0), (241, .iaload, 1, 0, 0, 0, 0, 0, 0), (242, .iadd, 1, 0, 0, 0, 0, 0, 0), (243, .istore_n 3, 1, 0, 0, 0, 0, 0, 0), (244, .goto (-81), 3, 163, 0, 0, 0, 0, 0), (247, .aload_n 0, 1, 0, 0, 0, 0, 0, 0), (248, .getfield 231, 3, 3216, 0, 12, 1113, 0, 22), (251, .ireturn, 1, 0, 0, 0, 0, 0, 0)]
set_option maxRecDepth 100000 in
theorem jk_X12_cover : ji_X12_cover.all (jck 215) = true := by decide +kernel
def ji_X12_word : List JI := [(0, .iload_n 1, 1, 0, 0, 0, 0, 0, 0), (1, .i2l, 1, 0, 0, 0, 0, 0, 0), (2, .lconst 0, 1, 0, 0, 0, 0, 0, 0), (3, .aload_n 0, 1, 0, 0, 0, 0, 0, 0), (4, .getfield 231, 3, 3216, 0, 12, 1113, 0, 22), (7, .iconst 1, 1, 0, 0, 0, 0, 0, 0), (8, .isub, 1, 0, 0, 0, 0, 0, 0), (9, .i2l, 1, 0, 0, 0, 0, 0, 0), (10, .invokestatic 138, 3, 170, 3, 0, 1279, 0, 0), (13, .ifCond .eq 12, 3, 25, 0, 0, 0, 0, 0), (16, .aload_n 0, 1, 0, 0, 0, 0, 0, 0), (17, .getfield 48, 3, 1317, 1, 12, 1114, 0, 22), (20, .iload_n 1, 1, 0, 0, 0, 0, 0, 0), (21, .iaload, 1, 0, 0, 0, 0, 0, 0), (22, .goto 4, 3, 26, 0, 0, 0, 0, 0), (25, .iconst (-1), 1, 0, 0, 0, 0, 0, 0), (26, .ireturn, 1, 0, 0, 0, 0, 0, 0)]
set_option maxRecDepth 100000 in
theorem jk_X12_word : ji_X12_word.all (jck 216) = true := by decide +kernel
def ji_X12_longestCommon : List JI := [(0, .aload_n 0, 1, 0, 0, 0, 0, 0, 0), (1, .iload_n 1, 1, 0, 0, 0, 0, 0, 0), (2, .invokevirtual 142, 3, 171, 2, 0, 1275, 0, 22), (5, .ifCond .eq 23, 3, 28, 0, 0, 0, 0, 0), (8, .aload_n 0, 1, 0, 0, 0, 0, 0, 0), (9, .iload_n 2, 1, 0, 0, 0, 0, 0, 0), (10, .invokevirtual 142, 3, 171, 2, 0, 1275, 0, 22), (13, .ifCond .eq 15, 3, 28, 0, 0, 0, 0, 0), (16, .iload_n 3, 1, 0, 0, 0, 0, 0, 0), (17, .i2l, 1, 0, 0, 0, 0, 0, 0), (18, .lconst 0, 1, 0, 0, 0, 0, 0, 0), (19, .ldc2_w 234, 3, 0, 0, 0, 1459, 0, 2), (22, .invokestatic 138, 3, 170, 3, 0, 1279, 0, 0), (25, .ifCond .ne 6, 3, 31, 0, 0, 0, 0, 0), (28, .bipush (-2), 2, 0, 0, 0, 0, 0, 0), (30, .ireturn, 1, 0, 0, 0, 0, 0, 0), (31, .aload_n 0, 1, 0, 0, 0, 0, 0, 0), (32, .iload_n 1, 1, 0, 0, 0, 0, 0, 0), (33, .iload_n 2, 1, 0, 0, 0, 0, 0, 0), (34, .invokevirtual 197, 3, 196, 3, 3, 1377, 0, 22), (37, .iconst 0, 1, 0, 0, 0, 0, 0, 0), (38, .istore 4, 2, 0, 0, 0, 0, 0, 0), (40, .iconst 0, 1, 0, 0, 0, 0, 0, 0), (41, .istore 5, 2, 0, 0, 0, 0, 0, 0), (43, .iconst 0, 1, 0, 0, 0, 0, 0, 0), (44, .istore 6, 2, 0, 0, 0, 0, 0, 0), (46, .iconst 0, 1, 0, 0, 0, 0, 0, 0), (47, .istore 7, 2, 0, 0, 0, 0, 0, 0), (49, .iload 7, 2, 0, 0, 0, 0, 0, 0), (51, .aload_n 0, 1, 0, 0, 0, 0, 0, 0), (52, .getfield 7, 3, 1301, 1, 12, 1098, 0, 22), (55, .iload_n 1, 1, 0, 0, 0, 0, 0, 0), (56, .iaload, 1, 0, 0, 0, 0, 0, 0), (57, .if_icmp .ge 72, 3, 129, 0, 0, 0, 0, 0), (60, .iconst 0, 1, 0, 0, 0, 0, 0, 0), (61, .istore 8, 2, 0, 0, 0, 0, 0, 0), (63, .iload 8, 2, 0, 0, 0, 0, 0, 0), (65, .aload_n 0, 1, 0, 0, 0, 0, 0, 0), (66, .getfield 7, 3, 1301, 1, 12, 1098, 0, 22), (69, .iload_n 2, 1, 0, 0, 0, 0, 0, 0), (70, .iaload, 1, 0, 0, 0, 0, 0, 0), (71, .if_icmp .ge 52, 3, 123, 0, 0, 0, 0, 0), (74, .aload_n 0, 1, 0, 0, 0, 0, 0, 0), (75, .getfield 30, 3, 1308, 1, 12, 1105, 0, 22), (78, .sipush 241, 3, 0, 0, 0, 0, 0, 0), (81, .iload 7, 2, 0, 0, 0, 0, 0, 0), (83, .imul, 1, 0, 0, 0, 0, 0, 0), (84, .iload 8, 2, 0, 0, 0, 0, 0, 0), (86, .iadd, 1, 0, 0, 0, 0, 0, 0), (87, .iaload, 1, 0, 0, 0, 0, 0, 0), (88, .iload 4, 2, 0, 0, 0, 0, 0, 0), (90, .if_icmp .le 27, 3, 117, 0, 0, 0, 0, 0), (93, .aload_n 0, 1, 0, 0, 0, 0, 0, 0), (94, .getfield 30, 3, 1308, 1, 12, 1105, 0, 22), (97, .sipush 241, 3, 0, 0, 0, 0, 0, 0), (100, .iload 7, 2, 0, 0, 0, 0, 0, 0), (102, .imul, 1, 0, 0, 0, 0, 0, 0), (103, .iload 8, 2, 0, 0, 0, 0, 0, 0), (105, .iadd, 1, 0, 0, 0, 0, 0, 0), (106, .iaload, 1, 0, 0, 0, 0, 0, 0), (107, .istore 4, 2, 0, 0, 0, 0, 0, 0), (109, .iload 7, 2, 0, 0, 0, 0, 0, 0), (111, .istore 5, 2, 0, 0, 0, 0, 0, 0), (113, .iload 8, 2, 0, 0, 0, 0, 0, 0), (115, .istore 6, 2, 0, 0, 0, 0, 0, 0), (117, .iinc 8 1, 3, 0, 0, 0, 0, 0, 0), (120, .goto (-57), 3, 63, 0, 0, 0, 0, 0), (123, .iinc 7 1, 3, 0, 0, 0, 0, 0, 0), (126, .goto (-77), 3, 49, 0, 0, 0, 0, 0), (129, .iload_n 3, 1, 0, 0, 0, 0, 0, 0), (130, .ifCond .ne 8, 3, 138, 0, 0, 0, 0, 0), (133, .iload 4, 2, 0, 0, 0, 0, 0, 0), (135, .goto 15, 3, 150, 0, 0, 0, 0, 0), (138, .iload_n 3, 1, 0, 0, 0, 0, 0, 0), (139, .iconst 1, 1, 0, 0, 0, 0, 0, 0), (140, .if_icmp .ne 8, 3, 148, 0, 0, 0, 0, 0), (143, .iload 5, 2, 0, 0, 0, 0, 0, 0), (145, .goto 5, 3, 150, 0, 0, 0, 0, 0), (148, .iload 6, 2, 0, 0, 0, 0, 0, 0), (150, .ireturn, 1, 0, 0, 0, 0, 0, 0)]
set_option maxRecDepth 100000 in
theorem jk_X12_longestCommon : ji_X12_longestCommon.all (jck 217) = true := by decide +kernel
def ji_X12_byKey : List JI := [(0, .iconst 0, 1, 0, 0, 0, 0, 0, 0), (1, .istore 5, 2, 0, 0, 0, 0, 0, 0), (3, .iload 5, 2, 0, 0, 0, 0, 0, 0), (5, .iload 4, 2, 0, 0, 0, 0, 0, 0), (7, .if_icmp .gt 17, 3, 24, 0, 0, 0, 0, 0), (10, .aload_n 0, 1, 0, 0, 0, 0, 0, 0), (11, .getfield 74, 3, 1326, 1, 12, 1123, 0, 22), (14, .iload 5, 2, 0, 0, 0, 0, 0, 0), (16, .iconst 0, 1, 0, 0, 0, 0, 0, 0), (17, .iastore, 1, 0, 0, 0, 0, 0, 0), (18, .iinc 5 1, 3, 0, 0, 0, 0, 0, 0), (21, .goto (-18), 3, 3, 0, 0, 0, 0, 0), (24, .iconst 0, 1, 0, 0, 0, 0, 0, 0), (25, .istore 5, 2, 0, 0, 0, 0, 0, 0), (27, .iload 5, 2, 0, 0, 0, 0, 0, 0), (29, .iload_n 3, 1, 0, 0, 0, 0, 0, 0), (30, .if_icmp .ge 29, 3, 59, 0, 0, 0, 0, 0), (33, .aload_n 0, 1, 0, 0, 0, 0, 0, 0), (34, .getfield 74, 3, 1326, 1, 12, 1123, 0, 22), (37, .aload_n 0, 1, 0, 0, 0, 0, 0, 0), (38, .getfield 64, 3, 1323, 1, 12, 1120, 0, 22), (41, .aload_n 1, 1, 0, 0, 0, 0, 0, 0), (42, .iload 5, 2, 0, 0, 0, 0, 0, 0), (44, .iaload, 1, 0, 0, 0, 0, 0, 0), (45, .iaload, 1, 0, 0, 0, 0, 0, 0), (46, .iconst 1, 1, 0, 0, 0, 0, 0, 0), (47, .iadd, 1, 0, 0, 0, 0, 0, 0), (48, .dup2, 1, 0, 0, 0, 0, 0, 0), (49, .iaload, 1, 0, 0, 0, 0, 0, 0), (50, .iconst 1, 1, 0, 0, 0, 0, 0, 0), (51, .iadd, 1, 0, 0, 0, 0, 0, 0), (52, .iastore, 1, 0, 0, 0, 0, 0, 0), (53, .iinc 5 1, 3, 0, 0, 0, 0, 0, 0), (56, .goto (-29), 3, 27, 0, 0, 0, 0, 0), (59, .iconst 1, 1, 0, 0, 0, 0, 0, 0), (60, .istore 5, 2, 0, 0, 0, 0, 0, 0), (62, .iload 5, 2, 0, 0, 0, 0, 0, 0), (64, .iload 4, 2, 0, 0, 0, 0, 0, 0), (66, .if_icmp .gt 28, 3, 94, 0, 0, 0, 0, 0), (69, .aload_n 0, 1, 0, 0, 0, 0, 0, 0), (70, .getfield 74, 3, 1326, 1, 12, 1123, 0, 22), (73, .iload 5, 2, 0, 0, 0, 0, 0, 0), (75, .dup2, 1, 0, 0, 0, 0, 0, 0), (76, .iaload, 1, 0, 0, 0, 0, 0, 0), (77, .aload_n 0, 1, 0, 0, 0, 0, 0, 0), (78, .getfield 74, 3, 1326, 1, 12, 1123, 0, 22), (81, .iload 5, 2, 0, 0, 0, 0, 0, 0), (83, .iconst 1, 1, 0, 0, 0, 0, 0, 0), (84, .isub, 1, 0, 0, 0, 0, 0, 0), (85, .iaload, 1, 0, 0, 0, 0, 0, 0), (86, .iadd, 1, 0, 0, 0, 0, 0, 0), (87, .iastore, 1, 0, 0, 0, 0, 0, 0), (88, .iinc 5 1, 3, 0, 0, 0, 0, 0, 0), (91, .goto (-29), 3, 62, 0, 0, 0, 0, 0), (94, .iconst 0, 1, 0, 0, 0, 0, 0, 0), (95, .istore 5, 2, 0, 0, 0, 0, 0, 0), (97, .iload 5, 2, 0, 0, 0, 0, 0, 0), (99, .iload_n 3, 1, 0, 0, 0, 0, 0, 0), (100, .if_icmp .ge 47, 3, 147, 0, 0, 0, 0, 0), (103, .aload_n 2, 1, 0, 0, 0, 0, 0, 0), (104, .aload_n 0, 1, 0, 0, 0, 0, 0, 0), (105, .getfield 74, 3, 1326, 1, 12, 1123, 0, 22), (108, .aload_n 0, 1, 0, 0, 0, 0, 0, 0), (109, .getfield 64, 3, 1323, 1, 12, 1120, 0, 22), (112, .aload_n 1, 1, 0, 0, 0, 0, 0, 0), (113, .iload 5, 2, 0, 0, 0, 0, 0, 0), (115, .iaload, 1, 0, 0, 0, 0, 0, 0), (116, .iaload, 1, 0, 0, 0, 0, 0, 0), (117, .iaload, 1, 0, 0, 0, 0, 0, 0), (118, .aload_n 1, 1, 0, 0, 0, 0, 0, 0), (119, .iload 5, 2, 0, 0, 0, 0, 0, 0), (121, .iaload, 1, 0, 0, 0, 0, 0, 0), (122, .iastore, 1, 0, 0, 0, 0, 0, 0), (123, .aload_n 0, 1, 0, 0, 0, 0, 0, 0), (124, .getfield 74, 3, 1326, 1, 12, 1123, 0, 22), (127, .aload_n 0, 1, 0, 0, 0, 0, 0, 0), (128, .getfield 64, 3, 1323, 1, 12, 1120, 0, 22), (131, .aload_n 1, 1, 0, 0, 0, 0, 0, 0), (132, .iload 5, 2, 0, 0, 0, 0, 0, 0), (134, .iaload, 1, 0, 0, 0, 0, 0, 0), (135, .iaload, 1, 0, 0, 0, 0, 0, 0), (136, .dup2, 1, 0, 0, 0, 0, 0, 0), (137, .iaload, 1, 0, 0, 0, 0, 0, 0), (138, .iconst 1, 1, 0, 0, 0, 0, 0, 0), (139, .iadd, 1, 0, 0, 0, 0, 0, 0), (140, .iastore, 1, 0, 0, 0, 0, 0, 0), (141, .iinc 5 1, 3, 0, 0, 0, 0, 0, 0), (144, .goto (-47), 3, 97, 0, 0, 0, 0, 0), (147, .return_, 1, 0, 0, 0, 0, 0, 0)]
set_option maxRecDepth 100000 in
theorem jk_X12_byKey : ji_X12_byKey.all (jck 218) = true := by decide +kernel
def ji_X12_bySize : List JI := [(0, .iconst 0, 1, 0, 0, 0, 0, 0, 0), (1, .istore_n 3, 1, 0, 0, 0, 0, 0, 0), (2, .iconst 0, 1, 0, 0, 0, 0, 0, 0), (3, .istore 4, 2, 0, 0, 0, 0, 0, 0), (5, .iload 4, 2, 0, 0, 0, 0, 0, 0), (7, .aload_n 0, 1, 0, 0, 0, 0, 0, 0), (8, .getfield 236, 3, 3219, 0, 12, 1116, 0, 22), (11, .if_icmp .ge 31, 3, 42, 0, 0, 0, 0, 0), (14, .aload_n 0, 1, 0, 0, 0, 0, 0, 0), (15, .getfield 57, 3, 1321, 1, 12, 1118, 0, 22), (18, .iload 4, 2, 0, 0, 0, 0, 0, 0), (20, .iaload, 1, 0, 0, 0, 0, 0, 0), (21, .iload_n 1, 1, 0, 0, 0, 0, 0, 0), (22, .if_icmp .lt 14, 3, 36, 0, 0, 0, 0, 0), (25, .aload_n 0, 1, 0, 0, 0, 0, 0, 0), (26, .getfield 67, 3, 1324, 1, 12, 1121, 0, 22), (29, .iload_n 3, 1, 0, 0, 0, 0, 0, 0), (30, .iload 4, 2, 0, 0, 0, 0, 0, 0), (32, .iastore, 1, 0, 0, 0, 0, 0, 0), (33, .iinc 3 1, 3, 0, 0, 0, 0, 0, 0), (36, .iinc 4 1, 3, 0, 0, 0, 0, 0, 0), (39, .goto (-34), 3, 5, 0, 0, 0, 0, 0), (42, .sipush 9600, 3, 0, 0, 0, 0, 0, 0), (45, .iload_n 2, 1, 0, 0, 0, 0, 0, 0), (46, .imul, 1, 0, 0, 0, 0, 0, 0), (47, .istore 4, 2, 0, 0, 0, 0, 0, 0), (49, .iload_n 1, 1, 0, 0, 0, 0, 0, 0), (50, .iconst 1, 1, 0, 0, 0, 0, 0, 0), (51, .iload_n 2, 1, 0, 0, 0, 0, 0, 0), (52, .ishl, 1, 0, 0, 0, 0, 0, 0), (53, .isub, 1, 0, 0, 0, 0, 0, 0), (54, .istore 5, 2, 0, 0, 0, 0, 0, 0), (56, .iconst 0, 1, 0, 0, 0, 0, 0, 0), (57, .istore 6, 2, 0, 0, 0, 0, 0, 0), (59, .iload 6, 2, 0, 0, 0, 0, 0, 0), (61, .iload_n 3, 1, 0, 0, 0, 0, 0, 0), (62, .if_icmp .ge 39, 3, 101, 0, 0, 0, 0, 0), (65, .aload_n 0, 1, 0, 0, 0, 0, 0, 0), (66, .getfield 64, 3, 1323, 1, 12, 1120, 0, 22), (69, .aload_n 0, 1, 0, 0, 0, 0, 0, 0), (70, .getfield 67, 3, 1324, 1, 12, 1121, 0, 22), (73, .iload 6, 2, 0, 0, 0, 0, 0, 0), (75, .iaload, 1, 0, 0, 0, 0, 0, 0), (76, .aload_n 0, 1, 0, 0, 0, 0, 0, 0), (77, .getfield 61, 3, 1322, 1, 12, 1119, 0, 22), (80, .iload 4, 2, 0, 0, 0, 0, 0, 0), (82, .aload_n 0, 1, 0, 0, 0, 0, 0, 0), (83, .getfield 67, 3, 1324, 1, 12, 1121, 0, 22), (86, .iload 6, 2, 0, 0, 0, 0, 0, 0), (88, .iaload, 1, 0, 0, 0, 0, 0, 0), (89, .iadd, 1, 0, 0, 0, 0, 0, 0), (90, .iload 5, 2, 0, 0, 0, 0, 0, 0), (92, .iadd, 1, 0, 0, 0, 0, 0, 0), (93, .iaload, 1, 0, 0, 0, 0, 0, 0), (94, .iastore, 1, 0, 0, 0, 0, 0, 0), (95, .iinc 6 1, 3, 0, 0, 0, 0, 0, 0), (98, .goto (-39), 3, 59, 0, 0, 0, 0, 0), (101, .aload_n 0, 1, 0, 0, 0, 0, 0, 0), (102, .aload_n 0, 1, 0, 0, 0, 0, 0, 0), (103, .getfield 67, 3, 1324, 1, 12, 1121, 0, 22), (106, .aload_n 0, 1, 0, 0, 0, 0, 0, 0), (107, .getfield 70, 3, 1325, 1, 12, 1122, 0, 22), (110, .iload_n 3, 1, 0, 0, 0, 0, 0, 0), (111, .sipush 9600, 3, 0, 0, 0, 0, 0, 0), (114, .invokevirtual 239, 3, 218, 5, 3, 1468, 0, 22), (117, .iconst 0, 1, 0, 0, 0, 0, 0, 0), (118, .istore 6, 2, 0, 0, 0, 0, 0, 0), (120, .iload 6, 2, 0, 0, 0, 0, 0, 0), (122, .iload_n 3, 1, 0, 0, 0, 0, 0, 0), (123, .if_icmp .ge 36, 3, 159, 0, 0, 0, 0, 0), (126, .aload_n 0, 1, 0, 0, 0, 0, 0, 0), (127, .getfield 64, 3, 1323, 1, 12, 1120, 0, 22), (130, .aload_n 0, 1, 0, 0, 0, 0, 0, 0), (131, .getfield 70, 3, 1325, 1, 12, 1122, 0, 22), (134, .iload 6, 2, 0, 0, 0, 0, 0, 0), (136, .iaload, 1, 0, 0, 0, 0, 0, 0), (137, .aload_n 0, 1, 0, 0, 0, 0, 0, 0), (138, .getfield 61, 3, 1322, 1, 12, 1119, 0, 22), (141, .iload 4, 2, 0, 0, 0, 0, 0, 0), (143, .aload_n 0, 1, 0, 0, 0, 0, 0, 0), (144, .getfield 70, 3, 1325, 1, 12, 1122, 0, 22), (147, .iload 6, 2, 0, 0, 0, 0, 0, 0), (149, .iaload, 1, 0, 0, 0, 0, 0, 0), (150, .iadd, 1, 0, 0, 0, 0, 0, 0), (151, .iaload, 1, 0, 0, 0, 0, 0, 0), (152, .iastore, 1, 0, 0, 0, 0, 0, 0), (153, .iinc 6 1, 3, 0, 0, 0, 0, 0, 0), (156, .goto (-36), 3, 120, 0, 0, 0, 0, 0), (159, .aload_n 0, 1, 0, 0, 0, 0, 0, 0), (160, .aload_n 0, 1, 0, 0, 0, 0, 0, 0), (161, .getfield 70, 3, 1325, 1, 12, 1122, 0, 22), (164, .aload_n 0, 1, 0, 0, 0, 0, 0, 0), (165, .getfield 67, 3, 1324, 1, 12, 1121, 0, 22), (168, .iload_n 3, 1, 0, 0, 0, 0, 0, 0), (169, .sipush 9600, 3, 0, 0, 0, 0, 0, 0), (172, .invokevirtual 239, 3, 218, 5, 3, 1468, 0, 22), (175, .iload_n 3, 1, 0, 0, 0, 0, 0, 0), (176, .ireturn, 1, 0, 0, 0, 0, 0, 0)]
set_option maxRecDepth 100000 in
theorem jk_X12_bySize : ji_X12_bySize.all (jck 219) = true := by decide +kernel
def ji_X12_isSame : List JI := [(0, .sipush 9600, 3, 0, 0, 0, 0, 0, 0), (3, .iload 4, 2, 0, 0, 0, 0, 0, 0), (5, .imul, 1, 0, 0, 0, 0, 0, 0), (6, .istore 5, 2, 0, 0, 0, 0, 0, 0), (8, .iload_n 3, 1, 0, 0, 0, 0, 0, 0), (9, .iconst 1, 1, 0, 0, 0, 0, 0, 0), (10, .iload 4, 2, 0, 0, 0, 0, 0, 0), (12, .ishl, 1, 0, 0, 0, 0, 0, 0), (13, .isub, 1, 0, 0, 0, 0, 0, 0), (14, .istore 6, 2, 0, 0, 0, 0, 0, 0), (16, .aload_n 0, 1, 0, 0, 0, 0, 0, 0), (17, .getfield 61, 3, 1322, 1, 12, 1119, 0, 22), (20, .iload 5, 2, 0, 0, 0, 0, 0, 0), (22, .iload_n 1, 1, 0, 0, 0, 0, 0, 0), (23, .iadd, 1, 0, 0, 0, 0, 0, 0), (24, .iaload, 1, 0, 0, 0, 0, 0, 0), (25, .aload_n 0, 1, 0, 0, 0, 0, 0, 0), (26, .getfield 61, 3, 1322, 1, 12, 1119, 0, 22), (29, .iload 5, 2, 0, 0, 0, 0, 0, 0), (31, .iload_n 2, 1, 0, 0, 0, 0, 0, 0), (32, .iadd, 1, 0, 0, 0, 0, 0, 0), (33, .iaload, 1, 0, 0, 0, 0, 0, 0), (34, .if_icmp .ne 34, 3, 68, 0, 0, 0, 0, 0), (37, .aload_n 0, 1, 0, 0, 0, 0, 0, 0), (38, .getfield 61, 3, 1322, 1, 12, 1119, 0, 22), (41, .iload 5, 2, 0, 0, 0, 0, 0, 0), (43, .iload_n 1, 1, 0, 0, 0, 0, 0, 0), (44, .iadd, 1, 0, 0, 0, 0, 0, 0), (45, .iload 6, 2, 0, 0, 0, 0, 0, 0), (47, .iadd, 1, 0, 0, 0, 0, 0, 0), (48, .iaload, 1, 0, 0, 0, 0, 0, 0), (49, .aload_n 0, 1, 0, 0, 0, 0, 0, 0), (50, .getfield 61, 3, 1322, 1, 12, 1119, 0, 22), (53, .iload 5, 2, 0, 0, 0, 0, 0, 0), (55, .iload_n 2, 1, 0, 0, 0, 0, 0, 0), (56, .iadd, 1, 0, 0, 0, 0, 0, 0), (57, .iload 6, 2, 0, 0, 0, 0, 0, 0), (59, .iadd, 1, 0, 0, 0, 0, 0, 0), (60, .iaload, 1, 0, 0, 0, 0, 0, 0), (61, .if_icmp .ne 7, 3, 68, 0, 0, 0, 0, 0), (64, .iconst 1, 1, 0, 0, 0, 0, 0, 0), (65, .goto 4, 3, 69, 0, 0, 0, 0, 0), (68, .iconst 0, 1, 0, 0, 0, 0, 0, 0), (69, .ireturn, 1, 0, 5, 0, 0, 0, 0)]
set_option maxRecDepth 100000 in
theorem jk_X12_isSame : ji_X12_isSame.all (jck 220) = true := by decide +kernel
def ji_X12_rankAll : List JI := [(0, .aload_n 0, 1, 0, 0, 0, 0, 0, 0), (1, .iconst 0, 1, 0, 0, 0, 0, 0, 0), (2, .putfield 236, 3, 3219, 0, 12, 1116, 0, 22), (5, .iconst 0, 1, 0, 0, 0, 0, 0, 0), (6, .istore_n 1, 1, 0, 0, 0, 0, 0, 0), (7, .iload_n 1, 1, 0, 0, 0, 0, 0, 0), (8, .aload_n 0, 1, 0, 0, 0, 0, 0, 0), (9, .getfield 135, 3, 3200, 0, 12, 1097, 0, 22), (12, .if_icmp .ge 92, 3, 104, 0, 0, 0, 0, 0), (15, .iconst 0, 1, 0, 0, 0, 0, 0, 0), (16, .istore_n 2, 1, 0, 0, 0, 0, 0, 0), (17, .iload_n 2, 1, 0, 0, 0, 0, 0, 0), (18, .aload_n 0, 1, 0, 0, 0, 0, 0, 0), (19, .getfield 7, 3, 1301, 1, 12, 1098, 0, 22), (22, .iload_n 1, 1, 0, 0, 0, 0, 0, 0), (23, .iaload, 1, 0, 0, 0, 0, 0, 0), (24, .if_icmp .ge 74, 3, 98, 0, 0, 0, 0, 0), (27, .aload_n 0, 1, 0, 0, 0, 0, 0, 0), (28, .getfield 54, 3, 1320, 1, 12, 1117, 0, 22), (31, .aload_n 0, 1, 0, 0, 0, 0, 0, 0), (32, .getfield 236, 3, 3219, 0, 12, 1116, 0, 22), (35, .iload_n 1, 1, 0, 0, 0, 0, 0, 0), (36, .iastore, 1, 0, 0, 0, 0, 0, 0), (37, .aload_n 0, 1, 0, 0, 0, 0, 0, 0), (38, .getfield 57, 3, 1321, 1, 12, 1118, 0, 22), (41, .aload_n 0, 1, 0, 0, 0, 0, 0, 0), (42, .getfield 236, 3, 3219, 0, 12, 1116, 0, 22), (45, .aload_n 0, 1, 0, 0, 0, 0, 0, 0), (46, .getfield 7, 3, 1301, 1, 12, 1098, 0, 22), (49, .iload_n 1, 1, 0, 0, 0, 0, 0, 0), (50, .iaload, 1, 0, 0, 0, 0, 0, 0), (51, .iload_n 2, 1, 0, 0, 0, 0, 0, 0), (52, .isub, 1, 0, 0, 0, 0, 0, 0), (53, .iastore, 1, 0, 0, 0, 0, 0, 0), (54, .aload_n 0, 1, 0, 0, 0, 0, 0, 0), (55, .getfield 64, 3, 1323, 1, 12, 1120, 0, 22), (58, .aload_n 0, 1, 0, 0, 0, 0, 0, 0), (59, .getfield 236, 3, 3219, 0, 12, 1116, 0, 22), (62, .aload_n 0, 1, 0, 0, 0, 0, 0, 0), (63, .iload_n 1, 1, 0, 0, 0, 0, 0, 0), (64, .iload_n 2, 1, 0, 0, 0, 0, 0, 0), (65, .invokevirtual 149, 3, 174, 3, 0, 1267, 0, 22), (68, .iastore, 1, 0, 0, 0, 0, 0, 0), (69, .aload_n 0, 1, 0, 0, 0, 0, 0, 0), (70, .getfield 67, 3, 1324, 1, 12, 1121, 0, 22), (73, .aload_n 0, 1, 0, 0, 0, 0, 0, 0), (74, .getfield 236, 3, 3219, 0, 12, 1116, 0, 22), (77, .aload_n 0, 1, 0, 0, 0, 0, 0, 0), (78, .getfield 236, 3, 3219, 0, 12, 1116, 0, 22), (81, .iastore, 1, 0, 0, 0, 0, 0, 0), (82, .aload_n 0, 1, 0, 0, 0, 0, 0, 0), (83, .dup, 1, 0, 0, 0, 0, 0, 0), (84, .getfield 236, 3, 3219, 0, 12, 1116, 0, 22), (87, .iconst 1, 1, 0, 0, 0, 0, 0, 0), (88, .iadd, 1, 0, 0, 0, 0, 0, 0), (89, .putfield 236, 3, 3219, 0, 12, 1116, 0, 22), (92, .iinc 2 1, 3, 0, 0, 0, 0, 0, 0), (95, .goto (-78), 3, 17, 0, 0, 0, 0, 0), (98, .iinc 1 1, 3, 0, 0, 0, 0, 0, 0), (101, .goto (-94), 3, 7, 0, 0, 0, 0, 0), (104, .aload_n 0, 1, 0, 0, 0, 0, 0, 0), (105, .aload_n 0, 1, 0, 0, 0, 0, 0, 0), (106, .getfield 67, 3, 1324, 1, 12, 1121, 0, 22), (109, .aload_n 0, 1, 0, 0, 0, 0, 0, 0), (110, .getfield 70, 3, 1325, 1, 12, 1122, 0, 22), (113, .aload_n 0, 1, 0, 0, 0, 0, 0, 0), (114, .getfield 236, 3, 3219, 0, 12, 1116, 0, 22), (117, .ldc 173, 2, 0, 0, 0, 1295, 0, 65536), (119, .invokevirtual 239, 3, 218, 5, 3, 1468, 0, 22), (122, .iconst 0, 1, 0, 0, 0, 0, 0, 0), (123, .istore_n 1, 1, 0, 0, 0, 0, 0, 0), (124, .iconst 0, 1, 0, 0, 0, 0, 0, 0), (125, .istore_n 2, 1, 0, 0, 0, 0, 0, 0), (126, .iload_n 2, 1, 0, 0, 0, 0, 0, 0), (127, .aload_n 0, 1, 0, 0, 0, 0, 0, 0), (128, .getfield 236, 3, 3219, 0, 12, 1116, 0, 22), (131, .if_icmp .ge 60, 3, 191, 0, 0, 0, 0, 0), (134, .iload_n 1, 1, 0, 0, 0, 0, 0, 0), (135, .iload_n 2, 1, 0, 0, 0, 0, 0, 0), (136, .ifCond .le 34, 3, 170, 0, 0, 0, 0, 0), (139, .aload_n 0, 1, 0, 0, 0, 0, 0, 0), (140, .getfield 64, 3, 1323, 1, 12, 1120, 0, 22), (143, .aload_n 0, 1, 0, 0, 0, 0, 0, 0), (144, .getfield 70, 3, 1325, 1, 12, 1122, 0, 22), (147, .iload_n 2, 1, 0, 0, 0, 0, 0, 0), (148, .iaload, 1, 0, 0, 0, 0, 0, 0), (149, .iaload, 1, 0, 0, 0, 0, 0, 0), (150, .aload_n 0, 1, 0, 0, 0, 0, 0, 0), (151, .getfield 64, 3, 1323, 1, 12, 1120, 0, 22), (154, .aload_n 0, 1, 0, 0, 0, 0, 0, 0), (155, .getfield 70, 3, 1325, 1, 12, 1122, 0, 22), (158, .iload_n 2, 1, 0, 0, 0, 0, 0, 0), (159, .iconst 1, 1, 0, 0, 0, 0, 0, 0), (160, .isub, 1, 0, 0, 0, 0, 0, 0), (161, .iaload, 1, 0, 0, 0, 0, 0, 0), (162, .iaload, 1, 0, 0, 0, 0, 0, 0), (163, .if_icmp .eq 7, 3, 170, 0, 0, 0, 0, 0), (166, .iconst 1, 1, 0, 0, 0, 0, 0, 0), (167, .goto 4, 3, 171, 0, 0, 0, 0, 0), (170, .iconst 0, 1, 0, 0, 0, 0, 0, 0), (171, .iadd, 1, 0, 0, 0, 0, 0, 0), (172, .istore_n 1, 1, 0, 0, 0, 0, 0, 0), (173, .aload_n 0, 1, 0, 0, 0, 0, 0, 0), (174, .getfield 61, 3, 1322, 1, 12, 1119, 0, 22), (177, .aload_n 0, 1, 0, 0, 0, 0, 0, 0), (178, .getfield 70, 3, 1325, 1, 12, 1122, 0, 22), (181, .iload_n 2, 1, 0, 0, 0, 0, 0, 0), (182, .iaload, 1, 0, 0, 0, 0, 0, 0), (183, .iload_n 1, 1, 0, 0, 0, 0, 0, 0), (184, .iastore, 1, 0, 0, 0, 0, 0, 0), (185, .iinc 2 1, 3, 0, 0, 0, 0, 0, 0), (188, .goto (-62), 3, 126, 0, 0, 0, 0, 0), (191, .iconst 1, 1, 0, 0, 0, 0, 0, 0), (192, .istore_n 2, 1, 0, 0, 0, 0, 0, 0), (193, .iload_n 2, 1, 0, 0, 0, 0, 0, 0), (194, .bipush 8, 2, 0, 0, 0, 0, 0, 0), (196, .if_icmp .ge 98, 3, 294, 0, 0, 0, 0, 0), (199, .aload_n 0, 1, 0, 0, 0, 0, 0, 0), (200, .iconst 1, 1, 0, 0, 0, 0, 0, 0), (201, .iload_n 2, 1, 0, 0, 0, 0, 0, 0), (202, .ishl, 1, 0, 0, 0, 0, 0, 0), (203, .iload_n 2, 1, 0, 0, 0, 0, 0, 0), (204, .iconst 1, 1, 0, 0, 0, 0, 0, 0), (205, .isub, 1, 0, 0, 0, 0, 0, 0), (206, .invokevirtual 243, 3, 219, 3, 0, 1472, 0, 22), (209, .istore_n 3, 1, 0, 0, 0, 0, 0, 0), (210, .iconst 0, 1, 0, 0, 0, 0, 0, 0), (211, .istore_n 1, 1, 0, 0, 0, 0, 0, 0), (212, .iconst 0, 1, 0, 0, 0, 0, 0, 0), (213, .istore 4, 2, 0, 0, 0, 0, 0, 0), (215, .iload 4, 2, 0, 0, 0, 0, 0, 0), (217, .iload_n 3, 1, 0, 0, 0, 0, 0, 0), (218, .if_icmp .ge 70, 3, 288, 0, 0, 0, 0, 0), (221, .iload_n 1, 1, 0, 0, 0, 0, 0, 0), (222, .iload 4, 2, 0, 0, 0, 0, 0, 0), (224, .ifCond .le 36, 3, 260, 0, 0, 0, 0, 0), (227, .aload_n 0, 1, 0, 0, 0, 0, 0, 0), (228, .aload_n 0, 1, 0, 0, 0, 0, 0, 0), (229, .getfield 67, 3, 1324, 1, 12, 1121, 0, 22), (232, .iload 4, 2, 0, 0, 0, 0, 0, 0), (234, .iaload, 1, 0, 0, 0, 0, 0, 0), (235, .aload_n 0, 1, 0, 0, 0, 0, 0, 0), (236, .getfield 67, 3, 1324, 1, 12, 1121, 0, 22), (239, .iload 4, 2, 0, 0, 0, 0, 0, 0), (241, .iconst 1, 1, 0, 0, 0, 0, 0, 0), (242, .isub, 1, 0, 0, 0, 0, 0, 0), (243, .iaload, 1, 0, 0, 0, 0, 0, 0), (244, .iconst 1, 1, 0, 0, 0, 0, 0, 0), (245, .iload_n 2, 1, 0, 0, 0, 0, 0, 0), (246, .ishl, 1, 0, 0, 0, 0, 0, 0), (247, .iload_n 2, 1, 0, 0, 0, 0, 0, 0), (248, .iconst 1, 1, 0, 0, 0, 0, 0, 0), (249, .isub, 1, 0, 0, 0, 0, 0, 0), (250, .invokevirtual 246, 3, 220, 5, 0, 1476, 0, 22), (253, .ifCond .ne 7, 3, 260, 0, 0, 0, 0, 0), (256, .iconst 1, 1, 0, 0, 0, 0, 0, 0), (257, .goto 4, 3, 261, 0, 0, 0, 0, 0), (260, .iconst 0, 1, 0, 0, 0, 0, 0, 0), (261, .iadd, 1, 0, 0, 0, 0, 0, 0), (262, .istore_n 1, 1, 0, 0, 0, 0, 0, 0), (263, .aload_n 0, 1, 0, 0, 0, 0, 0, 0), (264, .getfield 61, 3, 1322, 1, 12, 1119, 0, 22), (267, .sipush 9600, 3, 0, 0, 0, 0, 0, 0), (270, .iload_n 2, 1, 0, 0, 0, 0, 0, 0), (271, .imul, 1, 0, 0, 0, 0, 0, 0), (272, .aload_n 0, 1, 0, 0, 0, 0, 0, 0), (273, .getfield 67, 3, 1324, 1, 12, 1121, 0, 22), (276, .iload 4, 2, 0, 0, 0, 0, 0, 0), (278, .iaload, 1, 0, 0, 0, 0, 0, 0), (279, .iadd, 1, 0, 0, 0, 0, 0, 0), (280, .iload_n 1, 1, 0, 0, 0, 0, 0, 0), (281, .iastore, 1, 0, 0, 0, 0, 0, 0), (282, .iinc 4 1, 3, 0, 0, 0, 0, 0, 0), (285, .goto (-70), 3, 215, 0, 0, 0, 0, 0), (288, .iinc 2 1, 3, 0, 0, 0, 0, 0, 0), (291, .goto (-98), 3, 193, 0, 0, 0, 0, 0), (294, .return_, 1, 0, 0, 0, 0, 0, 0)]
set_option maxRecDepth 100000 in
theorem jk_X12_rankAll : ji_X12_rankAll.all (jck 221) = true := by decide +kernel
def ji_X12_manyOf : List JI := [(0, .iconst 0, 1, 0, 0, 0, 0, 0, 0), (1, .istore_n 3, 1, 0, 0, 0, 0, 0, 0), (2, .iconst 2, 1, 0, 0, 0, 0, 0, 0), (3, .iload_n 3, 1, 0, 0, 0, 0, 0, 0), (4, .ishl, 1, 0, 0, 0, 0, 0, 0), (5, .iload_n 1, 1, 0, 0, 0, 0, 0, 0), (6, .if_icmp .gt 9, 3, 15, 0, 0, 0, 0, 0), (9, .iinc 3 1, 3, 0, 0, 0, 0, 0, 0), (12, .goto (-10), 3, 2, 0, 0, 0, 0, 0), (15, .aload_n 0, 1, 0, 0, 0, 0, 0, 0), (16, .iload_n 1, 1, 0, 0, 0, 0, 0, 0), (17, .iload_n 3, 1, 0, 0, 0, 0, 0, 0), (18, .invokevirtual 243, 3, 219, 3, 0, 1472, 0, 22), (21, .istore 4, 2, 0, 0, 0, 0, 0, 0), (23, .iconst 0, 1, 0, 0, 0, 0, 0, 0), (24, .istore 5, 2, 0, 0, 0, 0, 0, 0), (26, .iconst 0, 1, 0, 0, 0, 0, 0, 0), (27, .istore 6, 2, 0, 0, 0, 0, 0, 0), (29, .iconst 0, 1, 0, 0, 0, 0, 0, 0), (30, .istore 7, 2, 0, 0, 0, 0, 0, 0), (32, .iload 7, 2, 0, 0, 0, 0, 0, 0), (34, .iload 4, 2, 0, 0, 0, 0, 0, 0), (36, .if_icmp .ge 122, 3, 158, 0, 0, 0, 0, 0), (39, .iload 7, 2, 0, 0, 0, 0, 0, 0), (41, .ifCond .eq 28, 3, 69, 0, 0, 0, 0, 0), (44, .aload_n 0, 1, 0, 0, 0, 0, 0, 0), (45, .aload_n 0, 1, 0, 0, 0, 0, 0, 0), (46, .getfield 67, 3, 1324, 1, 12, 1121, 0, 22), (49, .iload 7, 2, 0, 0, 0, 0, 0, 0), (51, .iaload, 1, 0, 0, 0, 0, 0, 0), (52, .aload_n 0, 1, 0, 0, 0, 0, 0, 0), (53, .getfield 67, 3, 1324, 1, 12, 1121, 0, 22), (56, .iload 7, 2, 0, 0, 0, 0, 0, 0), (58, .iconst 1, 1, 0, 0, 0, 0, 0, 0), (59, .isub, 1, 0, 0, 0, 0, 0, 0), (60, .iaload, 1, 0, 0, 0, 0, 0, 0), (61, .iload_n 1, 1, 0, 0, 0, 0, 0, 0), (62, .iload_n 3, 1, 0, 0, 0, 0, 0, 0), (63, .invokevirtual 246, 3, 220, 5, 0, 1476, 0, 22), (66, .ifCond .ne 7, 3, 73, 0, 0, 0, 0, 0), (69, .iconst 1, 1, 0, 0, 0, 0, 0, 0), (70, .goto 4, 3, 74, 0, 0, 0, 0, 0), (73, .iconst 0, 1, 0, 0, 0, 0, 0, 0), (74, .istore 8, 2, 0, 0, 0, 0, 0, 0), (76, .iload 8, 2, 0, 0, 0, 0, 0, 0), (78, .ifCond .eq 8, 3, 86, 0, 0, 0, 0, 0), (81, .iload 7, 2, 0, 0, 0, 0, 0, 0), (83, .goto 5, 3, 88, 0, 0, 0, 0, 0), (86, .iload 5, 2, 0, 0, 0, 0, 0, 0), (88, .istore 5, 2, 0, 0, 0, 0, 0, 0), (90, .iload 8, 2, 0, 0, 0, 0, 0, 0), (92, .ifCond .eq 7, 3, 99, 0, 0, 0, 0, 0), (95, .iconst 1, 1, 0, 0, 0, 0, 0, 0), (96, .goto 40, 3, 136, 0, 0, 0, 0, 0), (99, .iload 6, 2, 0, 0, 0, 0, 0, 0), (101, .aload_n 0, 1, 0, 0, 0, 0, 0, 0), (102, .getfield 54, 3, 1320, 1, 12, 1117, 0, 22), (105, .aload_n 0, 1, 0, 0, 0, 0, 0, 0), (106, .getfield 67, 3, 1324, 1, 12, 1121, 0, 22), (109, .iload 7, 2, 0, 0, 0, 0, 0, 0), (111, .iaload, 1, 0, 0, 0, 0, 0, 0), (112, .iaload, 1, 0, 0, 0, 0, 0, 0), (113, .aload_n 0, 1, 0, 0, 0, 0, 0, 0), (114, .getfield 54, 3, 1320, 1, 12, 1117, 0, 22), (117, .aload_n 0, 1, 0, 0, 0, 0, 0, 0), (118, .getfield 67, 3, 1324, 1, 12, 1121, 0, 22), (121, .iload 7, 2, 0, 0, 0, 0, 0, 0), (123, .iconst 1, 1, 0, 0, 0, 0, 0, 0), (124, .isub, 1, 0, 0, 0, 0, 0, 0), (125, .iaload, 1, 0, 0, 0, 0, 0, 0), (126, .iaload, 1, 0, 0, 0, 0, 0, 0), (127, .if_icmp .eq 7, 3, 134, 0, 0, 0, 0, 0), (130, .iconst 1, 1, 0, 0, 0, 0, 0, 0), (131, .goto 4, 3, 135, 0, 0, 0, 0, 0), (134, .iconst 0, 1, 0, 0, 0, 0, 0, 0), (135, .iadd, 1, 0, 0, 0, 0, 0, 0), (136, .istore 6, 2, 0, 0, 0, 0, 0, 0), (138, .iload 6, 2, 0, 0, 0, 0, 0, 0), (140, .iload_n 2, 1, 0, 0, 0, 0, 0, 0), (141, .if_icmp .lt 11, 3, 152, 0, 0, 0, 0, 0), (144, .aload_n 0, 1, 0, 0, 0, 0, 0, 0), (145, .getfield 67, 3, 1324, 1, 12, 1121, 0, 22), (148, .iload 5, 2, 0, 0, 0, 0, 0, 0), (150, .iaload, 1, 0, 0, 0, 0, 0, 0), (151, .ireturn, 1, 0, 0, 0, 0, 0, 0), (152, .iinc 7 1, 3, 0, 0, 0, 0, 0, 0), (155, .goto (-123), 3, 32, 0, 0, 0, 0, 0), (158, .iconst (-1), 1, 0, 0, 0, 0, 0, 0), (159, .ireturn, 1, 0, 0, 0, 0, 0, 0)]
set_option maxRecDepth 100000 in
theorem jk_X12_manyOf : ji_X12_manyOf.all (jck 222) = true := by decide +kernel
def ji_X12_ofMany : List JI := [(0, .iload_n 1, 1, 0, 0, 0, 0, 0, 0), (1, .iconst 1, 1, 0, 0, 0, 0, 0, 0), (2, .if_icmp .lt 15, 3, 17, 0, 0, 0, 0, 0), (5, .iload_n 2, 1, 0, 0, 0, 0, 0, 0), (6, .i2l, 1, 0, 0, 0, 0, 0, 0), (7, .lconst 0, 1, 0, 0, 0, 0, 0, 0), (8, .ldc2_w 234, 3, 0, 0, 0, 1459, 0, 2), (11, .invokestatic 138, 3, 170, 3, 0, 1279, 0, 0), (14, .ifCond .ne 6, 3, 20, 0, 0, 0, 0, 0), (17, .bipush (-2), 2, 0, 0, 0, 0, 0, 0), (19, .ireturn, 1, 0, 0, 0, 0, 0, 0), (20, .aload_n 0, 1, 0, 0, 0, 0, 0, 0), (21, .getfield 135, 3, 3200, 0, 12, 1097, 0, 22), (24, .iload_n 1, 1, 0, 0, 0, 0, 0, 0), (25, .if_icmp .ge 6, 3, 31, 0, 0, 0, 0, 0), (28, .bipush (-4), 2, 0, 0, 0, 0, 0, 0), (30, .ireturn, 1, 0, 0, 0, 0, 0, 0), (31, .aload_n 0, 1, 0, 0, 0, 0, 0, 0), (32, .invokevirtual 250, 3, 221, 1, 3, 1464, 0, 22), (35, .iconst 0, 1, 0, 0, 0, 0, 0, 0), (36, .istore_n 3, 1, 0, 0, 0, 0, 0, 0), (37, .sipush 240, 3, 0, 0, 0, 0, 0, 0), (40, .istore 4, 2, 0, 0, 0, 0, 0, 0), (42, .iconst (-1), 1, 0, 0, 0, 0, 0, 0), (43, .istore 5, 2, 0, 0, 0, 0, 0, 0), (45, .iload_n 3, 1, 0, 0, 0, 0, 0, 0), (46, .iload 4, 2, 0, 0, 0, 0, 0, 0), (48, .if_icmp .ge 47, 3, 95, 0, 0, 0, 0, 0), (51, .iload_n 3, 1, 0, 0, 0, 0, 0, 0), (52, .iload 4, 2, 0, 0, 0, 0, 0, 0), (54, .iadd, 1, 0, 0, 0, 0, 0, 0), (55, .iconst 1, 1, 0, 0, 0, 0, 0, 0), (56, .iadd, 1, 0, 0, 0, 0, 0, 0), (57, .iconst 2, 1, 0, 0, 0, 0, 0, 0), (58, .idiv, 1, 0, 0, 0, 0, 0, 0), (59, .istore 6, 2, 0, 0, 0, 0, 0, 0), (61, .aload_n 0, 1, 0, 0, 0, 0, 0, 0), (62, .iload 6, 2, 0, 0, 0, 0, 0, 0), (64, .iload_n 1, 1, 0, 0, 0, 0, 0, 0), (65, .invokevirtual 253, 3, 222, 3, 0, 1480, 0, 22), (68, .istore 7, 2, 0, 0, 0, 0, 0, 0), (70, .iload 7, 2, 0, 0, 0, 0, 0, 0), (72, .iconst (-1), 1, 0, 0, 0, 0, 0, 0), (73, .if_icmp .eq 13, 3, 86, 0, 0, 0, 0, 0), (76, .iload 6, 2, 0, 0, 0, 0, 0, 0), (78, .istore_n 3, 1, 0, 0, 0, 0, 0, 0), (79, .iload 7, 2, 0, 0, 0, 0, 0, 0), (81, .istore 5, 2, 0, 0, 0, 0, 0, 0), (83, .goto 9, 3, 92, 0, 0, 0, 0, 0), (86, .iload 6, 2, 0, 0, 0, 0, 0, 0), (88, .iconst 1, 1, 0, 0, 0, 0, 0, 0), (89, .isub, 1, 0, 0, 0, 0, 0, 0), (90, .istore 4, 2, 0, 0, 0, 0, 0, 0), (92, .goto (-47), 3, 45, 0, 0, 0, 0, 0), (95, .iload_n 3, 1, 0, 0, 0, 0, 0, 0), (96, .ifCond .ne 5, 3, 101, 0, 0, 0, 0, 0), (99, .iconst 0, 1, 0, 0, 0, 0, 0, 0), (100, .ireturn, 1, 0, 0, 0, 0, 0, 0), (101, .aload_n 0, 1, 0, 0, 0, 0, 0, 0), (102, .getfield 54, 3, 1320, 1, 12, 1117, 0, 22), (105, .iload 5, 2, 0, 0, 0, 0, 0, 0), (107, .iaload, 1, 0, 0, 0, 0, 0, 0), (108, .istore 6, 2, 0, 0, 0, 0, 0, 0), (110, .iload_n 2, 1, 0, 0, 0, 0, 0, 0), (111, .ifCond .ne 7, 3, 118, 0, 0, 0, 0, 0), (114, .iload_n 3, 1, 0, 0, 0, 0, 0, 0), (115, .goto 28, 3, 143, 0, 0, 0, 0, 0), (118, .iload_n 2, 1, 0, 0, 0, 0, 0, 0), (119, .iconst 1, 1, 0, 0, 0, 0, 0, 0), (120, .if_icmp .ne 8, 3, 128, 0, 0, 0, 0, 0), (123, .iload 6, 2, 0, 0, 0, 0, 0, 0), (125, .goto 18, 3, 143, 0, 0, 0, 0, 0), (128, .aload_n 0, 1, 0, 0, 0, 0, 0, 0), (129, .getfield 7, 3, 1301, 1, 12, 1098, 0, 22), (132, .iload 6, 2, 0, 0, 0, 0, 0, 0), (134, .iaload, 1, 0, 0, 0, 0, 0, 0), (135, .aload_n 0, 1, 0, 0, 0, 0, 0, 0), (136, .getfield 57, 3, 1321, 1, 12, 1118, 0, 22), (139, .iload 5, 2, 0, 0, 0, 0, 0, 0), (141, .iaload, 1, 0, 0, 0, 0, 0, 0), (142, .isub, 1, 0, 0, 0, 0, 0, 0), (143, .ireturn, 1, 0, 0, 0, 0, 0, 0)]
set_option maxRecDepth 100000 in
theorem jk_X12_ofMany : ji_X12_ofMany.all (jck 223) = true := by decide +kernel
def ji_X12_periodOf : List JI := [(0, .iconst 1, 1, 0, 0, 0, 0, 0, 0), (1, .istore_n 3, 1, 0, 0, 0, 0, 0, 0), (2, .iload_n 3, 1, 0, 0, 0, 0, 0, 0), (3, .iload_n 2, 1, 0, 0, 0, 0, 0, 0), (4, .iload_n 1, 1, 0, 0, 0, 0, 0, 0), (5, .isub, 1, 0, 0, 0, 0, 0, 0), (6, .if_icmp .ge 31, 3, 37, 0, 0, 0, 0, 0), (9, .aload_n 0, 1, 0, 0, 0, 0, 0, 0), (10, .getfield 30, 3, 1308, 1, 12, 1105, 0, 22), (13, .sipush 241, 3, 0, 0, 0, 0, 0, 0), (16, .iload_n 1, 1, 0, 0, 0, 0, 0, 0), (17, .imul, 1, 0, 0, 0, 0, 0, 0), (18, .iload_n 1, 1, 0, 0, 0, 0, 0, 0), (19, .iadd, 1, 0, 0, 0, 0, 0, 0), (20, .iload_n 3, 1, 0, 0, 0, 0, 0, 0), (21, .iadd, 1, 0, 0, 0, 0, 0, 0), (22, .iaload, 1, 0, 0, 0, 0, 0, 0), (23, .iload_n 2, 1, 0, 0, 0, 0, 0, 0), (24, .iload_n 1, 1, 0, 0, 0, 0, 0, 0), (25, .isub, 1, 0, 0, 0, 0, 0, 0), (26, .iload_n 3, 1, 0, 0, 0, 0, 0, 0), (27, .isub, 1, 0, 0, 0, 0, 0, 0), (28, .if_icmp .ge 9, 3, 37, 0, 0, 0, 0, 0), (31, .iinc 3 1, 3, 0, 0, 0, 0, 0, 0), (34, .goto (-32), 3, 2, 0, 0, 0, 0, 0), (37, .iload_n 3, 1, 0, 0, 0, 0, 0, 0), (38, .ireturn, 1, 0, 0, 0, 0, 0, 0)]
set_option maxRecDepth 100000 in
theorem jk_X12_periodOf : ji_X12_periodOf.all (jck 224) = true := by decide +kernel
def ji_X12_period : List JI := [(0, .aload_n 0, 1, 0, 0, 0, 0, 0, 0), (1, .iload_n 1, 1, 0, 0, 0, 0, 0, 0), (2, .iload_n 2, 1, 0, 0, 0, 0, 0, 0), (3, .iload_n 3, 1, 0, 0, 0, 0, 0, 0), (4, .invokevirtual 175, 3, 173, 4, 0, 1301, 0, 22), (7, .ifCond .eq 8, 3, 15, 0, 0, 0, 0, 0), (10, .iload_n 2, 1, 0, 0, 0, 0, 0, 0), (11, .iload_n 3, 1, 0, 0, 0, 0, 0, 0), (12, .if_icmp .ne 6, 3, 18, 0, 0, 0, 0, 0), (15, .bipush (-2), 2, 0, 0, 0, 0, 0, 0), (17, .ireturn, 1, 0, 0, 0, 0, 0, 0), (18, .aload_n 0, 1, 0, 0, 0, 0, 0, 0), (19, .iload_n 1, 1, 0, 0, 0, 0, 0, 0), (20, .iload_n 1, 1, 0, 0, 0, 0, 0, 0), (21, .invokevirtual 197, 3, 196, 3, 3, 1377, 0, 22), (24, .aload_n 0, 1, 0, 0, 0, 0, 0, 0), (25, .iload_n 2, 1, 0, 0, 0, 0, 0, 0), (26, .iload_n 3, 1, 0, 0, 0, 0, 0, 0), (27, .invokevirtual 256, 3, 224, 3, 0, 1488, 0, 22), (30, .ireturn, 1, 0, 0, 0, 0, 0, 0)]
set_option maxRecDepth 100000 in
theorem jk_X12_period : ji_X12_period.all (jck 225) = true := by decide +kernel
def ji_X12_root : List JI := [(0, .aload_n 0, 1, 0, 0, 0, 0, 0, 0), (1, .iload_n 1, 1, 0, 0, 0, 0, 0, 0), (2, .invokevirtual 142, 3, 171, 2, 0, 1275, 0, 22), (5, .ifCond .ne 6, 3, 11, 0, 0, 0, 0, 0), (8, .bipush (-2), 2, 0, 0, 0, 0, 0, 0), (10, .ireturn, 1, 0, 0, 0, 0, 0, 0), (11, .aload_n 0, 1, 0, 0, 0, 0, 0, 0), (12, .getfield 7, 3, 1301, 1, 12, 1098, 0, 22), (15, .iload_n 1, 1, 0, 0, 0, 0, 0, 0), (16, .iaload, 1, 0, 0, 0, 0, 0, 0), (17, .istore_n 2, 1, 0, 0, 0, 0, 0, 0), (18, .aload_n 0, 1, 0, 0, 0, 0, 0, 0), (19, .iload_n 1, 1, 0, 0, 0, 0, 0, 0), (20, .iload_n 1, 1, 0, 0, 0, 0, 0, 0), (21, .invokevirtual 197, 3, 196, 3, 3, 1377, 0, 22), (24, .iconst 1, 1, 0, 0, 0, 0, 0, 0), (25, .istore_n 3, 1, 0, 0, 0, 0, 0, 0), (26, .iload_n 3, 1, 0, 0, 0, 0, 0, 0), (27, .iload_n 2, 1, 0, 0, 0, 0, 0, 0), (28, .if_icmp .ge 29, 3, 57, 0, 0, 0, 0, 0), (31, .iload_n 2, 1, 0, 0, 0, 0, 0, 0), (32, .iload_n 3, 1, 0, 0, 0, 0, 0, 0), (33, .irem, 1, 0, 0, 0, 0, 0, 0), (34, .ifCond .ne 17, 3, 51, 0, 0, 0, 0, 0), (37, .aload_n 0, 1, 0, 0, 0, 0, 0, 0), (38, .getfield 30, 3, 1308, 1, 12, 1105, 0, 22), (41, .iload_n 3, 1, 0, 0, 0, 0, 0, 0), (42, .iaload, 1, 0, 0, 0, 0, 0, 0), (43, .iload_n 2, 1, 0, 0, 0, 0, 0, 0), (44, .iload_n 3, 1, 0, 0, 0, 0, 0, 0), (45, .isub, 1, 0, 0, 0, 0, 0, 0), (46, .if_icmp .ne 5, 3, 51, 0, 0, 0, 0, 0), (49, .iload_n 3, 1, 0, 0, 0, 0, 0, 0), (50, .ireturn, 1, 0, 0, 0, 0, 0, 0), (51, .iinc 3 1, 3, 0, 0, 0, 0, 0, 0), (54, .goto (-28), 3, 26, 0, 0, 0, 0, 0), (57, .iload_n 2, 1, 0, 0, 0, 0, 0, 0), (58, .ireturn, 1, 0, 0, 0, 0, 0, 0)]
set_option maxRecDepth 100000 in
theorem jk_X12_root : ji_X12_root.all (jck 226) = true := by decide +kernel
def ji_X12_squares : List JI := [(0, .aload_n 0, 1, 0, 0, 0, 0, 0, 0), (1, .iload_n 1, 1, 0, 0, 0, 0, 0, 0), (2, .invokevirtual 142, 3, 171, 2, 0, 1275, 0, 22), (5, .ifCond .ne 6, 3, 11, 0, 0, 0, 0, 0), (8, .bipush (-2), 2, 0, 0, 0, 0, 0, 0), (10, .ireturn, 1, 0, 0, 0, 0, 0, 0), (11, .aload_n 0, 1, 0, 0, 0, 0, 0, 0), (12, .iload_n 1, 1, 0, 0, 0, 0, 0, 0), (13, .iload_n 1, 1, 0, 0, 0, 0, 0, 0), (14, .invokevirtual 197, 3, 196, 3, 3, 1377, 0, 22), (17, .iconst 0, 1, 0, 0, 0, 0, 0, 0), (18, .istore_n 2, 1, 0, 0, 0, 0, 0, 0), (19, .iconst 0, 1, 0, 0, 0, 0, 0, 0), (20, .istore_n 3, 1, 0, 0, 0, 0, 0, 0), (21, .iload_n 3, 1, 0, 0, 0, 0, 0, 0), (22, .aload_n 0, 1, 0, 0, 0, 0, 0, 0), (23, .getfield 7, 3, 1301, 1, 12, 1098, 0, 22), (26, .iload_n 1, 1, 0, 0, 0, 0, 0, 0), (27, .iaload, 1, 0, 0, 0, 0, 0, 0), (28, .if_icmp .ge 61, 3, 89, 0, 0, 0, 0, 0), (31, .iconst 1, 1, 0, 0, 0, 0, 0, 0), (32, .istore 4, 2, 0, 0, 0, 0, 0, 0), (34, .iload_n 3, 1, 0, 0, 0, 0, 0, 0), (35, .iconst 2, 1, 0, 0, 0, 0, 0, 0), (36, .iload 4, 2, 0, 0, 0, 0, 0, 0), (38, .imul, 1, 0, 0, 0, 0, 0, 0), (39, .iadd, 1, 0, 0, 0, 0, 0, 0), (40, .aload_n 0, 1, 0, 0, 0, 0, 0, 0), (41, .getfield 7, 3, 1301, 1, 12, 1098, 0, 22), (44, .iload_n 1, 1, 0, 0, 0, 0, 0, 0), (45, .iaload, 1, 0, 0, 0, 0, 0, 0), (46, .if_icmp .gt 37, 3, 83, 0, 0, 0, 0, 0), (49, .iload_n 2, 1, 0, 0, 0, 0, 0, 0), (50, .aload_n 0, 1, 0, 0, 0, 0, 0, 0), (51, .getfield 30, 3, 1308, 1, 12, 1105, 0, 22), (54, .sipush 241, 3, 0, 0, 0, 0, 0, 0), (57, .iload_n 3, 1, 0, 0, 0, 0, 0, 0), (58, .imul, 1, 0, 0, 0, 0, 0, 0), (59, .iload_n 3, 1, 0, 0, 0, 0, 0, 0), (60, .iadd, 1, 0, 0, 0, 0, 0, 0), (61, .iload 4, 2, 0, 0, 0, 0, 0, 0), (63, .iadd, 1, 0, 0, 0, 0, 0, 0), (64, .iaload, 1, 0, 0, 0, 0, 0, 0), (65, .iload 4, 2, 0, 0, 0, 0, 0, 0), (67, .if_icmp .lt 7, 3, 74, 0, 0, 0, 0, 0), (70, .iconst 1, 1, 0, 0, 0, 0, 0, 0), (71, .goto 4, 3, 75, 0, 0, 0, 0, 0), (74, .iconst 0, 1, 0, 0, 0, 0, 0, 0), (75, .iadd, 1, 0, 0, 0, 0, 0, 0), (76, .istore_n 2, 1, 0, 0, 0, 0, 0, 0), (77, .iinc 4 1, 3, 0, 0, 0, 0, 0, 0), (80, .goto (-46), 3, 34, 0, 0, 0, 0, 0), (83, .iinc 3 1, 3, 0, 0, 0, 0, 0, 0), (86, .goto (-65), 3, 21, 0, 0, 0, 0, 0), (89, .iload_n 2, 1, 0, 0, 0, 0, 0, 0), (90, .ireturn, 1, 0, 0, 0, 0, 0, 0)]
set_option maxRecDepth 100000 in
theorem jk_X12_squares : ji_X12_squares.all (jck 227) = true := by decide +kernel
def ji_X12_runs : List JI := [(0, .aload_n 0, 1, 0, 0, 0, 0, 0, 0), (1, .iload_n 1, 1, 0, 0, 0, 0, 0, 0), (2, .invokevirtual 142, 3, 171, 2, 0, 1275, 0, 22), (5, .ifCond .ne 6, 3, 11, 0, 0, 0, 0, 0), (8, .bipush (-2), 2, 0, 0, 0, 0, 0, 0), (10, .ireturn, 1, 0, 0, 0, 0, 0, 0), (11, .aload_n 0, 1, 0, 0, 0, 0, 0, 0), (12, .iload_n 1, 1, 0, 0, 0, 0, 0, 0), (13, .iload_n 1, 1, 0, 0, 0, 0, 0, 0), (14, .invokevirtual 197, 3, 196, 3, 3, 1377, 0, 22), (17, .aload_n 0, 1, 0, 0, 0, 0, 0, 0), (18, .iconst 0, 1, 0, 0, 0, 0, 0, 0), (19, .putfield 259, 3, 3227, 0, 12, 1124, 0, 22), (22, .iconst 0, 1, 0, 0, 0, 0, 0, 0), (23, .istore_n 2, 1, 0, 0, 0, 0, 0, 0), (24, .iload_n 2, 1, 0, 0, 0, 0, 0, 0), (25, .aload_n 0, 1, 0, 0, 0, 0, 0, 0), (26, .getfield 7, 3, 1301, 1, 12, 1098, 0, 22), (29, .iload_n 1, 1, 0, 0, 0, 0, 0, 0), (30, .iaload, 1, 0, 0, 0, 0, 0, 0), (31, .if_icmp .ge 150, 3, 181, 0, 0, 0, 0, 0), (34, .iconst 1, 1, 0, 0, 0, 0, 0, 0), (35, .istore_n 3, 1, 0, 0, 0, 0, 0, 0), (36, .iload_n 2, 1, 0, 0, 0, 0, 0, 0), (37, .iconst 2, 1, 0, 0, 0, 0, 0, 0), (38, .iload_n 3, 1, 0, 0, 0, 0, 0, 0), (39, .imul, 1, 0, 0, 0, 0, 0, 0), (40, .iadd, 1, 0, 0, 0, 0, 0, 0), (41, .aload_n 0, 1, 0, 0, 0, 0, 0, 0), (42, .getfield 7, 3, 1301, 1, 12, 1098, 0, 22), (45, .iload_n 1, 1, 0, 0, 0, 0, 0, 0), (46, .iaload, 1, 0, 0, 0, 0, 0, 0), (47, .if_icmp .gt 128, 3, 175, 0, 0, 0, 0, 0), (50, .iload_n 2, 1, 0, 0, 0, 0, 0, 0), (51, .iload_n 3, 1, 0, 0, 0, 0, 0, 0), (52, .iadd, 1, 0, 0, 0, 0, 0, 0), (53, .aload_n 0, 1, 0, 0, 0, 0, 0, 0), (54, .getfield 30, 3, 1308, 1, 12, 1105, 0, 22), (57, .sipush 241, 3, 0, 0, 0, 0, 0, 0), (60, .iload_n 2, 1, 0, 0, 0, 0, 0, 0), (61, .imul, 1, 0, 0, 0, 0, 0, 0), (62, .iload_n 2, 1, 0, 0, 0, 0, 0, 0), (63, .iadd, 1, 0, 0, 0, 0, 0, 0), (64, .iload_n 3, 1, 0, 0, 0, 0, 0, 0), (65, .iadd, 1, 0, 0, 0, 0, 0, 0), (66, .iaload, 1, 0, 0, 0, 0, 0, 0), (67, .iadd, 1, 0, 0, 0, 0, 0, 0), (68, .istore 4, 2, 0, 0, 0, 0, 0, 0), (70, .iload_n 2, 1, 0, 0, 0, 0, 0, 0), (71, .ifCond .eq 24, 3, 95, 0, 0, 0, 0, 0), (74, .aload_n 0, 1, 0, 0, 0, 0, 0, 0), (75, .iload_n 1, 1, 0, 0, 0, 0, 0, 0), (76, .iload_n 2, 1, 0, 0, 0, 0, 0, 0), (77, .iconst 1, 1, 0, 0, 0, 0, 0, 0), (78, .isub, 1, 0, 0, 0, 0, 0, 0), (79, .invokevirtual 149, 3, 174, 3, 0, 1267, 0, 22), (82, .aload_n 0, 1, 0, 0, 0, 0, 0, 0), (83, .iload_n 1, 1, 0, 0, 0, 0, 0, 0), (84, .iload_n 2, 1, 0, 0, 0, 0, 0, 0), (85, .iconst 1, 1, 0, 0, 0, 0, 0, 0), (86, .isub, 1, 0, 0, 0, 0, 0, 0), (87, .iload_n 3, 1, 0, 0, 0, 0, 0, 0), (88, .iadd, 1, 0, 0, 0, 0, 0, 0), (89, .invokevirtual 149, 3, 174, 3, 0, 1267, 0, 22), (92, .if_icmp .eq 7, 3, 99, 0, 0, 0, 0, 0), (95, .iconst 1, 1, 0, 0, 0, 0, 0, 0), (96, .goto 4, 3, 100, 0, 0, 0, 0, 0), (99, .iconst 0, 1, 0, 0, 0, 0, 0, 0), (100, .istore 5, 2, 0, 0, 0, 0, 0, 0), (102, .iload 5, 2, 0, 0, 0, 0, 0, 0), (104, .ifCond .eq 65, 3, 169, 0, 0, 0, 0, 0), (107, .iload 4, 2, 0, 0, 0, 0, 0, 0), (109, .iload_n 2, 1, 0, 0, 0, 0, 0, 0), (110, .isub, 1, 0, 0, 0, 0, 0, 0), (111, .iconst 2, 1, 0, 0, 0, 0, 0, 0), (112, .iload_n 3, 1, 0, 0, 0, 0, 0, 0), (113, .imul, 1, 0, 0, 0, 0, 0, 0), (114, .if_icmp .lt 55, 3, 169, 0, 0, 0, 0, 0), (117, .aload_n 0, 1, 0, 0, 0, 0, 0, 0), (118, .iload_n 2, 1, 0, 0, 0, 0, 0, 0), (119, .iload 4, 2, 0, 0, 0, 0, 0, 0), (121, .invokevirtual 256, 3, 224, 3, 0, 1488, 0, 22), (124, .iload_n 3, 1, 0, 0, 0, 0, 0, 0), (125, .if_icmp .ne 44, 3, 169, 0, 0, 0, 0, 0), (128, .aload_n 0, 1, 0, 0, 0, 0, 0, 0), (129, .getfield 77, 3, 1328, 1, 12, 1125, 0, 22), (132, .aload_n 0, 1, 0, 0, 0, 0, 0, 0), (133, .getfield 259, 3, 3227, 0, 12, 1124, 0, 22), (136, .iload_n 2, 1, 0, 0, 0, 0, 0, 0), (137, .iastore, 1, 0, 0, 0, 0, 0, 0), (138, .aload_n 0, 1, 0, 0, 0, 0, 0, 0), (139, .getfield 80, 3, 1329, 1, 12, 1126, 0, 22), (142, .aload_n 0, 1, 0, 0, 0, 0, 0, 0), (143, .getfield 259, 3, 3227, 0, 12, 1124, 0, 22), (146, .iload 4, 2, 0, 0, 0, 0, 0, 0), (148, .iastore, 1, 0, 0, 0, 0, 0, 0), (149, .aload_n 0, 1, 0, 0, 0, 0, 0, 0), (150, .getfield 83, 3, 1330, 1, 12, 1127, 0, 22), (153, .aload_n 0, 1, 0, 0, 0, 0, 0, 0), (154, .getfield 259, 3, 3227, 0, 12, 1124, 0, 22), (157, .iload_n 3, 1, 0, 0, 0, 0, 0, 0), (158, .iastore, 1, 0, 0, 0, 0, 0, 0), (159, .aload_n 0, 1, 0, 0, 0, 0, 0, 0), (160, .dup, 1, 0, 0, 0, 0, 0, 0), (161, .getfield 259, 3, 3227, 0, 12, 1124, 0, 22), (164, .iconst 1, 1, 0, 0, 0, 0, 0, 0), (165, .iadd, 1, 0, 0, 0, 0, 0, 0), (166, .putfield 259, 3, 3227, 0, 12, 1124, 0, 22), (169, .iinc 3 1, 3, 0, 0, 0, 0, 0, 0), (172, .goto (-136), 3, 36, 0, 0, 0, 0, 0), (175, .iinc 2 1, 3, 0, 0, 0, 0, 0, 0), (178, .goto (-154), 3, 24, 0, 0, 0, 0, 0), (181, .aload_n 0, 1, 0, 0, 0, 0, 0, 0), (182, .getfield 259, 3, 3227, 0, 12, 1124, 0, 22), (185, .ireturn, 1, 0, 0, 0, 0, 0, 0)]
set_option maxRecDepth 100000 in
theorem jk_X12_runs : ji_X12_runs.all (jck 228) = true := by decide +kernel
end
section
/-! instructions, by wip/whole/gen4.py -/
def ji_X12_run : List JI := [(0, .iload_n 2, 1, 0, 0, 0, 0, 0, 0), (1, .i2l, 1, 0, 0, 0, 0, 0, 0), (2, .lconst 0, 1, 0, 0, 0, 0, 0, 0), (3, .ldc2_w 234, 3, 0, 0, 0, 1459, 0, 2), (6, .invokestatic 138, 3, 170, 3, 0, 1279, 0, 0), (9, .ifCond .ne 6, 3, 15, 0, 0, 0, 0, 0), (12, .bipush (-2), 2, 0, 0, 0, 0, 0, 0), (14, .ireturn, 1, 0, 0, 0, 0, 0, 0), (15, .iload_n 1, 1, 0, 0, 0, 0, 0, 0), (16, .i2l, 1, 0, 0, 0, 0, 0, 0), (17, .lconst 0, 1, 0, 0, 0, 0, 0, 0), (18, .aload_n 0, 1, 0, 0, 0, 0, 0, 0), (19, .getfield 259, 3, 3227, 0, 12, 1124, 0, 22), (22, .iconst 1, 1, 0, 0, 0, 0, 0, 0), (23, .isub, 1, 0, 0, 0, 0, 0, 0), (24, .i2l, 1, 0, 0, 0, 0, 0, 0), (25, .invokestatic 138, 3, 170, 3, 0, 1279, 0, 0), (28, .ifCond .ne 7, 3, 35, 0, 0, 0, 0, 0), (31, .iconst (-1), 1, 0, 0, 0, 0, 0, 0), (32, .goto 36, 3, 68, 0, 0, 0, 0, 0), (35, .iload_n 2, 1, 0, 0, 0, 0, 0, 0), (36, .ifCond .ne 12, 3, 48, 0, 0, 0, 0, 0), (39, .aload_n 0, 1, 0, 0, 0, 0, 0, 0), (40, .getfield 77, 3, 1328, 1, 12, 1125, 0, 22), (43, .iload_n 1, 1, 0, 0, 0, 0, 0, 0), (44, .iaload, 1, 0, 0, 0, 0, 0, 0), (45, .goto 23, 3, 68, 0, 0, 0, 0, 0), (48, .iload_n 2, 1, 0, 0, 0, 0, 0, 0), (49, .iconst 1, 1, 0, 0, 0, 0, 0, 0), (50, .if_icmp .ne 12, 3, 62, 0, 0, 0, 0, 0), (53, .aload_n 0, 1, 0, 0, 0, 0, 0, 0), (54, .getfield 80, 3, 1329, 1, 12, 1126, 0, 22), (57, .iload_n 1, 1, 0, 0, 0, 0, 0, 0), (58, .iaload, 1, 0, 0, 0, 0, 0, 0), (59, .goto 9, 3, 68, 0, 0, 0, 0, 0), (62, .aload_n 0, 1, 0, 0, 0, 0, 0, 0), (63, .getfield 83, 3, 1330, 1, 12, 1127, 0, 22), (66, .iload_n 1, 1, 0, 0, 0, 0, 0, 0), (67, .iaload, 1, 0, 0, 0, 0, 0, 0), (68, .ireturn, 1, 0, 0, 0, 0, 0, 0)]
set_option maxRecDepth 100000 in
theorem jk_X12_run : ji_X12_run.all (jck 229) = true := by decide +kernel
def ji_X12_around : List JI := [(0, .iload_n 2, 1, 0, 0, 0, 0, 0, 0), (1, .iconst 2, 1, 0, 0, 0, 0, 0, 0), (2, .idiv, 1, 0, 0, 0, 0, 0, 0), (3, .istore_n 3, 1, 0, 0, 0, 0, 0, 0), (4, .iload_n 2, 1, 0, 0, 0, 0, 0, 0), (5, .iconst 1, 1, 0, 0, 0, 0, 0, 0), (6, .iadd, 1, 0, 0, 0, 0, 0, 0), (7, .iconst 2, 1, 0, 0, 0, 0, 0, 0), (8, .idiv, 1, 0, 0, 0, 0, 0, 0), (9, .istore 4, 2, 0, 0, 0, 0, 0, 0), (11, .iload_n 3, 1, 0, 0, 0, 0, 0, 0), (12, .ifCond .lt 39, 3, 51, 0, 0, 0, 0, 0), (15, .iload 4, 2, 0, 0, 0, 0, 0, 0), (17, .aload_n 0, 1, 0, 0, 0, 0, 0, 0), (18, .getfield 7, 3, 1301, 1, 12, 1098, 0, 22), (21, .iload_n 1, 1, 0, 0, 0, 0, 0, 0), (22, .iaload, 1, 0, 0, 0, 0, 0, 0), (23, .if_icmp .ge 28, 3, 51, 0, 0, 0, 0, 0), (26, .aload_n 0, 1, 0, 0, 0, 0, 0, 0), (27, .iload_n 1, 1, 0, 0, 0, 0, 0, 0), (28, .iload_n 3, 1, 0, 0, 0, 0, 0, 0), (29, .invokevirtual 149, 3, 174, 3, 0, 1267, 0, 22), (32, .aload_n 0, 1, 0, 0, 0, 0, 0, 0), (33, .iload_n 1, 1, 0, 0, 0, 0, 0, 0), (34, .iload 4, 2, 0, 0, 0, 0, 0, 0), (36, .invokevirtual 149, 3, 174, 3, 0, 1267, 0, 22), (39, .if_icmp .ne 12, 3, 51, 0, 0, 0, 0, 0), (42, .iinc 3 (-1), 3, 0, 0, 0, 0, 0, 0), (45, .iinc 4 1, 3, 0, 0, 0, 0, 0, 0), (48, .goto (-37), 3, 11, 0, 0, 0, 0, 0), (51, .iload 4, 2, 0, 0, 0, 0, 0, 0), (53, .iload_n 3, 1, 0, 0, 0, 0, 0, 0), (54, .isub, 1, 0, 0, 0, 0, 0, 0), (55, .iconst 1, 1, 0, 0, 0, 0, 0, 0), (56, .isub, 1, 0, 0, 0, 0, 0, 0), (57, .ireturn, 1, 0, 0, 0, 0, 0, 0)]
set_option maxRecDepth 100000 in
theorem jk_X12_around : ji_X12_around.all (jck 230) = true := by decide +kernel
def ji_X12_palindrome : List JI := [(0, .aload_n 0, 1, 0, 0, 0, 0, 0, 0), (1, .iload_n 1, 1, 0, 0, 0, 0, 0, 0), (2, .invokevirtual 142, 3, 171, 2, 0, 1275, 0, 22), (5, .ifCond .eq 32, 3, 37, 0, 0, 0, 0, 0), (8, .iload_n 2, 1, 0, 0, 0, 0, 0, 0), (9, .i2l, 1, 0, 0, 0, 0, 0, 0), (10, .lconst 0, 1, 0, 0, 0, 0, 0, 0), (11, .iconst 2, 1, 0, 0, 0, 0, 0, 0), (12, .aload_n 0, 1, 0, 0, 0, 0, 0, 0), (13, .getfield 7, 3, 1301, 1, 12, 1098, 0, 22), (16, .iload_n 1, 1, 0, 0, 0, 0, 0, 0), (17, .iaload, 1, 0, 0, 0, 0, 0, 0), (18, .imul, 1, 0, 0, 0, 0, 0, 0), (19, .iconst 2, 1, 0, 0, 0, 0, 0, 0), (20, .isub, 1, 0, 0, 0, 0, 0, 0), (21, .i2l, 1, 0, 0, 0, 0, 0, 0), (22, .invokestatic 138, 3, 170, 3, 0, 1279, 0, 0), (25, .ifCond .eq 12, 3, 37, 0, 0, 0, 0, 0), (28, .aload_n 0, 1, 0, 0, 0, 0, 0, 0), (29, .iload_n 1, 1, 0, 0, 0, 0, 0, 0), (30, .iload_n 2, 1, 0, 0, 0, 0, 0, 0), (31, .invokevirtual 262, 3, 230, 3, 0, 1512, 0, 22), (34, .goto 5, 3, 39, 0, 0, 0, 0, 0), (37, .bipush (-2), 2, 0, 0, 0, 0, 0, 0), (39, .ireturn, 1, 0, 0, 0, 0, 0, 0)]
set_option maxRecDepth 100000 in
theorem jk_X12_palindrome : ji_X12_palindrome.all (jck 231) = true := by decide +kernel
def ji_X12_palindromes : List JI := [(0, .aload_n 0, 1, 0, 0, 0, 0, 0, 0), (1, .iload_n 1, 1, 0, 0, 0, 0, 0, 0), (2, .invokevirtual 142, 3, 171, 2, 0, 1275, 0, 22), (5, .ifCond .ne 6, 3, 11, 0, 0, 0, 0, 0), (8, .bipush (-2), 2, 0, 0, 0, 0, 0, 0), (10, .ireturn, 1, 0, 0, 0, 0, 0, 0), (11, .aload_n 0, 1, 0, 0, 0, 0, 0, 0), (12, .getfield 7, 3, 1301, 1, 12, 1098, 0, 22), (15, .iload_n 1, 1, 0, 0, 0, 0, 0, 0), (16, .iaload, 1, 0, 0, 0, 0, 0, 0), (17, .istore_n 2, 1, 0, 0, 0, 0, 0, 0), (18, .aload_n 0, 1, 0, 0, 0, 0, 0, 0), (19, .getfield 51, 3, 1318, 1, 12, 1115, 0, 22), (22, .iconst 0, 1, 0, 0, 0, 0, 0, 0), (23, .iconst 0, 1, 0, 0, 0, 0, 0, 0), (24, .iastore, 1, 0, 0, 0, 0, 0, 0), (25, .iconst 1, 1, 0, 0, 0, 0, 0, 0), (26, .istore_n 3, 1, 0, 0, 0, 0, 0, 0), (27, .iload_n 3, 1, 0, 0, 0, 0, 0, 0), (28, .iload_n 2, 1, 0, 0, 0, 0, 0, 0), (29, .if_icmp .gt 103, 3, 132, 0, 0, 0, 0, 0), (32, .aload_n 0, 1, 0, 0, 0, 0, 0, 0), (33, .getfield 51, 3, 1318, 1, 12, 1115, 0, 22), (36, .iload_n 3, 1, 0, 0, 0, 0, 0, 0), (37, .iload_n 3, 1, 0, 0, 0, 0, 0, 0), (38, .iastore, 1, 0, 0, 0, 0, 0, 0), (39, .iconst 0, 1, 0, 0, 0, 0, 0, 0), (40, .istore 4, 2, 0, 0, 0, 0, 0, 0), (42, .iload 4, 2, 0, 0, 0, 0, 0, 0), (44, .iload_n 3, 1, 0, 0, 0, 0, 0, 0), (45, .if_icmp .ge 81, 3, 126, 0, 0, 0, 0, 0), (48, .aload_n 0, 1, 0, 0, 0, 0, 0, 0), (49, .iload_n 1, 1, 0, 0, 0, 0, 0, 0), (50, .iload 4, 2, 0, 0, 0, 0, 0, 0), (52, .iload_n 3, 1, 0, 0, 0, 0, 0, 0), (53, .iadd, 1, 0, 0, 0, 0, 0, 0), (54, .iconst 1, 1, 0, 0, 0, 0, 0, 0), (55, .isub, 1, 0, 0, 0, 0, 0, 0), (56, .invokevirtual 262, 3, 230, 3, 0, 1512, 0, 22), (59, .iload_n 3, 1, 0, 0, 0, 0, 0, 0), (60, .iload 4, 2, 0, 0, 0, 0, 0, 0), (62, .isub, 1, 0, 0, 0, 0, 0, 0), (63, .if_icmp .lt 7, 3, 70, 0, 0, 0, 0, 0), (66, .iconst 1, 1, 0, 0, 0, 0, 0, 0), (67, .goto 4, 3, 71, 0, 0, 0, 0, 0), (70, .iconst 0, 1, 0, 0, 0, 0, 0, 0), (71, .istore 5, 2, 0, 0, 0, 0, 0, 0), (73, .aload_n 0, 1, 0, 0, 0, 0, 0, 0), (74, .getfield 51, 3, 1318, 1, 12, 1115, 0, 22), (77, .iload_n 3, 1, 0, 0, 0, 0, 0, 0), (78, .iload 5, 2, 0, 0, 0, 0, 0, 0), (80, .ifCond .eq 33, 3, 113, 0, 0, 0, 0, 0), (83, .aload_n 0, 1, 0, 0, 0, 0, 0, 0), (84, .getfield 51, 3, 1318, 1, 12, 1115, 0, 22), (87, .iload 4, 2, 0, 0, 0, 0, 0, 0), (89, .iaload, 1, 0, 0, 0, 0, 0, 0), (90, .iconst 1, 1, 0, 0, 0, 0, 0, 0), (91, .iadd, 1, 0, 0, 0, 0, 0, 0), (92, .aload_n 0, 1, 0, 0, 0, 0, 0, 0), (93, .getfield 51, 3, 1318, 1, 12, 1115, 0, 22), (96, .iload_n 3, 1, 0, 0, 0, 0, 0, 0), (97, .iaload, 1, 0, 0, 0, 0, 0, 0), (98, .if_icmp .ge 15, 3, 113, 0, 0, 0, 0, 0), (101, .aload_n 0, 1, 0, 0, 0, 0, 0, 0), (102, .getfield 51, 3, 1318, 1, 12, 1115, 0, 22), (105, .iload 4, 2, 0, 0, 0, 0, 0, 0), (107, .iaload, 1, 0, 0, 0, 0, 0, 0), (108, .iconst 1, 1, 0, 0, 0, 0, 0, 0), (109, .iadd, 1, 0, 0, 0, 0, 0, 0), (110, .goto 9, 3, 119, 0, 0, 0, 0, 0), (113, .aload_n 0, 1, 0, 0, 0, 0, 0, 0), (114, .getfield 51, 3, 1318, 1, 12, 1115, 0, 22), (117, .iload_n 3, 1, 0, 0, 0, 0, 0, 0), (118, .iaload, 1, 0, 0, 0, 0, 0, 0), (119, .iastore, 1, 0, 0, 0, 0, 0, 0), (120, .iinc 4 1, 3, 0, 0, 0, 0, 0, 0), (123, .goto (-81), 3, 42, 0, 0, 0, 0, 0), (126, .iinc 3 1, 3, 0, 0, 0, 0, 0, 0), (129, .goto (-102), 3, 27, 0, 0, 0, 0, 0), (132, .aload_n 0, 1, 0, 0, 0, 0, 0, 0), (133, .getfield 51, 3, 1318, 1, 12, 1115, 0, 22), (136, .iload_n 2, 1, 0, 0, 0, 0, 0, 0), (137, .iaload, 1, 0, 0, 0, 0, 0, 0), (138, .ireturn, 1, 0, 0, 0, 0, 0, 0)]
set_option maxRecDepth 100000 in
theorem jk_X12_palindromes : ji_X12_palindromes.all (jck 232) = true := by decide +kernel
def ji_X12_turned : List JI := [(0, .aload_n 0, 1, 0, 0, 0, 0, 0, 0), (1, .iload_n 1, 1, 0, 0, 0, 0, 0, 0), (2, .iload_n 2, 1, 0, 0, 0, 0, 0, 0), (3, .aload_n 0, 1, 0, 0, 0, 0, 0, 0), (4, .getfield 7, 3, 1301, 1, 12, 1098, 0, 22), (7, .iload_n 1, 1, 0, 0, 0, 0, 0, 0), (8, .iaload, 1, 0, 0, 0, 0, 0, 0), (9, .irem, 1, 0, 0, 0, 0, 0, 0), (10, .invokevirtual 149, 3, 174, 3, 0, 1267, 0, 22), (13, .ireturn, 1, 0, 0, 0, 0, 0, 0)]
set_option maxRecDepth 100000 in
theorem jk_X12_turned : ji_X12_turned.all (jck 233) = true := by decide +kernel
def ji_X12_leastRotation : List JI := [(0, .aload_n 0, 1, 0, 0, 0, 0, 0, 0), (1, .iload_n 1, 1, 0, 0, 0, 0, 0, 0), (2, .invokevirtual 142, 3, 171, 2, 0, 1275, 0, 22), (5, .ifCond .ne 6, 3, 11, 0, 0, 0, 0, 0), (8, .bipush (-2), 2, 0, 0, 0, 0, 0, 0), (10, .ireturn, 1, 0, 0, 0, 0, 0, 0), (11, .aload_n 0, 1, 0, 0, 0, 0, 0, 0), (12, .getfield 7, 3, 1301, 1, 12, 1098, 0, 22), (15, .iload_n 1, 1, 0, 0, 0, 0, 0, 0), (16, .iaload, 1, 0, 0, 0, 0, 0, 0), (17, .istore_n 2, 1, 0, 0, 0, 0, 0, 0), (18, .iload_n 2, 1, 0, 0, 0, 0, 0, 0), (19, .ifCond .ne 7, 3, 26, 0, 0, 0, 0, 0), (22, .iconst (-1), 1, 0, 0, 0, 0, 0, 0), (23, .goto 4, 3, 27, 0, 0, 0, 0, 0), (26, .iconst 0, 1, 0, 0, 0, 0, 0, 0), (27, .istore_n 3, 1, 0, 0, 0, 0, 0, 0), (28, .iconst 1, 1, 0, 0, 0, 0, 0, 0), (29, .istore 4, 2, 0, 0, 0, 0, 0, 0), (31, .iload 4, 2, 0, 0, 0, 0, 0, 0), (33, .iload_n 2, 1, 0, 0, 0, 0, 0, 0), (34, .if_icmp .ge 81, 3, 115, 0, 0, 0, 0, 0), (37, .iconst 0, 1, 0, 0, 0, 0, 0, 0), (38, .istore 5, 2, 0, 0, 0, 0, 0, 0), (40, .iload 5, 2, 0, 0, 0, 0, 0, 0), (42, .iload_n 2, 1, 0, 0, 0, 0, 0, 0), (43, .if_icmp .ge 31, 3, 74, 0, 0, 0, 0, 0), (46, .aload_n 0, 1, 0, 0, 0, 0, 0, 0), (47, .iload_n 1, 1, 0, 0, 0, 0, 0, 0), (48, .iload 4, 2, 0, 0, 0, 0, 0, 0), (50, .iload 5, 2, 0, 0, 0, 0, 0, 0), (52, .iadd, 1, 0, 0, 0, 0, 0, 0), (53, .invokevirtual 265, 3, 233, 3, 0, 1524, 0, 22), (56, .aload_n 0, 1, 0, 0, 0, 0, 0, 0), (57, .iload_n 1, 1, 0, 0, 0, 0, 0, 0), (58, .iload_n 3, 1, 0, 0, 0, 0, 0, 0), (59, .iload 5, 2, 0, 0, 0, 0, 0, 0), (61, .iadd, 1, 0, 0, 0, 0, 0, 0), (62, .invokevirtual 265, 3, 233, 3, 0, 1524, 0, 22), (65, .if_icmp .ne 9, 3, 74, 0, 0, 0, 0, 0), (68, .iinc 5 1, 3, 0, 0, 0, 0, 0, 0), (71, .goto (-31), 3, 40, 0, 0, 0, 0, 0), (74, .iload 5, 2, 0, 0, 0, 0, 0, 0), (76, .iload_n 2, 1, 0, 0, 0, 0, 0, 0), (77, .if_icmp .ge 30, 3, 107, 0, 0, 0, 0, 0), (80, .aload_n 0, 1, 0, 0, 0, 0, 0, 0), (81, .iload_n 1, 1, 0, 0, 0, 0, 0, 0), (82, .iload 4, 2, 0, 0, 0, 0, 0, 0), (84, .iload 5, 2, 0, 0, 0, 0, 0, 0), (86, .iadd, 1, 0, 0, 0, 0, 0, 0), (87, .invokevirtual 265, 3, 233, 3, 0, 1524, 0, 22), (90, .aload_n 0, 1, 0, 0, 0, 0, 0, 0), (91, .iload_n 1, 1, 0, 0, 0, 0, 0, 0), (92, .iload_n 3, 1, 0, 0, 0, 0, 0, 0), (93, .iload 5, 2, 0, 0, 0, 0, 0, 0), (95, .iadd, 1, 0, 0, 0, 0, 0, 0), (96, .invokevirtual 265, 3, 233, 3, 0, 1524, 0, 22), (99, .if_icmp .ge 8, 3, 107, 0, 0, 0, 0, 0), (102, .iload 4, 2, 0, 0, 0, 0, 0, 0), (104, .goto 4, 3, 108, 0, 0, 0, 0, 0), (107, .iload_n 3, 1, 0, 0, 0, 0, 0, 0), (108, .istore_n 3, 1, 0, 0, 0, 0, 0, 0), (109, .iinc 4 1, 3, 0, 0, 0, 0, 0, 0), (112, .goto (-81), 3, 31, 0, 0, 0, 0, 0), (115, .iload_n 3, 1, 0, 0, 0, 0, 0, 0), (116, .ireturn, 1, 0, 0, 0, 0, 0, 0)]
set_option maxRecDepth 100000 in
theorem jk_X12_leastRotation : ji_X12_leastRotation.all (jck 234) = true := by decide +kernel
def ji_X12_lyndon : List JI := [(0, .aload_n 0, 1, 0, 0, 0, 0, 0, 0), (1, .iload_n 1, 1, 0, 0, 0, 0, 0, 0), (2, .invokevirtual 142, 3, 171, 2, 0, 1275, 0, 22), (5, .ifCond .ne 6, 3, 11, 0, 0, 0, 0, 0), (8, .bipush (-2), 2, 0, 0, 0, 0, 0, 0), (10, .ireturn, 1, 0, 0, 0, 0, 0, 0), (11, .aload_n 0, 1, 0, 0, 0, 0, 0, 0), (12, .iload_n 1, 1, 0, 0, 0, 0, 0, 0), (13, .iload_n 1, 1, 0, 0, 0, 0, 0, 0), (14, .invokevirtual 197, 3, 196, 3, 3, 1377, 0, 22), (17, .iconst 0, 1, 0, 0, 0, 0, 0, 0), (18, .istore_n 3, 1, 0, 0, 0, 0, 0, 0), (19, .iconst 0, 1, 0, 0, 0, 0, 0, 0), (20, .istore 4, 2, 0, 0, 0, 0, 0, 0), (22, .iload 4, 2, 0, 0, 0, 0, 0, 0), (24, .aload_n 0, 1, 0, 0, 0, 0, 0, 0), (25, .getfield 7, 3, 1301, 1, 12, 1098, 0, 22), (28, .iload_n 1, 1, 0, 0, 0, 0, 0, 0), (29, .iaload, 1, 0, 0, 0, 0, 0, 0), (30, .if_icmp .ge 56, 3, 86, 0, 0, 0, 0, 0), (33, .iload_n 3, 1, 0, 0, 0, 0, 0, 0), (34, .iload_n 2, 1, 0, 0, 0, 0, 0, 0), (35, .if_icmp .ne 6, 3, 41, 0, 0, 0, 0, 0), (38, .iload 4, 2, 0, 0, 0, 0, 0, 0), (40, .ireturn, 1, 0, 0, 0, 0, 0, 0), (41, .iinc 3 1, 3, 0, 0, 0, 0, 0, 0), (44, .iload 4, 2, 0, 0, 0, 0, 0, 0), (46, .iconst 1, 1, 0, 0, 0, 0, 0, 0), (47, .iadd, 1, 0, 0, 0, 0, 0, 0), (48, .istore 5, 2, 0, 0, 0, 0, 0, 0), (50, .iload 5, 2, 0, 0, 0, 0, 0, 0), (52, .aload_n 0, 1, 0, 0, 0, 0, 0, 0), (53, .getfield 7, 3, 1301, 1, 12, 1098, 0, 22), (56, .iload_n 1, 1, 0, 0, 0, 0, 0, 0), (57, .iaload, 1, 0, 0, 0, 0, 0, 0), (58, .if_icmp .ge 21, 3, 79, 0, 0, 0, 0, 0), (61, .aload_n 0, 1, 0, 0, 0, 0, 0, 0), (62, .iload_n 1, 1, 0, 0, 0, 0, 0, 0), (63, .iload 5, 2, 0, 0, 0, 0, 0, 0), (65, .iload 4, 2, 0, 0, 0, 0, 0, 0), (67, .invokevirtual 203, 3, 197, 4, 0, 1385, 0, 22), (70, .ifCond .ne 9, 3, 79, 0, 0, 0, 0, 0), (73, .iinc 5 1, 3, 0, 0, 0, 0, 0, 0), (76, .goto (-26), 3, 50, 0, 0, 0, 0, 0), (79, .iload 5, 2, 0, 0, 0, 0, 0, 0), (81, .istore 4, 2, 0, 0, 0, 0, 0, 0), (83, .goto (-61), 3, 22, 0, 0, 0, 0, 0), (86, .iconst (-1), 1, 0, 0, 0, 0, 0, 0), (87, .ireturn, 1, 0, 0, 0, 0, 0, 0)]
set_option maxRecDepth 100000 in
theorem jk_X12_lyndon : ji_X12_lyndon.all (jck 235) = true := by decide +kernel
def ji_X12_elsewhere : List JI := [(0, .iconst 0, 1, 0, 0, 0, 0, 0, 0), (1, .istore 4, 2, 0, 0, 0, 0, 0, 0), (3, .iconst 0, 1, 0, 0, 0, 0, 0, 0), (4, .istore 5, 2, 0, 0, 0, 0, 0, 0), (6, .iload 5, 2, 0, 0, 0, 0, 0, 0), (8, .iload_n 3, 1, 0, 0, 0, 0, 0, 0), (9, .ifCond .eq 7, 3, 16, 0, 0, 0, 0, 0), (12, .iload_n 2, 1, 0, 0, 0, 0, 0, 0), (13, .goto 9, 3, 22, 0, 0, 0, 0, 0), (16, .aload_n 0, 1, 0, 0, 0, 0, 0, 0), (17, .getfield 7, 3, 1301, 1, 12, 1098, 0, 22), (20, .iload_n 1, 1, 0, 0, 0, 0, 0, 0), (21, .iaload, 1, 0, 0, 0, 0, 0, 0), (22, .if_icmp .ge 53, 3, 75, 0, 0, 0, 0, 0), (25, .iload 5, 2, 0, 0, 0, 0, 0, 0), (27, .iload_n 2, 1, 0, 0, 0, 0, 0, 0), (28, .if_icmp .eq 37, 3, 65, 0, 0, 0, 0, 0), (31, .aload_n 0, 1, 0, 0, 0, 0, 0, 0), (32, .getfield 30, 3, 1308, 1, 12, 1105, 0, 22), (35, .sipush 241, 3, 0, 0, 0, 0, 0, 0), (38, .iload_n 2, 1, 0, 0, 0, 0, 0, 0), (39, .imul, 1, 0, 0, 0, 0, 0, 0), (40, .iload 5, 2, 0, 0, 0, 0, 0, 0), (42, .iadd, 1, 0, 0, 0, 0, 0, 0), (43, .iaload, 1, 0, 0, 0, 0, 0, 0), (44, .iload 4, 2, 0, 0, 0, 0, 0, 0), (46, .if_icmp .le 19, 3, 65, 0, 0, 0, 0, 0), (49, .aload_n 0, 1, 0, 0, 0, 0, 0, 0), (50, .getfield 30, 3, 1308, 1, 12, 1105, 0, 22), (53, .sipush 241, 3, 0, 0, 0, 0, 0, 0), (56, .iload_n 2, 1, 0, 0, 0, 0, 0, 0), (57, .imul, 1, 0, 0, 0, 0, 0, 0), (58, .iload 5, 2, 0, 0, 0, 0, 0, 0), (60, .iadd, 1, 0, 0, 0, 0, 0, 0), (61, .iaload, 1, 0, 0, 0, 0, 0, 0), (62, .goto 5, 3, 67, 0, 0, 0, 0, 0), (65, .iload 4, 2, 0, 0, 0, 0, 0, 0), (67, .istore 4, 2, 0, 0, 0, 0, 0, 0), (69, .iinc 5 1, 3, 0, 0, 0, 0, 0, 0), (72, .goto (-66), 3, 6, 0, 0, 0, 0, 0), (75, .iload 4, 2, 0, 0, 0, 0, 0, 0), (77, .ireturn, 1, 0, 0, 0, 0, 0, 0)]
set_option maxRecDepth 100000 in
theorem jk_X12_elsewhere : ji_X12_elsewhere.all (jck 236) = true := by decide +kernel
def ji_X12_parts : List JI := [(0, .aload_n 0, 1, 0, 0, 0, 0, 0, 0), (1, .iload_n 1, 1, 0, 0, 0, 0, 0, 0), (2, .invokevirtual 142, 3, 171, 2, 0, 1275, 0, 22), (5, .ifCond .ne 6, 3, 11, 0, 0, 0, 0, 0), (8, .bipush (-2), 2, 0, 0, 0, 0, 0, 0), (10, .ireturn, 1, 0, 0, 0, 0, 0, 0), (11, .aload_n 0, 1, 0, 0, 0, 0, 0, 0), (12, .iload_n 1, 1, 0, 0, 0, 0, 0, 0), (13, .iload_n 1, 1, 0, 0, 0, 0, 0, 0), (14, .invokevirtual 197, 3, 196, 3, 3, 1377, 0, 22), (17, .iconst 0, 1, 0, 0, 0, 0, 0, 0), (18, .istore_n 2, 1, 0, 0, 0, 0, 0, 0), (19, .iconst 0, 1, 0, 0, 0, 0, 0, 0), (20, .istore_n 3, 1, 0, 0, 0, 0, 0, 0), (21, .iload_n 3, 1, 0, 0, 0, 0, 0, 0), (22, .aload_n 0, 1, 0, 0, 0, 0, 0, 0), (23, .getfield 7, 3, 1301, 1, 12, 1098, 0, 22), (26, .iload_n 1, 1, 0, 0, 0, 0, 0, 0), (27, .iaload, 1, 0, 0, 0, 0, 0, 0), (28, .if_icmp .ge 28, 3, 56, 0, 0, 0, 0, 0), (31, .iload_n 2, 1, 0, 0, 0, 0, 0, 0), (32, .aload_n 0, 1, 0, 0, 0, 0, 0, 0), (33, .getfield 7, 3, 1301, 1, 12, 1098, 0, 22), (36, .iload_n 1, 1, 0, 0, 0, 0, 0, 0), (37, .iaload, 1, 0, 0, 0, 0, 0, 0), (38, .iload_n 3, 1, 0, 0, 0, 0, 0, 0), (39, .isub, 1, 0, 0, 0, 0, 0, 0), (40, .aload_n 0, 1, 0, 0, 0, 0, 0, 0), (41, .iload_n 1, 1, 0, 0, 0, 0, 0, 0), (42, .iload_n 3, 1, 0, 0, 0, 0, 0, 0), (43, .iconst 1, 1, 0, 0, 0, 0, 0, 0), (44, .invokevirtual 268, 3, 236, 4, 0, 1536, 0, 22), (47, .isub, 1, 0, 0, 0, 0, 0, 0), (48, .iadd, 1, 0, 0, 0, 0, 0, 0), (49, .istore_n 2, 1, 0, 0, 0, 0, 0, 0), (50, .iinc 3 1, 3, 0, 0, 0, 0, 0, 0), (53, .goto (-32), 3, 21, 0, 0, 0, 0, 0), (56, .iload_n 2, 1, 0, 0, 0, 0, 0, 0), (57, .ireturn, 1, 0, 0, 0, 0, 0, 0)]
set_option maxRecDepth 100000 in
theorem jk_X12_parts : ji_X12_parts.all (jck 237) = true := by decide +kernel
def ji_X12_nthPart : List JI := [(0, .aload_n 0, 1, 0, 0, 0, 0, 0, 0), (1, .iload_n 1, 1, 0, 0, 0, 0, 0, 0), (2, .invokevirtual 142, 3, 171, 2, 0, 1275, 0, 22), (5, .ifCond .ne 6, 3, 11, 0, 0, 0, 0, 0), (8, .bipush (-2), 2, 0, 0, 0, 0, 0, 0), (10, .ireturn, 1, 0, 0, 0, 0, 0, 0), (11, .aload_n 0, 1, 0, 0, 0, 0, 0, 0), (12, .getfield 135, 3, 3200, 0, 12, 1097, 0, 22), (15, .bipush 40, 2, 0, 0, 0, 0, 0, 0), (17, .if_icmp .ne 6, 3, 23, 0, 0, 0, 0, 0), (20, .bipush (-3), 2, 0, 0, 0, 0, 0, 0), (22, .ireturn, 1, 0, 0, 0, 0, 0, 0), (23, .iload_n 2, 1, 0, 0, 0, 0, 0, 0), (24, .ifCond .ge 6, 3, 30, 0, 0, 0, 0, 0), (27, .bipush (-4), 2, 0, 0, 0, 0, 0, 0), (29, .ireturn, 1, 0, 0, 0, 0, 0, 0), (30, .aload_n 0, 1, 0, 0, 0, 0, 0, 0), (31, .iload_n 1, 1, 0, 0, 0, 0, 0, 0), (32, .invokevirtual 206, 3, 198, 2, 3, 1373, 0, 22), (35, .iload_n 2, 1, 0, 0, 0, 0, 0, 0), (36, .istore_n 3, 1, 0, 0, 0, 0, 0, 0), (37, .iconst 0, 1, 0, 0, 0, 0, 0, 0), (38, .istore 4, 2, 0, 0, 0, 0, 0, 0), (40, .iload 4, 2, 0, 0, 0, 0, 0, 0), (42, .aload_n 0, 1, 0, 0, 0, 0, 0, 0), (43, .getfield 7, 3, 1301, 1, 12, 1098, 0, 22), (46, .iload_n 1, 1, 0, 0, 0, 0, 0, 0), (47, .iaload, 1, 0, 0, 0, 0, 0, 0), (48, .if_icmp .ge 121, 3, 169, 0, 0, 0, 0, 0), (51, .aload_n 0, 1, 0, 0, 0, 0, 0, 0), (52, .getfield 33, 3, 1309, 1, 12, 1106, 0, 22), (55, .iload 4, 2, 0, 0, 0, 0, 0, 0), (57, .iaload, 1, 0, 0, 0, 0, 0, 0), (58, .istore 5, 2, 0, 0, 0, 0, 0, 0), (60, .iload 4, 2, 0, 0, 0, 0, 0, 0), (62, .ifCond .ne 7, 3, 69, 0, 0, 0, 0, 0), (65, .iconst 0, 1, 0, 0, 0, 0, 0, 0), (66, .goto 24, 3, 90, 0, 0, 0, 0, 0), (69, .aload_n 0, 1, 0, 0, 0, 0, 0, 0), (70, .getfield 30, 3, 1308, 1, 12, 1105, 0, 22), (73, .sipush 241, 3, 0, 0, 0, 0, 0, 0), (76, .aload_n 0, 1, 0, 0, 0, 0, 0, 0), (77, .getfield 33, 3, 1309, 1, 12, 1106, 0, 22), (80, .iload 4, 2, 0, 0, 0, 0, 0, 0), (82, .iconst 1, 1, 0, 0, 0, 0, 0, 0), (83, .isub, 1, 0, 0, 0, 0, 0, 0), (84, .iaload, 1, 0, 0, 0, 0, 0, 0), (85, .imul, 1, 0, 0, 0, 0, 0, 0), (86, .iload 5, 2, 0, 0, 0, 0, 0, 0), (88, .iadd, 1, 0, 0, 0, 0, 0, 0), (89, .iaload, 1, 0, 0, 0, 0, 0, 0), (90, .istore 6, 2, 0, 0, 0, 0, 0, 0), (92, .aload_n 0, 1, 0, 0, 0, 0, 0, 0), (93, .getfield 7, 3, 1301, 1, 12, 1098, 0, 22), (96, .iload_n 1, 1, 0, 0, 0, 0, 0, 0), (97, .iaload, 1, 0, 0, 0, 0, 0, 0), (98, .iload 5, 2, 0, 0, 0, 0, 0, 0), (100, .isub, 1, 0, 0, 0, 0, 0, 0), (101, .iload 6, 2, 0, 0, 0, 0, 0, 0), (103, .isub, 1, 0, 0, 0, 0, 0, 0), (104, .istore 7, 2, 0, 0, 0, 0, 0, 0), (106, .iload_n 3, 1, 0, 0, 0, 0, 0, 0), (107, .iload 7, 2, 0, 0, 0, 0, 0, 0), (109, .if_icmp .ge 49, 3, 158, 0, 0, 0, 0, 0), (112, .aload_n 0, 1, 0, 0, 0, 0, 0, 0), (113, .invokevirtual 157, 3, 176, 1, 0, 1259, 0, 22), (116, .istore 8, 2, 0, 0, 0, 0, 0, 0), (118, .iload 5, 2, 0, 0, 0, 0, 0, 0), (120, .istore 9, 2, 0, 0, 0, 0, 0, 0), (122, .iload 9, 2, 0, 0, 0, 0, 0, 0), (124, .iload 5, 2, 0, 0, 0, 0, 0, 0), (126, .iload 6, 2, 0, 0, 0, 0, 0, 0), (128, .iadd, 1, 0, 0, 0, 0, 0, 0), (129, .iload_n 3, 1, 0, 0, 0, 0, 0, 0), (130, .iadd, 1, 0, 0, 0, 0, 0, 0), (131, .iconst 1, 1, 0, 0, 0, 0, 0, 0), (132, .iadd, 1, 0, 0, 0, 0, 0, 0), (133, .if_icmp .ge 22, 3, 155, 0, 0, 0, 0, 0), (136, .aload_n 0, 1, 0, 0, 0, 0, 0, 0), (137, .iload 8, 2, 0, 0, 0, 0, 0, 0), (139, .aload_n 0, 1, 0, 0, 0, 0, 0, 0), (140, .iload_n 1, 1, 0, 0, 0, 0, 0, 0), (141, .iload 9, 2, 0, 0, 0, 0, 0, 0), (143, .invokevirtual 149, 3, 174, 3, 0, 1267, 0, 22), (146, .invokevirtual 165, 3, 177, 3, 3, 1284, 0, 22), (149, .iinc 9 1, 3, 0, 0, 0, 0, 0, 0), (152, .goto (-30), 3, 122, 0, 0, 0, 0, 0), (155, .iload 8, 2, 0, 0, 0, 0, 0, 0), (157, .ireturn, 1, 0, 0, 0, 0, 0, 0), (158, .iload_n 3, 1, 0, 0, 0, 0, 0, 0), (159, .iload 7, 2, 0, 0, 0, 0, 0, 0), (161, .isub, 1, 0, 0, 0, 0, 0, 0), (162, .istore_n 3, 1, 0, 0, 0, 0, 0, 0), (163, .iinc 4 1, 3, 0, 0, 0, 0, 0, 0), (166, .goto (-126), 3, 40, 0, 0, 0, 0, 0), (169, .bipush (-4), 2, 0, 0, 0, 0, 0, 0), (171, .ireturn, 1, 0, 0, 0, 0, 0, 0)]
set_option maxRecDepth 100000 in
theorem jk_X12_nthPart : ji_X12_nthPart.all (jck 238) = true := by decide +kernel
def ji_X12_uniqueFrom : List JI := [(0, .aload_n 0, 1, 0, 0, 0, 0, 0, 0), (1, .iload_n 1, 1, 0, 0, 0, 0, 0, 0), (2, .iload_n 2, 1, 0, 0, 0, 0, 0, 0), (3, .iconst 0, 1, 0, 0, 0, 0, 0, 0), (4, .invokevirtual 268, 3, 236, 4, 0, 1536, 0, 22), (7, .iconst 1, 1, 0, 0, 0, 0, 0, 0), (8, .iadd, 1, 0, 0, 0, 0, 0, 0), (9, .istore_n 3, 1, 0, 0, 0, 0, 0, 0), (10, .iload_n 2, 1, 0, 0, 0, 0, 0, 0), (11, .iload_n 3, 1, 0, 0, 0, 0, 0, 0), (12, .iadd, 1, 0, 0, 0, 0, 0, 0), (13, .aload_n 0, 1, 0, 0, 0, 0, 0, 0), (14, .getfield 7, 3, 1301, 1, 12, 1098, 0, 22), (17, .iload_n 1, 1, 0, 0, 0, 0, 0, 0), (18, .iaload, 1, 0, 0, 0, 0, 0, 0), (19, .if_icmp .le 7, 3, 26, 0, 0, 0, 0, 0), (22, .iconst (-1), 1, 0, 0, 0, 0, 0, 0), (23, .goto 4, 3, 27, 0, 0, 0, 0, 0), (26, .iload_n 3, 1, 0, 0, 0, 0, 0, 0), (27, .ireturn, 1, 0, 0, 0, 0, 0, 0)]
set_option maxRecDepth 100000 in
theorem jk_X12_uniqueFrom : ji_X12_uniqueFrom.all (jck 239) = true := by decide +kernel
def ji_X12_unique : List JI := [(0, .aload_n 0, 1, 0, 0, 0, 0, 0, 0), (1, .iload_n 1, 1, 0, 0, 0, 0, 0, 0), (2, .iload_n 2, 1, 0, 0, 0, 0, 0, 0), (3, .invokevirtual 179, 3, 172, 3, 0, 1329, 0, 22), (6, .ifCond .ne 6, 3, 12, 0, 0, 0, 0, 0), (9, .bipush (-2), 2, 0, 0, 0, 0, 0, 0), (11, .ireturn, 1, 0, 0, 0, 0, 0, 0), (12, .aload_n 0, 1, 0, 0, 0, 0, 0, 0), (13, .iload_n 1, 1, 0, 0, 0, 0, 0, 0), (14, .iload_n 1, 1, 0, 0, 0, 0, 0, 0), (15, .invokevirtual 197, 3, 196, 3, 3, 1377, 0, 22), (18, .aload_n 0, 1, 0, 0, 0, 0, 0, 0), (19, .iload_n 1, 1, 0, 0, 0, 0, 0, 0), (20, .iload_n 2, 1, 0, 0, 0, 0, 0, 0), (21, .invokevirtual 272, 3, 239, 3, 0, 1548, 0, 22), (24, .ireturn, 1, 0, 0, 0, 0, 0, 0)]
set_option maxRecDepth 100000 in
theorem jk_X12_unique : ji_X12_unique.all (jck 240) = true := by decide +kernel
def ji_X12_leastUnique : List JI := [(0, .aload_n 0, 1, 0, 0, 0, 0, 0, 0), (1, .iload_n 1, 1, 0, 0, 0, 0, 0, 0), (2, .invokevirtual 142, 3, 171, 2, 0, 1275, 0, 22), (5, .ifCond .ne 6, 3, 11, 0, 0, 0, 0, 0), (8, .bipush (-2), 2, 0, 0, 0, 0, 0, 0), (10, .ireturn, 1, 0, 0, 0, 0, 0, 0), (11, .aload_n 0, 1, 0, 0, 0, 0, 0, 0), (12, .iload_n 1, 1, 0, 0, 0, 0, 0, 0), (13, .iload_n 1, 1, 0, 0, 0, 0, 0, 0), (14, .invokevirtual 197, 3, 196, 3, 3, 1377, 0, 22), (17, .iconst 0, 1, 0, 0, 0, 0, 0, 0), (18, .istore_n 2, 1, 0, 0, 0, 0, 0, 0), (19, .iconst 0, 1, 0, 0, 0, 0, 0, 0), (20, .istore_n 3, 1, 0, 0, 0, 0, 0, 0), (21, .iload_n 3, 1, 0, 0, 0, 0, 0, 0), (22, .aload_n 0, 1, 0, 0, 0, 0, 0, 0), (23, .getfield 7, 3, 1301, 1, 12, 1098, 0, 22), (26, .iload_n 1, 1, 0, 0, 0, 0, 0, 0), (27, .iaload, 1, 0, 0, 0, 0, 0, 0), (28, .if_icmp .ge 66, 3, 94, 0, 0, 0, 0, 0), (31, .aload_n 0, 1, 0, 0, 0, 0, 0, 0), (32, .iload_n 1, 1, 0, 0, 0, 0, 0, 0), (33, .iload_n 3, 1, 0, 0, 0, 0, 0, 0), (34, .invokevirtual 272, 3, 239, 3, 0, 1548, 0, 22), (37, .istore 4, 2, 0, 0, 0, 0, 0, 0), (39, .iload 4, 2, 0, 0, 0, 0, 0, 0), (41, .iconst 1, 1, 0, 0, 0, 0, 0, 0), (42, .if_icmp .le 14, 3, 56, 0, 0, 0, 0, 0), (45, .aload_n 0, 1, 0, 0, 0, 0, 0, 0), (46, .iload_n 1, 1, 0, 0, 0, 0, 0, 0), (47, .iload_n 3, 1, 0, 0, 0, 0, 0, 0), (48, .iconst 1, 1, 0, 0, 0, 0, 0, 0), (49, .iadd, 1, 0, 0, 0, 0, 0, 0), (50, .invokevirtual 272, 3, 239, 3, 0, 1548, 0, 22), (53, .goto 4, 3, 57, 0, 0, 0, 0, 0), (56, .iconst (-1), 1, 0, 0, 0, 0, 0, 0), (57, .istore 5, 2, 0, 0, 0, 0, 0, 0), (59, .iload_n 2, 1, 0, 0, 0, 0, 0, 0), (60, .iload 4, 2, 0, 0, 0, 0, 0, 0), (62, .iconst (-1), 1, 0, 0, 0, 0, 0, 0), (63, .if_icmp .eq 22, 3, 85, 0, 0, 0, 0, 0), (66, .iload 5, 2, 0, 0, 0, 0, 0, 0), (68, .iconst (-1), 1, 0, 0, 0, 0, 0, 0), (69, .if_icmp .eq 12, 3, 81, 0, 0, 0, 0, 0), (72, .iload 5, 2, 0, 0, 0, 0, 0, 0), (74, .iload 4, 2, 0, 0, 0, 0, 0, 0), (76, .iconst 1, 1, 0, 0, 0, 0, 0, 0), (77, .isub, 1, 0, 0, 0, 0, 0, 0), (78, .if_icmp .le 7, 3, 85, 0, 0, 0, 0, 0), (81, .iconst 1, 1, 0, 0, 0, 0, 0, 0), (82, .goto 4, 3, 86, 0, 0, 0, 0, 0), (85, .iconst 0, 1, 0, 0, 0, 0, 0, 0), (86, .iadd, 1, 0, 0, 0, 0, 0, 0), (87, .istore_n 2, 1, 0, 0, 0, 0, 0, 0), (88, .iinc 3 1, 3, 0, 0, 0, 0, 0, 0), (91, .goto (-70), 3, 21, 0, 0, 0, 0, 0), (94, .iload_n 2, 1, 0, 0, 0, 0, 0, 0), (95, .ireturn, 1, 0, 0, 0, 0, 0, 0)]
set_option maxRecDepth 100000 in
theorem jk_X12_leastUnique : ji_X12_leastUnique.all (jck 241) = true := by decide +kernel
def ji_X12_signsOf : List JI := [(0, .aload_n 0, 1, 0, 0, 0, 0, 0, 0), (1, .iconst 0, 1, 0, 0, 0, 0, 0, 0), (2, .putfield 275, 3, 3231, 0, 12, 1128, 0, 22), (5, .iconst 0, 1, 0, 0, 0, 0, 0, 0), (6, .istore_n 2, 1, 0, 0, 0, 0, 0, 0), (7, .iload_n 2, 1, 0, 0, 0, 0, 0, 0), (8, .aload_n 0, 1, 0, 0, 0, 0, 0, 0), (9, .getfield 7, 3, 1301, 1, 12, 1098, 0, 22), (12, .iload_n 1, 1, 0, 0, 0, 0, 0, 0), (13, .iaload, 1, 0, 0, 0, 0, 0, 0), (14, .if_icmp .ge 118, 3, 132, 0, 0, 0, 0, 0), (17, .aload_n 0, 1, 0, 0, 0, 0, 0, 0), (18, .iload_n 1, 1, 0, 0, 0, 0, 0, 0), (19, .iload_n 2, 1, 0, 0, 0, 0, 0, 0), (20, .invokevirtual 149, 3, 174, 3, 0, 1267, 0, 22), (23, .istore_n 3, 1, 0, 0, 0, 0, 0, 0), (24, .iconst 0, 1, 0, 0, 0, 0, 0, 0), (25, .istore 4, 2, 0, 0, 0, 0, 0, 0), (27, .iload 4, 2, 0, 0, 0, 0, 0, 0), (29, .aload_n 0, 1, 0, 0, 0, 0, 0, 0), (30, .getfield 275, 3, 3231, 0, 12, 1128, 0, 22), (33, .if_icmp .ge 20, 3, 53, 0, 0, 0, 0, 0), (36, .aload_n 0, 1, 0, 0, 0, 0, 0, 0), (37, .getfield 86, 3, 1332, 1, 12, 1129, 0, 22), (40, .iload 4, 2, 0, 0, 0, 0, 0, 0), (42, .iaload, 1, 0, 0, 0, 0, 0, 0), (43, .iload_n 3, 1, 0, 0, 0, 0, 0, 0), (44, .if_icmp .ge 9, 3, 53, 0, 0, 0, 0, 0), (47, .iinc 4 1, 3, 0, 0, 0, 0, 0, 0), (50, .goto (-23), 3, 27, 0, 0, 0, 0, 0), (53, .iload 4, 2, 0, 0, 0, 0, 0, 0), (55, .aload_n 0, 1, 0, 0, 0, 0, 0, 0), (56, .getfield 275, 3, 3231, 0, 12, 1128, 0, 22), (59, .if_icmp .eq 14, 3, 73, 0, 0, 0, 0, 0), (62, .aload_n 0, 1, 0, 0, 0, 0, 0, 0), (63, .getfield 86, 3, 1332, 1, 12, 1129, 0, 22), (66, .iload 4, 2, 0, 0, 0, 0, 0, 0), (68, .iaload, 1, 0, 0, 0, 0, 0, 0), (69, .iload_n 3, 1, 0, 0, 0, 0, 0, 0), (70, .if_icmp .eq 56, 3, 126, 0, 0, 0, 0, 0), (73, .aload_n 0, 1, 0, 0, 0, 0, 0, 0), (74, .getfield 275, 3, 3231, 0, 12, 1128, 0, 22), (77, .istore 5, 2, 0, 0, 0, 0, 0, 0), (79, .iload 5, 2, 0, 0, 0, 0, 0, 0), (81, .iload 4, 2, 0, 0, 0, 0, 0, 0), (83, .if_icmp .le 25, 3, 108, 0, 0, 0, 0, 0), (86, .aload_n 0, 1, 0, 0, 0, 0, 0, 0), (87, .getfield 86, 3, 1332, 1, 12, 1129, 0, 22), (90, .iload 5, 2, 0, 0, 0, 0, 0, 0), (92, .aload_n 0, 1, 0, 0, 0, 0, 0, 0), (93, .getfield 86, 3, 1332, 1, 12, 1129, 0, 22), (96, .iload 5, 2, 0, 0, 0, 0, 0, 0), (98, .iconst 1, 1, 0, 0, 0, 0, 0, 0), (99, .isub, 1, 0, 0, 0, 0, 0, 0), (100, .iaload, 1, 0, 0, 0, 0, 0, 0), (101, .iastore, 1, 0, 0, 0, 0, 0, 0), (102, .iinc 5 (-1), 3, 0, 0, 0, 0, 0, 0), (105, .goto (-26), 3, 79, 0, 0, 0, 0, 0), (108, .aload_n 0, 1, 0, 0, 0, 0, 0, 0), (109, .getfield 86, 3, 1332, 1, 12, 1129, 0, 22), (112, .iload 4, 2, 0, 0, 0, 0, 0, 0), (114, .iload_n 3, 1, 0, 0, 0, 0, 0, 0), (115, .iastore, 1, 0, 0, 0, 0, 0, 0), (116, .aload_n 0, 1, 0, 0, 0, 0, 0, 0), (117, .dup, 1, 0, 0, 0, 0, 0, 0), (118, .getfield 275, 3, 3231, 0, 12, 1128, 0, 22), (121, .iconst 1, 1, 0, 0, 0, 0, 0, 0), (122, .iadd, 1, 0, 0, 0, 0, 0, 0), (123, .putfield 275, 3, 3231, 0, 12, 1128, 0, 22), (126, .iinc 2 1, 3, 0, 0, 0, 0, 0, 0), (129, .goto (-122), 3, 7, 0, 0, 0, 0, 0), (132, .return_, 1, 0, 0, 0, 0, 0, 0)]
set_option maxRecDepth 100000 in
theorem jk_X12_signsOf : ji_X12_signsOf.all (jck 242) = true := by decide +kernel
def ji_X12_beginning : List JI := [(0, .iconst 0, 1, 0, 0, 0, 0, 0, 0), (1, .istore 4, 2, 0, 0, 0, 0, 0, 0), (3, .iconst 0, 1, 0, 0, 0, 0, 0, 0), (4, .istore 5, 2, 0, 0, 0, 0, 0, 0), (6, .iload 5, 2, 0, 0, 0, 0, 0, 0), (8, .iload_n 2, 1, 0, 0, 0, 0, 0, 0), (9, .iadd, 1, 0, 0, 0, 0, 0, 0), (10, .aload_n 0, 1, 0, 0, 0, 0, 0, 0), (11, .getfield 7, 3, 1301, 1, 12, 1098, 0, 22), (14, .iload_n 1, 1, 0, 0, 0, 0, 0, 0), (15, .iaload, 1, 0, 0, 0, 0, 0, 0), (16, .if_icmp .gt 90, 3, 106, 0, 0, 0, 0, 0), (19, .aload_n 0, 1, 0, 0, 0, 0, 0, 0), (20, .iload_n 1, 1, 0, 0, 0, 0, 0, 0), (21, .iload 5, 2, 0, 0, 0, 0, 0, 0), (23, .iconst 1, 1, 0, 0, 0, 0, 0, 0), (24, .invokevirtual 268, 3, 236, 4, 0, 1536, 0, 22), (27, .iload_n 2, 1, 0, 0, 0, 0, 0, 0), (28, .if_icmp .ge 7, 3, 35, 0, 0, 0, 0, 0), (31, .iconst 1, 1, 0, 0, 0, 0, 0, 0), (32, .goto 4, 3, 36, 0, 0, 0, 0, 0), (35, .iconst 0, 1, 0, 0, 0, 0, 0, 0), (36, .istore 6, 2, 0, 0, 0, 0, 0, 0), (38, .iconst 0, 1, 0, 0, 0, 0, 0, 0), (39, .istore 7, 2, 0, 0, 0, 0, 0, 0), (41, .iload 7, 2, 0, 0, 0, 0, 0, 0), (43, .iload_n 3, 1, 0, 0, 0, 0, 0, 0), (44, .if_icmp .ge 41, 3, 85, 0, 0, 0, 0, 0), (47, .iload 6, 2, 0, 0, 0, 0, 0, 0), (49, .ifCond .eq 36, 3, 85, 0, 0, 0, 0, 0), (52, .aload_n 0, 1, 0, 0, 0, 0, 0, 0), (53, .iload_n 1, 1, 0, 0, 0, 0, 0, 0), (54, .iload 5, 2, 0, 0, 0, 0, 0, 0), (56, .iload 7, 2, 0, 0, 0, 0, 0, 0), (58, .iadd, 1, 0, 0, 0, 0, 0, 0), (59, .invokevirtual 149, 3, 174, 3, 0, 1267, 0, 22), (62, .aload_n 0, 1, 0, 0, 0, 0, 0, 0), (63, .getfield 89, 3, 1333, 1, 12, 1130, 0, 22), (66, .iload 7, 2, 0, 0, 0, 0, 0, 0), (68, .iaload, 1, 0, 0, 0, 0, 0, 0), (69, .if_icmp .ne 7, 3, 76, 0, 0, 0, 0, 0), (72, .iconst 1, 1, 0, 0, 0, 0, 0, 0), (73, .goto 4, 3, 77, 0, 0, 0, 0, 0), (76, .iconst 0, 1, 0, 0, 0, 0, 0, 0), (77, .istore 6, 2, 0, 0, 0, 0, 0, 0), (79, .iinc 7 1, 3, 0, 0, 0, 0, 0, 0), (82, .goto (-41), 3, 41, 0, 0, 0, 0, 0), (85, .iload 4, 2, 0, 0, 0, 0, 0, 0), (87, .iload 6, 2, 0, 0, 0, 0, 0, 0), (89, .ifCond .eq 7, 3, 96, 0, 0, 0, 0, 0), (92, .iconst 1, 1, 0, 0, 0, 0, 0, 0), (93, .goto 4, 3, 97, 0, 0, 0, 0, 0), (96, .iconst 0, 1, 0, 0, 0, 0, 0, 0), (97, .iadd, 1, 0, 0, 0, 0, 0, 0), (98, .istore 4, 2, 0, 0, 0, 0, 0, 0), (100, .iinc 5 1, 3, 0, 0, 0, 0, 0, 0), (103, .goto (-97), 3, 6, 0, 0, 0, 0, 0), (106, .iload 4, 2, 0, 0, 0, 0, 0, 0), (108, .ireturn, 1, 0, 0, 0, 0, 0, 0)]
set_option maxRecDepth 100000 in
theorem jk_X12_beginning : ji_X12_beginning.all (jck 243) = true := by decide +kernel
def ji_X12_power : List JI := [(0, .iconst 1, 1, 0, 0, 0, 0, 0, 0), (1, .istore_n 2, 1, 0, 0, 0, 0, 0, 0), (2, .iconst 0, 1, 0, 0, 0, 0, 0, 0), (3, .istore_n 3, 1, 0, 0, 0, 0, 0, 0), (4, .iload_n 3, 1, 0, 0, 0, 0, 0, 0), (5, .iload_n 1, 1, 0, 0, 0, 0, 0, 0), (6, .if_icmp .ge 23, 3, 29, 0, 0, 0, 0, 0), (9, .iload_n 2, 1, 0, 0, 0, 0, 0, 0), (10, .sipush 1000, 3, 0, 0, 0, 0, 0, 0), (13, .if_icmp .ge 16, 3, 29, 0, 0, 0, 0, 0), (16, .iload_n 2, 1, 0, 0, 0, 0, 0, 0), (17, .aload_n 0, 1, 0, 0, 0, 0, 0, 0), (18, .getfield 275, 3, 3231, 0, 12, 1128, 0, 22), (21, .imul, 1, 0, 0, 0, 0, 0, 0), (22, .istore_n 2, 1, 0, 0, 0, 0, 0, 0), (23, .iinc 3 1, 3, 0, 0, 0, 0, 0, 0), (26, .goto (-22), 3, 4, 0, 0, 0, 0, 0), (29, .iload_n 2, 1, 0, 0, 0, 0, 0, 0), (30, .sipush 1000, 3, 0, 0, 0, 0, 0, 0), (33, .if_icmp .le 9, 3, 42, 0, 0, 0, 0, 0), (36, .sipush 1000, 3, 0, 0, 0, 0, 0, 0), (39, .goto 4, 3, 43, 0, 0, 0, 0, 0), (42, .iload_n 2, 1, 0, 0, 0, 0, 0, 0), (43, .ireturn, 1, 0, 0, 0, 0, 0, 0)]
set_option maxRecDepth 100000 in
theorem jk_X12_power : ji_X12_power.all (jck 244) = true := by decide +kernel
def ji_X12_absent : List JI := [(0, .aload_n 0, 1, 0, 0, 0, 0, 0, 0), (1, .iload_n 1, 1, 0, 0, 0, 0, 0, 0), (2, .invokevirtual 142, 3, 171, 2, 0, 1275, 0, 22), (5, .ifCond .ne 6, 3, 11, 0, 0, 0, 0, 0), (8, .bipush (-2), 2, 0, 0, 0, 0, 0, 0), (10, .ireturn, 1, 0, 0, 0, 0, 0, 0), (11, .aload_n 0, 1, 0, 0, 0, 0, 0, 0), (12, .getfield 135, 3, 3200, 0, 12, 1097, 0, 22), (15, .bipush 40, 2, 0, 0, 0, 0, 0, 0), (17, .if_icmp .ne 6, 3, 23, 0, 0, 0, 0, 0), (20, .bipush (-3), 2, 0, 0, 0, 0, 0, 0), (22, .ireturn, 1, 0, 0, 0, 0, 0, 0), (23, .aload_n 0, 1, 0, 0, 0, 0, 0, 0), (24, .getfield 7, 3, 1301, 1, 12, 1098, 0, 22), (27, .iload_n 1, 1, 0, 0, 0, 0, 0, 0), (28, .iaload, 1, 0, 0, 0, 0, 0, 0), (29, .ifCond .ne 6, 3, 35, 0, 0, 0, 0, 0), (32, .bipush (-4), 2, 0, 0, 0, 0, 0, 0), (34, .ireturn, 1, 0, 0, 0, 0, 0, 0), (35, .aload_n 0, 1, 0, 0, 0, 0, 0, 0), (36, .iload_n 1, 1, 0, 0, 0, 0, 0, 0), (37, .iload_n 1, 1, 0, 0, 0, 0, 0, 0), (38, .invokevirtual 197, 3, 196, 3, 3, 1377, 0, 22), (41, .aload_n 0, 1, 0, 0, 0, 0, 0, 0), (42, .iload_n 1, 1, 0, 0, 0, 0, 0, 0), (43, .invokevirtual 278, 3, 242, 2, 3, 1560, 0, 22), (46, .iconst 1, 1, 0, 0, 0, 0, 0, 0), (47, .istore_n 2, 1, 0, 0, 0, 0, 0, 0), (48, .aload_n 0, 1, 0, 0, 0, 0, 0, 0), (49, .iload_n 1, 1, 0, 0, 0, 0, 0, 0), (50, .iload_n 2, 1, 0, 0, 0, 0, 0, 0), (51, .iconst 0, 1, 0, 0, 0, 0, 0, 0), (52, .invokevirtual 281, 3, 243, 4, 0, 1564, 0, 22), (55, .aload_n 0, 1, 0, 0, 0, 0, 0, 0), (56, .iload_n 2, 1, 0, 0, 0, 0, 0, 0), (57, .invokevirtual 285, 3, 244, 2, 0, 1568, 0, 22), (60, .if_icmp .lt 9, 3, 69, 0, 0, 0, 0, 0), (63, .iinc 2 1, 3, 0, 0, 0, 0, 0, 0), (66, .goto (-18), 3, 48, 0, 0, 0, 0, 0), (69, .iload_n 2, 1, 0, 0, 0, 0, 0, 0), (70, .sipush 240, 3, 0, 0, 0, 0, 0, 0), (73, .if_icmp .le 6, 3, 79, 0, 0, 0, 0, 0), (76, .bipush (-3), 2, 0, 0, 0, 0, 0, 0), (78, .ireturn, 1, 0, 0, 0, 0, 0, 0), (79, .iconst 0, 1, 0, 0, 0, 0, 0, 0), (80, .istore_n 3, 1, 0, 0, 0, 0, 0, 0), (81, .iload_n 3, 1, 0, 0, 0, 0, 0, 0), (82, .iload_n 2, 1, 0, 0, 0, 0, 0, 0), (83, .if_icmp .ge 64, 3, 147, 0, 0, 0, 0, 0), (86, .iconst 0, 1, 0, 0, 0, 0, 0, 0), (87, .istore 4, 2, 0, 0, 0, 0, 0, 0), (89, .aload_n 0, 1, 0, 0, 0, 0, 0, 0), (90, .getfield 89, 3, 1333, 1, 12, 1130, 0, 22), (93, .iload_n 3, 1, 0, 0, 0, 0, 0, 0), (94, .aload_n 0, 1, 0, 0, 0, 0, 0, 0), (95, .getfield 86, 3, 1332, 1, 12, 1129, 0, 22), (98, .iconst 0, 1, 0, 0, 0, 0, 0, 0), (99, .iaload, 1, 0, 0, 0, 0, 0, 0), (100, .iastore, 1, 0, 0, 0, 0, 0, 0), (101, .aload_n 0, 1, 0, 0, 0, 0, 0, 0), (102, .iload_n 1, 1, 0, 0, 0, 0, 0, 0), (103, .iload_n 2, 1, 0, 0, 0, 0, 0, 0), (104, .iload_n 3, 1, 0, 0, 0, 0, 0, 0), (105, .iconst 1, 1, 0, 0, 0, 0, 0, 0), (106, .iadd, 1, 0, 0, 0, 0, 0, 0), (107, .invokevirtual 281, 3, 243, 4, 0, 1564, 0, 22), (110, .aload_n 0, 1, 0, 0, 0, 0, 0, 0), (111, .iload_n 2, 1, 0, 0, 0, 0, 0, 0), (112, .iload_n 3, 1, 0, 0, 0, 0, 0, 0), (113, .isub, 1, 0, 0, 0, 0, 0, 0), (114, .iconst 1, 1, 0, 0, 0, 0, 0, 0), (115, .isub, 1, 0, 0, 0, 0, 0, 0), (116, .invokevirtual 285, 3, 244, 2, 0, 1568, 0, 22), (119, .if_icmp .lt 22, 3, 141, 0, 0, 0, 0, 0), (122, .iinc 4 1, 3, 0, 0, 0, 0, 0, 0), (125, .aload_n 0, 1, 0, 0, 0, 0, 0, 0), (126, .getfield 89, 3, 1333, 1, 12, 1130, 0, 22), (129, .iload_n 3, 1, 0, 0, 0, 0, 0, 0), (130, .aload_n 0, 1, 0, 0, 0, 0, 0, 0), (131, .getfield 86, 3, 1332, 1, 12, 1129, 0, 22), (134, .iload 4, 2, 0, 0, 0, 0, 0, 0), (136, .iaload, 1, 0, 0, 0, 0, 0, 0), (137, .iastore, 1, 0, 0, 0, 0, 0, 0), (138, .goto (-37), 3, 101, 0, 0, 0, 0, 0), (141, .iinc 3 1, 3, 0, 0, 0, 0, 0, 0), (144, .goto (-63), 3, 81, 0, 0, 0, 0, 0), (147, .aload_n 0, 1, 0, 0, 0, 0, 0, 0), (148, .invokevirtual 157, 3, 176, 1, 0, 1259, 0, 22), (151, .istore_n 3, 1, 0, 0, 0, 0, 0, 0), (152, .iconst 0, 1, 0, 0, 0, 0, 0, 0), (153, .istore 4, 2, 0, 0, 0, 0, 0, 0), (155, .iload 4, 2, 0, 0, 0, 0, 0, 0), (157, .iload_n 2, 1, 0, 0, 0, 0, 0, 0), (158, .if_icmp .ge 21, 3, 179, 0, 0, 0, 0, 0), (161, .aload_n 0, 1, 0, 0, 0, 0, 0, 0), (162, .iload_n 3, 1, 0, 0, 0, 0, 0, 0), (163, .aload_n 0, 1, 0, 0, 0, 0, 0, 0), (164, .getfield 89, 3, 1333, 1, 12, 1130, 0, 22), (167, .iload 4, 2, 0, 0, 0, 0, 0, 0), (169, .iaload, 1, 0, 0, 0, 0, 0, 0), (170, .invokevirtual 165, 3, 177, 3, 3, 1284, 0, 22), (173, .iinc 4 1, 3, 0, 0, 0, 0, 0, 0), (176, .goto (-21), 3, 155, 0, 0, 0, 0, 0), (179, .iload_n 3, 1, 0, 0, 0, 0, 0, 0), (180, .ireturn, 1, 0, 0, 0, 0, 0, 0)]
set_option maxRecDepth 100000 in
theorem jk_X12_absent : ji_X12_absent.all (jck 245) = true := by decide +kernel
def ji_X12_lesser : List JI := [(0, .iload_n 0, 1, 0, 0, 0, 0, 0, 0), (1, .iload_n 1, 1, 0, 0, 0, 0, 0, 0), (2, .if_icmp .ge 7, 3, 9, 0, 0, 0, 0, 0), (5, .iload_n 0, 1, 0, 0, 0, 0, 0, 0), (6, .goto 4, 3, 10, 0, 0, 0, 0, 0), (9, .iload_n 1, 1, 0, 0, 0, 0, 0, 0), (10, .ireturn, 1, 0, 0, 0, 0, 0, 0)]
set_option maxRecDepth 100000 in
theorem jk_X12_lesser : ji_X12_lesser.all (jck 246) = true := by decide +kernel
def ji_X12_distance : List JI := [(0, .aload_n 0, 1, 0, 0, 0, 0, 0, 0), (1, .iload_n 1, 1, 0, 0, 0, 0, 0, 0), (2, .invokevirtual 142, 3, 171, 2, 0, 1275, 0, 22), (5, .ifCond .eq 11, 3, 16, 0, 0, 0, 0, 0), (8, .aload_n 0, 1, 0, 0, 0, 0, 0, 0), (9, .iload_n 2, 1, 0, 0, 0, 0, 0, 0), (10, .invokevirtual 142, 3, 171, 2, 0, 1275, 0, 22), (13, .ifCond .ne 6, 3, 19, 0, 0, 0, 0, 0), (16, .bipush (-2), 2, 0, 0, 0, 0, 0, 0), (18, .ireturn, 1, 0, 0, 0, 0, 0, 0), (19, .aload_n 0, 1, 0, 0, 0, 0, 0, 0), (20, .getfield 7, 3, 1301, 1, 12, 1098, 0, 22), (23, .iload_n 1, 1, 0, 0, 0, 0, 0, 0), (24, .iaload, 1, 0, 0, 0, 0, 0, 0), (25, .istore_n 3, 1, 0, 0, 0, 0, 0, 0), (26, .aload_n 0, 1, 0, 0, 0, 0, 0, 0), (27, .getfield 7, 3, 1301, 1, 12, 1098, 0, 22), (30, .iload_n 2, 1, 0, 0, 0, 0, 0, 0), (31, .iaload, 1, 0, 0, 0, 0, 0, 0), (32, .istore 4, 2, 0, 0, 0, 0, 0, 0), (34, .iload_n 3, 1, 0, 0, 0, 0, 0, 0), (35, .istore 5, 2, 0, 0, 0, 0, 0, 0), (37, .iload 5, 2, 0, 0, 0, 0, 0, 0), (39, .ifCond .lt 149, 3, 188, 0, 0, 0, 0, 0), (42, .iload 4, 2, 0, 0, 0, 0, 0, 0), (44, .istore 6, 2, 0, 0, 0, 0, 0, 0), (46, .iload 6, 2, 0, 0, 0, 0, 0, 0), (48, .ifCond .lt 134, 3, 182, 0, 0, 0, 0, 0), (51, .sipush 241, 3, 0, 0, 0, 0, 0, 0), (54, .iload 5, 2, 0, 0, 0, 0, 0, 0), (56, .imul, 1, 0, 0, 0, 0, 0, 0), (57, .iload 6, 2, 0, 0, 0, 0, 0, 0), (59, .iadd, 1, 0, 0, 0, 0, 0, 0), (60, .istore 7, 2, 0, 0, 0, 0, 0, 0), (62, .iload 5, 2, 0, 0, 0, 0, 0, 0), (64, .iload_n 3, 1, 0, 0, 0, 0, 0, 0), (65, .if_icmp .eq 10, 3, 75, 0, 0, 0, 0, 0), (68, .iload 6, 2, 0, 0, 0, 0, 0, 0), (70, .iload 4, 2, 0, 0, 0, 0, 0, 0), (72, .if_icmp .ne 23, 3, 95, 0, 0, 0, 0, 0), (75, .aload_n 0, 1, 0, 0, 0, 0, 0, 0), (76, .getfield 92, 3, 1334, 1, 12, 1131, 0, 22), (79, .iload 7, 2, 0, 0, 0, 0, 0, 0), (81, .iload_n 3, 1, 0, 0, 0, 0, 0, 0), (82, .iload 5, 2, 0, 0, 0, 0, 0, 0), (84, .isub, 1, 0, 0, 0, 0, 0, 0), (85, .iload 4, 2, 0, 0, 0, 0, 0, 0), (87, .iadd, 1, 0, 0, 0, 0, 0, 0), (88, .iload 6, 2, 0, 0, 0, 0, 0, 0), (90, .isub, 1, 0, 0, 0, 0, 0, 0), (91, .iastore, 1, 0, 0, 0, 0, 0, 0), (92, .goto 84, 3, 176, 0, 0, 0, 0, 0), (95, .aload_n 0, 1, 0, 0, 0, 0, 0, 0), (96, .getfield 92, 3, 1334, 1, 12, 1131, 0, 22), (99, .iload 7, 2, 0, 0, 0, 0, 0, 0), (101, .aload_n 0, 1, 0, 0, 0, 0, 0, 0), (102, .iload_n 1, 1, 0, 0, 0, 0, 0, 0), (103, .iload 5, 2, 0, 0, 0, 0, 0, 0), (105, .invokevirtual 149, 3, 174, 3, 0, 1267, 0, 22), (108, .aload_n 0, 1, 0, 0, 0, 0, 0, 0), (109, .iload_n 2, 1, 0, 0, 0, 0, 0, 0), (110, .iload 6, 2, 0, 0, 0, 0, 0, 0), (112, .invokevirtual 149, 3, 174, 3, 0, 1267, 0, 22), (115, .if_icmp .ne 19, 3, 134, 0, 0, 0, 0, 0), (118, .aload_n 0, 1, 0, 0, 0, 0, 0, 0), (119, .getfield 92, 3, 1334, 1, 12, 1131, 0, 22), (122, .iload 7, 2, 0, 0, 0, 0, 0, 0), (124, .sipush 241, 3, 0, 0, 0, 0, 0, 0), (127, .iadd, 1, 0, 0, 0, 0, 0, 0), (128, .iconst 1, 1, 0, 0, 0, 0, 0, 0), (129, .iadd, 1, 0, 0, 0, 0, 0, 0), (130, .iaload, 1, 0, 0, 0, 0, 0, 0), (131, .goto 44, 3, 175, 0, 0, 0, 0, 0), (134, .iconst 1, 1, 0, 0, 0, 0, 0, 0), (135, .aload_n 0, 1, 0, 0, 0, 0, 0, 0), (136, .getfield 92, 3, 1334, 1, 12, 1131, 0, 22), (139, .iload 7, 2, 0, 0, 0, 0, 0, 0), (141, .sipush 241, 3, 0, 0, 0, 0, 0, 0), (144, .iadd, 1, 0, 0, 0, 0, 0, 0), (145, .iconst 1, 1, 0, 0, 0, 0, 0, 0), (146, .iadd, 1, 0, 0, 0, 0, 0, 0), (147, .iaload, 1, 0, 0, 0, 0, 0, 0), (148, .aload_n 0, 1, 0, 0, 0, 0, 0, 0), (149, .getfield 92, 3, 1334, 1, 12, 1131, 0, 22), (152, .iload 7, 2, 0, 0, 0, 0, 0, 0), (154, .sipush 241, 3, 0, 0, 0, 0, 0, 0), (157, .iadd, 1, 0, 0, 0, 0, 0, 0), (158, .iaload, 1, 0, 0, 0, 0, 0, 0), (159, .aload_n 0, 1, 0, 0, 0, 0, 0, 0), (160, .getfield 92, 3, 1334, 1, 12, 1131, 0, 22), (163, .iload 7, 2, 0, 0, 0, 0, 0, 0), (165, .iconst 1, 1, 0, 0, 0, 0, 0, 0), (166, .iadd, 1, 0, 0, 0, 0, 0, 0), (167, .iaload, 1, 0, 0, 0, 0, 0, 0), (168, .invokestatic 289, 3, 246, 2, 0, 1576, 0, 0), (171, .invokestatic 289, 3, 246, 2, 0, 1576, 0, 0), (174, .iadd, 1, 0, 0, 0, 0, 0, 0), (175, .iastore, 1, 0, 0, 0, 0, 0, 0), (176, .iinc 6 (-1), 3, 0, 0, 0, 0, 0, 0), (179, .goto (-133), 3, 46, 0, 0, 0, 0, 0), (182, .iinc 5 (-1), 3, 0, 0, 0, 0, 0, 0), (185, .goto (-148), 3, 37, 0, 0, 0, 0, 0), (188, .aload_n 0, 1, 0, 0, 0, 0, 0, 0), (189, .iconst 0, 1, 0, 0, 0, 0, 0, 0), (190, .putfield 292, 3, 3235, 0, 12, 1132, 0, 22), (193, .iconst 0, 1, 0, 0, 0, 0, 0, 0), (194, .istore 5, 2, 0, 0, 0, 0, 0, 0), (196, .iconst 0, 1, 0, 0, 0, 0, 0, 0), (197, .istore 6, 2, 0, 0, 0, 0, 0, 0), (199, .iload 5, 2, 0, 0, 0, 0, 0, 0), (201, .iload_n 3, 1, 0, 0, 0, 0, 0, 0), (202, .if_icmp .lt 10, 3, 212, 0, 0, 0, 0, 0), (205, .iload 6, 2, 0, 0, 0, 0, 0, 0), (207, .iload 4, 2, 0, 0, 0, 0, 0, 0), (209, .if_icmp .ge 227, 3, 436, 0, 0, 0, 0, 0), (212, .sipush 241, 3, 0, 0, 0, 0, 0, 0), (215, .iload 5, 2, 0, 0, 0, 0, 0, 0), (217, .imul, 1, 0, 0, 0, 0, 0, 0), (218, .iload 6, 2, 0, 0, 0, 0, 0, 0), (220, .iadd, 1, 0, 0, 0, 0, 0, 0), (221, .istore 7, 2, 0, 0, 0, 0, 0, 0), (223, .iload 5, 2, 0, 0, 0, 0, 0, 0), (225, .iload_n 3, 1, 0, 0, 0, 0, 0, 0), (226, .if_icmp .ge 14, 3, 240, 0, 0, 0, 0, 0), (229, .iload 6, 2, 0, 0, 0, 0, 0, 0), (231, .iload 4, 2, 0, 0, 0, 0, 0, 0), (233, .if_icmp .ge 7, 3, 240, 0, 0, 0, 0, 0), (236, .iconst 1, 1, 0, 0, 0, 0, 0, 0), (237, .goto 4, 3, 241, 0, 0, 0, 0, 0), (240, .iconst 0, 1, 0, 0, 0, 0, 0, 0), (241, .istore 8, 2, 0, 0, 0, 0, 0, 0), (243, .iload 8, 2, 0, 0, 0, 0, 0, 0), (245, .ifCond .eq 29, 3, 274, 0, 0, 0, 0, 0), (248, .aload_n 0, 1, 0, 0, 0, 0, 0, 0), (249, .iload_n 1, 1, 0, 0, 0, 0, 0, 0), (250, .iload 5, 2, 0, 0, 0, 0, 0, 0), (252, .invokevirtual 149, 3, 174, 3, 0, 1267, 0, 22), (255, .aload_n 0, 1, 0, 0, 0, 0, 0, 0), (256, .iload_n 2, 1, 0, 0, 0, 0, 0, 0), (257, .iload 6, 2, 0, 0, 0, 0, 0, 0), (259, .invokevirtual 149, 3, 174, 3, 0, 1267, 0, 22), (262, .if_icmp .ne 12, 3, 274, 0, 0, 0, 0, 0), (265, .iinc 5 1, 3, 0, 0, 0, 0, 0, 0), (268, .iinc 6 1, 3, 0, 0, 0, 0, 0, 0), (271, .goto (-72), 3, 199, 0, 0, 0, 0, 0), (274, .iload 8, 2, 0, 0, 0, 0, 0, 0), (276, .ifCond .eq 32, 3, 308, 0, 0, 0, 0, 0), (279, .aload_n 0, 1, 0, 0, 0, 0, 0, 0), (280, .getfield 92, 3, 1334, 1, 12, 1131, 0, 22), (283, .iload 7, 2, 0, 0, 0, 0, 0, 0), (285, .sipush 241, 3, 0, 0, 0, 0, 0, 0), (288, .iadd, 1, 0, 0, 0, 0, 0, 0), (289, .iconst 1, 1, 0, 0, 0, 0, 0, 0), (290, .iadd, 1, 0, 0, 0, 0, 0, 0), (291, .iaload, 1, 0, 0, 0, 0, 0, 0), (292, .aload_n 0, 1, 0, 0, 0, 0, 0, 0), (293, .getfield 92, 3, 1334, 1, 12, 1131, 0, 22), (296, .iload 7, 2, 0, 0, 0, 0, 0, 0), (298, .iaload, 1, 0, 0, 0, 0, 0, 0), (299, .iconst 1, 1, 0, 0, 0, 0, 0, 0), (300, .isub, 1, 0, 0, 0, 0, 0, 0), (301, .if_icmp .ne 7, 3, 308, 0, 0, 0, 0, 0), (304, .iconst 2, 1, 0, 0, 0, 0, 0, 0), (305, .goto 37, 3, 342, 0, 0, 0, 0, 0), (308, .iload 5, 2, 0, 0, 0, 0, 0, 0), (310, .iload_n 3, 1, 0, 0, 0, 0, 0, 0), (311, .if_icmp .ge 30, 3, 341, 0, 0, 0, 0, 0), (314, .aload_n 0, 1, 0, 0, 0, 0, 0, 0), (315, .getfield 92, 3, 1334, 1, 12, 1131, 0, 22), (318, .iload 7, 2, 0, 0, 0, 0, 0, 0), (320, .sipush 241, 3, 0, 0, 0, 0, 0, 0), (323, .iadd, 1, 0, 0, 0, 0, 0, 0), (324, .iaload, 1, 0, 0, 0, 0, 0, 0), (325, .aload_n 0, 1, 0, 0, 0, 0, 0, 0), (326, .getfield 92, 3, 1334, 1, 12, 1131, 0, 22), (329, .iload 7, 2, 0, 0, 0, 0, 0, 0), (331, .iaload, 1, 0, 0, 0, 0, 0, 0), (332, .iconst 1, 1, 0, 0, 0, 0, 0, 0), (333, .isub, 1, 0, 0, 0, 0, 0, 0), (334, .if_icmp .ne 7, 3, 341, 0, 0, 0, 0, 0), (337, .iconst 1, 1, 0, 0, 0, 0, 0, 0), (338, .goto 4, 3, 342, 0, 0, 0, 0, 0), (341, .iconst 0, 1, 0, 0, 0, 0, 0, 0), (342, .istore 9, 2, 0, 0, 0, 0, 0, 0), (344, .aload_n 0, 1, 0, 0, 0, 0, 0, 0), (345, .getfield 95, 3, 1336, 1, 12, 1133, 0, 22), (348, .aload_n 0, 1, 0, 0, 0, 0, 0, 0), (349, .getfield 292, 3, 3235, 0, 12, 1132, 0, 22), (352, .iload 9, 2, 0, 0, 0, 0, 0, 0), (354, .iastore, 1, 0, 0, 0, 0, 0, 0), (355, .aload_n 0, 1, 0, 0, 0, 0, 0, 0), (356, .getfield 98, 3, 1337, 1, 12, 1134, 0, 22), (359, .aload_n 0, 1, 0, 0, 0, 0, 0, 0), (360, .getfield 292, 3, 3235, 0, 12, 1132, 0, 22), (363, .iload 5, 2, 0, 0, 0, 0, 0, 0), (365, .iastore, 1, 0, 0, 0, 0, 0, 0), (366, .aload_n 0, 1, 0, 0, 0, 0, 0, 0), (367, .getfield 101, 3, 1338, 1, 12, 1135, 0, 22), (370, .aload_n 0, 1, 0, 0, 0, 0, 0, 0), (371, .getfield 292, 3, 3235, 0, 12, 1132, 0, 22), (374, .iload 9, 2, 0, 0, 0, 0, 0, 0), (376, .iconst 1, 1, 0, 0, 0, 0, 0, 0), (377, .if_icmp .ne 7, 3, 384, 0, 0, 0, 0, 0), (380, .iconst (-1), 1, 0, 0, 0, 0, 0, 0), (381, .goto 10, 3, 391, 0, 0, 0, 0, 0), (384, .aload_n 0, 1, 0, 0, 0, 0, 0, 0), (385, .iload_n 2, 1, 0, 0, 0, 0, 0, 0), (386, .iload 6, 2, 0, 0, 0, 0, 0, 0), (388, .invokevirtual 149, 3, 174, 3, 0, 1267, 0, 22), (391, .iastore, 1, 0, 0, 0, 0, 0, 0), (392, .aload_n 0, 1, 0, 0, 0, 0, 0, 0), (393, .dup, 1, 0, 0, 0, 0, 0, 0), (394, .getfield 292, 3, 3235, 0, 12, 1132, 0, 22), (397, .iconst 1, 1, 0, 0, 0, 0, 0, 0), (398, .iadd, 1, 0, 0, 0, 0, 0, 0), (399, .putfield 292, 3, 3235, 0, 12, 1132, 0, 22), (402, .iload 5, 2, 0, 0, 0, 0, 0, 0), (404, .iload 9, 2, 0, 0, 0, 0, 0, 0), (406, .ifCond .le 7, 3, 413, 0, 0, 0, 0, 0), (409, .iconst 1, 1, 0, 0, 0, 0, 0, 0), (410, .goto 4, 3, 414, 0, 0, 0, 0, 0), (413, .iconst 0, 1, 0, 0, 0, 0, 0, 0), (414, .iadd, 1, 0, 0, 0, 0, 0, 0), (415, .istore 5, 2, 0, 0, 0, 0, 0, 0), (417, .iload 6, 2, 0, 0, 0, 0, 0, 0), (419, .iload 9, 2, 0, 0, 0, 0, 0, 0), (421, .iconst 1, 1, 0, 0, 0, 0, 0, 0), (422, .if_icmp .ne 7, 3, 429, 0, 0, 0, 0, 0), (425, .iconst 0, 1, 0, 0, 0, 0, 0, 0), (426, .goto 4, 3, 430, 0, 0, 0, 0, 0), (429, .iconst 1, 1, 0, 0, 0, 0, 0, 0), (430, .iadd, 1, 0, 0, 0, 0, 0, 0), (431, .istore 6, 2, 0, 0, 0, 0, 0, 0), (433, .goto (-234), 3, 199, 0, 0, 0, 0, 0), (436, .aload_n 0, 1, 0, 0, 0, 0, 0, 0), (437, .getfield 92, 3, 1334, 1, 12, 1131, 0, 22), (440, .iconst 0, 1, 0, 0, 0, 0, 0, 0), (441, .iaload, 1, 0, 0, 0, 0, 0, 0), (442, .ireturn, 1, 0, 0, 0, 0, 0, 0)]
set_option maxRecDepth 100000 in
theorem jk_X12_distance : ji_X12_distance.all (jck 247) = true := by decide +kernel
def ji_X12_script : List JI := [(0, .iload_n 2, 1, 0, 0, 0, 0, 0, 0), (1, .i2l, 1, 0, 0, 0, 0, 0, 0), (2, .lconst 0, 1, 0, 0, 0, 0, 0, 0), (3, .ldc2_w 234, 3, 0, 0, 0, 1459, 0, 2), (6, .invokestatic 138, 3, 170, 3, 0, 1279, 0, 0), (9, .ifCond .ne 6, 3, 15, 0, 0, 0, 0, 0), (12, .bipush (-2), 2, 0, 0, 0, 0, 0, 0), (14, .ireturn, 1, 0, 0, 0, 0, 0, 0), (15, .iload_n 1, 1, 0, 0, 0, 0, 0, 0), (16, .i2l, 1, 0, 0, 0, 0, 0, 0), (17, .lconst 0, 1, 0, 0, 0, 0, 0, 0), (18, .aload_n 0, 1, 0, 0, 0, 0, 0, 0), (19, .getfield 292, 3, 3235, 0, 12, 1132, 0, 22), (22, .iconst 1, 1, 0, 0, 0, 0, 0, 0), (23, .isub, 1, 0, 0, 0, 0, 0, 0), (24, .i2l, 1, 0, 0, 0, 0, 0, 0), (25, .invokestatic 138, 3, 170, 3, 0, 1279, 0, 0), (28, .ifCond .ne 7, 3, 35, 0, 0, 0, 0, 0), (31, .iconst (-1), 1, 0, 0, 0, 0, 0, 0), (32, .goto 36, 3, 68, 0, 0, 0, 0, 0), (35, .iload_n 2, 1, 0, 0, 0, 0, 0, 0), (36, .ifCond .ne 12, 3, 48, 0, 0, 0, 0, 0), (39, .aload_n 0, 1, 0, 0, 0, 0, 0, 0), (40, .getfield 95, 3, 1336, 1, 12, 1133, 0, 22), (43, .iload_n 1, 1, 0, 0, 0, 0, 0, 0), (44, .iaload, 1, 0, 0, 0, 0, 0, 0), (45, .goto 23, 3, 68, 0, 0, 0, 0, 0), (48, .iload_n 2, 1, 0, 0, 0, 0, 0, 0), (49, .iconst 1, 1, 0, 0, 0, 0, 0, 0), (50, .if_icmp .ne 12, 3, 62, 0, 0, 0, 0, 0), (53, .aload_n 0, 1, 0, 0, 0, 0, 0, 0), (54, .getfield 98, 3, 1337, 1, 12, 1134, 0, 22), (57, .iload_n 1, 1, 0, 0, 0, 0, 0, 0), (58, .iaload, 1, 0, 0, 0, 0, 0, 0), (59, .goto 9, 3, 68, 0, 0, 0, 0, 0), (62, .aload_n 0, 1, 0, 0, 0, 0, 0, 0), (63, .getfield 101, 3, 1338, 1, 12, 1135, 0, 22), (66, .iload_n 1, 1, 0, 0, 0, 0, 0, 0), (67, .iaload, 1, 0, 0, 0, 0, 0, 0), (68, .ireturn, 1, 0, 0, 0, 0, 0, 0)]
set_option maxRecDepth 100000 in
theorem jk_X12_script : ji_X12_script.all (jck 248) = true := by decide +kernel
def ji_X12_subsequence : List JI := [(0, .aload_n 0, 1, 0, 0, 0, 0, 0, 0), (1, .iload_n 1, 1, 0, 0, 0, 0, 0, 0), (2, .invokevirtual 142, 3, 171, 2, 0, 1275, 0, 22), (5, .ifCond .eq 11, 3, 16, 0, 0, 0, 0, 0), (8, .aload_n 0, 1, 0, 0, 0, 0, 0, 0), (9, .iload_n 2, 1, 0, 0, 0, 0, 0, 0), (10, .invokevirtual 142, 3, 171, 2, 0, 1275, 0, 22), (13, .ifCond .ne 6, 3, 19, 0, 0, 0, 0, 0), (16, .bipush (-2), 2, 0, 0, 0, 0, 0, 0), (18, .ireturn, 1, 0, 0, 0, 0, 0, 0), (19, .aload_n 0, 1, 0, 0, 0, 0, 0, 0), (20, .getfield 7, 3, 1301, 1, 12, 1098, 0, 22), (23, .iload_n 1, 1, 0, 0, 0, 0, 0, 0), (24, .iaload, 1, 0, 0, 0, 0, 0, 0), (25, .istore_n 3, 1, 0, 0, 0, 0, 0, 0), (26, .aload_n 0, 1, 0, 0, 0, 0, 0, 0), (27, .getfield 7, 3, 1301, 1, 12, 1098, 0, 22), (30, .iload_n 2, 1, 0, 0, 0, 0, 0, 0), (31, .iaload, 1, 0, 0, 0, 0, 0, 0), (32, .istore 4, 2, 0, 0, 0, 0, 0, 0), (34, .iload_n 3, 1, 0, 0, 0, 0, 0, 0), (35, .istore 5, 2, 0, 0, 0, 0, 0, 0), (37, .iload 5, 2, 0, 0, 0, 0, 0, 0), (39, .ifCond .lt 151, 3, 190, 0, 0, 0, 0, 0), (42, .iload 4, 2, 0, 0, 0, 0, 0, 0), (44, .istore 6, 2, 0, 0, 0, 0, 0, 0), (46, .iload 6, 2, 0, 0, 0, 0, 0, 0), (48, .ifCond .lt 136, 3, 184, 0, 0, 0, 0, 0), (51, .sipush 241, 3, 0, 0, 0, 0, 0, 0), (54, .iload 5, 2, 0, 0, 0, 0, 0, 0), (56, .imul, 1, 0, 0, 0, 0, 0, 0), (57, .iload 6, 2, 0, 0, 0, 0, 0, 0), (59, .iadd, 1, 0, 0, 0, 0, 0, 0), (60, .istore 7, 2, 0, 0, 0, 0, 0, 0), (62, .iload 5, 2, 0, 0, 0, 0, 0, 0), (64, .iload_n 3, 1, 0, 0, 0, 0, 0, 0), (65, .if_icmp .eq 10, 3, 75, 0, 0, 0, 0, 0), (68, .iload 6, 2, 0, 0, 0, 0, 0, 0), (70, .iload 4, 2, 0, 0, 0, 0, 0, 0), (72, .if_icmp .ne 14, 3, 86, 0, 0, 0, 0, 0), (75, .aload_n 0, 1, 0, 0, 0, 0, 0, 0), (76, .getfield 92, 3, 1334, 1, 12, 1131, 0, 22), (79, .iload 7, 2, 0, 0, 0, 0, 0, 0), (81, .iconst 0, 1, 0, 0, 0, 0, 0, 0), (82, .iastore, 1, 0, 0, 0, 0, 0, 0), (83, .goto 95, 3, 178, 0, 0, 0, 0, 0), (86, .aload_n 0, 1, 0, 0, 0, 0, 0, 0), (87, .getfield 92, 3, 1334, 1, 12, 1131, 0, 22), (90, .iload 7, 2, 0, 0, 0, 0, 0, 0), (92, .sipush 241, 3, 0, 0, 0, 0, 0, 0), (95, .iadd, 1, 0, 0, 0, 0, 0, 0), (96, .iaload, 1, 0, 0, 0, 0, 0, 0), (97, .aload_n 0, 1, 0, 0, 0, 0, 0, 0), (98, .getfield 92, 3, 1334, 1, 12, 1131, 0, 22), (101, .iload 7, 2, 0, 0, 0, 0, 0, 0), (103, .iconst 1, 1, 0, 0, 0, 0, 0, 0), (104, .iadd, 1, 0, 0, 0, 0, 0, 0), (105, .iaload, 1, 0, 0, 0, 0, 0, 0), (106, .if_icmp .le 17, 3, 123, 0, 0, 0, 0, 0), (109, .aload_n 0, 1, 0, 0, 0, 0, 0, 0), (110, .getfield 92, 3, 1334, 1, 12, 1131, 0, 22), (113, .iload 7, 2, 0, 0, 0, 0, 0, 0), (115, .sipush 241, 3, 0, 0, 0, 0, 0, 0), (118, .iadd, 1, 0, 0, 0, 0, 0, 0), (119, .iaload, 1, 0, 0, 0, 0, 0, 0), (120, .goto 12, 3, 132, 0, 0, 0, 0, 0), (123, .aload_n 0, 1, 0, 0, 0, 0, 0, 0), (124, .getfield 92, 3, 1334, 1, 12, 1131, 0, 22), (127, .iload 7, 2, 0, 0, 0, 0, 0, 0), (129, .iconst 1, 1, 0, 0, 0, 0, 0, 0), (130, .iadd, 1, 0, 0, 0, 0, 0, 0), (131, .iaload, 1, 0, 0, 0, 0, 0, 0), (132, .istore 8, 2, 0, 0, 0, 0, 0, 0), (134, .aload_n 0, 1, 0, 0, 0, 0, 0, 0), (135, .getfield 92, 3, 1334, 1, 12, 1131, 0, 22), (138, .iload 7, 2, 0, 0, 0, 0, 0, 0), (140, .aload_n 0, 1, 0, 0, 0, 0, 0, 0), (141, .iload_n 1, 1, 0, 0, 0, 0, 0, 0), (142, .iload 5, 2, 0, 0, 0, 0, 0, 0), (144, .invokevirtual 149, 3, 174, 3, 0, 1267, 0, 22), (147, .aload_n 0, 1, 0, 0, 0, 0, 0, 0), (148, .iload_n 2, 1, 0, 0, 0, 0, 0, 0), (149, .iload 6, 2, 0, 0, 0, 0, 0, 0), (151, .invokevirtual 149, 3, 174, 3, 0, 1267, 0, 22), (154, .if_icmp .ne 21, 3, 175, 0, 0, 0, 0, 0), (157, .iconst 1, 1, 0, 0, 0, 0, 0, 0), (158, .aload_n 0, 1, 0, 0, 0, 0, 0, 0), (159, .getfield 92, 3, 1334, 1, 12, 1131, 0, 22), (162, .iload 7, 2, 0, 0, 0, 0, 0, 0), (164, .sipush 241, 3, 0, 0, 0, 0, 0, 0), (167, .iadd, 1, 0, 0, 0, 0, 0, 0), (168, .iconst 1, 1, 0, 0, 0, 0, 0, 0), (169, .iadd, 1, 0, 0, 0, 0, 0, 0), (170, .iaload, 1, 0, 0, 0, 0, 0, 0), (171, .iadd, 1, 0, 0, 0, 0, 0, 0), (172, .goto 5, 3, 177, 0, 0, 0, 0, 0), (175, .iload 8, 2, 0, 0, 0, 0, 0, 0), (177, .iastore, 1, 0, 0, 0, 0, 0, 0), (178, .iinc 6 (-1), 3, 0, 0, 0, 0, 0, 0), (181, .goto (-135), 3, 46, 0, 0, 0, 0, 0), (184, .iinc 5 (-1), 3, 0, 0, 0, 0, 0, 0), (187, .goto (-150), 3, 37, 0, 0, 0, 0, 0), (190, .aload_n 0, 1, 0, 0, 0, 0, 0, 0), (191, .iconst 0, 1, 0, 0, 0, 0, 0, 0), (192, .putfield 295, 3, 3239, 0, 12, 1136, 0, 22), (195, .iconst 0, 1, 0, 0, 0, 0, 0, 0), (196, .istore 5, 2, 0, 0, 0, 0, 0, 0), (198, .iconst 0, 1, 0, 0, 0, 0, 0, 0), (199, .istore 6, 2, 0, 0, 0, 0, 0, 0), (201, .aload_n 0, 1, 0, 0, 0, 0, 0, 0), (202, .getfield 92, 3, 1334, 1, 12, 1131, 0, 22), (205, .sipush 241, 3, 0, 0, 0, 0, 0, 0), (208, .iload 5, 2, 0, 0, 0, 0, 0, 0), (210, .imul, 1, 0, 0, 0, 0, 0, 0), (211, .iload 6, 2, 0, 0, 0, 0, 0, 0), (213, .iadd, 1, 0, 0, 0, 0, 0, 0), (214, .iaload, 1, 0, 0, 0, 0, 0, 0), (215, .ifCond .le 129, 3, 344, 0, 0, 0, 0, 0), (218, .aload_n 0, 1, 0, 0, 0, 0, 0, 0), (219, .getfield 92, 3, 1334, 1, 12, 1131, 0, 22), (222, .sipush 241, 3, 0, 0, 0, 0, 0, 0), (225, .iload 5, 2, 0, 0, 0, 0, 0, 0), (227, .imul, 1, 0, 0, 0, 0, 0, 0), (228, .iload 6, 2, 0, 0, 0, 0, 0, 0), (230, .iadd, 1, 0, 0, 0, 0, 0, 0), (231, .iaload, 1, 0, 0, 0, 0, 0, 0), (232, .istore 7, 2, 0, 0, 0, 0, 0, 0), (234, .iload 6, 2, 0, 0, 0, 0, 0, 0), (236, .istore 8, 2, 0, 0, 0, 0, 0, 0), (238, .iload 8, 2, 0, 0, 0, 0, 0, 0), (240, .iload 4, 2, 0, 0, 0, 0, 0, 0), (242, .if_icmp .ge 51, 3, 293, 0, 0, 0, 0, 0), (245, .aload_n 0, 1, 0, 0, 0, 0, 0, 0), (246, .iload_n 1, 1, 0, 0, 0, 0, 0, 0), (247, .iload 5, 2, 0, 0, 0, 0, 0, 0), (249, .invokevirtual 149, 3, 174, 3, 0, 1267, 0, 22), (252, .aload_n 0, 1, 0, 0, 0, 0, 0, 0), (253, .iload_n 2, 1, 0, 0, 0, 0, 0, 0), (254, .iload 8, 2, 0, 0, 0, 0, 0, 0), (256, .invokevirtual 149, 3, 174, 3, 0, 1267, 0, 22), (259, .if_icmp .ne 28, 3, 287, 0, 0, 0, 0, 0), (262, .aload_n 0, 1, 0, 0, 0, 0, 0, 0), (263, .getfield 92, 3, 1334, 1, 12, 1131, 0, 22), (266, .sipush 241, 3, 0, 0, 0, 0, 0, 0), (269, .iload 5, 2, 0, 0, 0, 0, 0, 0), (271, .iconst 1, 1, 0, 0, 0, 0, 0, 0), (272, .iadd, 1, 0, 0, 0, 0, 0, 0), (273, .imul, 1, 0, 0, 0, 0, 0, 0), (274, .iload 8, 2, 0, 0, 0, 0, 0, 0), (276, .iadd, 1, 0, 0, 0, 0, 0, 0), (277, .iconst 1, 1, 0, 0, 0, 0, 0, 0), (278, .iadd, 1, 0, 0, 0, 0, 0, 0), (279, .iaload, 1, 0, 0, 0, 0, 0, 0), (280, .iload 7, 2, 0, 0, 0, 0, 0, 0), (282, .iconst 1, 1, 0, 0, 0, 0, 0, 0), (283, .isub, 1, 0, 0, 0, 0, 0, 0), (284, .if_icmp .eq 9, 3, 293, 0, 0, 0, 0, 0), (287, .iinc 8 1, 3, 0, 0, 0, 0, 0, 0), (290, .goto (-52), 3, 238, 0, 0, 0, 0, 0), (293, .iload 8, 2, 0, 0, 0, 0, 0, 0), (295, .iload 4, 2, 0, 0, 0, 0, 0, 0), (297, .if_icmp .ge 41, 3, 338, 0, 0, 0, 0, 0), (300, .aload_n 0, 1, 0, 0, 0, 0, 0, 0), (301, .getfield 104, 3, 1340, 1, 12, 1137, 0, 22), (304, .aload_n 0, 1, 0, 0, 0, 0, 0, 0), (305, .getfield 295, 3, 3239, 0, 12, 1136, 0, 22), (308, .iload 5, 2, 0, 0, 0, 0, 0, 0), (310, .iastore, 1, 0, 0, 0, 0, 0, 0), (311, .aload_n 0, 1, 0, 0, 0, 0, 0, 0), (312, .getfield 107, 3, 1341, 1, 12, 1138, 0, 22), (315, .aload_n 0, 1, 0, 0, 0, 0, 0, 0), (316, .getfield 295, 3, 3239, 0, 12, 1136, 0, 22), (319, .iload 8, 2, 0, 0, 0, 0, 0, 0), (321, .iastore, 1, 0, 0, 0, 0, 0, 0), (322, .aload_n 0, 1, 0, 0, 0, 0, 0, 0), (323, .dup, 1, 0, 0, 0, 0, 0, 0), (324, .getfield 295, 3, 3239, 0, 12, 1136, 0, 22), (327, .iconst 1, 1, 0, 0, 0, 0, 0, 0), (328, .iadd, 1, 0, 0, 0, 0, 0, 0), (329, .putfield 295, 3, 3239, 0, 12, 1136, 0, 22), (332, .iload 8, 2, 0, 0, 0, 0, 0, 0), (334, .iconst 1, 1, 0, 0, 0, 0, 0, 0), (335, .iadd, 1, 0, 0, 0, 0, 0, 0), (336, .istore 6, 2, 0, 0, 0, 0, 0, 0), (338, .iinc 5 1, 3, 0, 0, 0, 0, 0, 0), (341, .goto (-140), 3, 201, 0, 0, 0, 0, 0), (344, .aload_n 0, 1, 0, 0, 0, 0, 0, 0), (345, .getfield 295, 3, 3239, 0, 12, 1136, 0, 22), (348, .ireturn, 1, 0, 0, 0, 0, 0, 0)]
set_option maxRecDepth 100000 in
theorem jk_X12_subsequence : ji_X12_subsequence.all (jck 249) = true := by decide +kernel
def ji_X12_pair : List JI := [(0, .iload_n 2, 1, 0, 0, 0, 0, 0, 0), (1, .i2l, 1, 0, 0, 0, 0, 0, 0), (2, .lconst 0, 1, 0, 0, 0, 0, 0, 0), (3, .lconst 1, 1, 0, 0, 0, 0, 0, 0), (4, .invokestatic 138, 3, 170, 3, 0, 1279, 0, 0), (7, .ifCond .ne 8, 3, 15, 0, 0, 0, 0, 0), (10, .bipush (-2), 2, 0, 0, 0, 0, 0, 0), (12, .goto 42, 3, 54, 0, 0, 0, 0, 0), (15, .iload_n 1, 1, 0, 0, 0, 0, 0, 0), (16, .i2l, 1, 0, 0, 0, 0, 0, 0), (17, .lconst 0, 1, 0, 0, 0, 0, 0, 0), (18, .aload_n 0, 1, 0, 0, 0, 0, 0, 0), (19, .getfield 295, 3, 3239, 0, 12, 1136, 0, 22), (22, .iconst 1, 1, 0, 0, 0, 0, 0, 0), (23, .isub, 1, 0, 0, 0, 0, 0, 0), (24, .i2l, 1, 0, 0, 0, 0, 0, 0), (25, .invokestatic 138, 3, 170, 3, 0, 1279, 0, 0), (28, .ifCond .ne 7, 3, 35, 0, 0, 0, 0, 0), (31, .iconst (-1), 1, 0, 0, 0, 0, 0, 0), (32, .goto 22, 3, 54, 0, 0, 0, 0, 0), (35, .iload_n 2, 1, 0, 0, 0, 0, 0, 0), (36, .ifCond .ne 12, 3, 48, 0, 0, 0, 0, 0), (39, .aload_n 0, 1, 0, 0, 0, 0, 0, 0), (40, .getfield 104, 3, 1340, 1, 12, 1137, 0, 22), (43, .iload_n 1, 1, 0, 0, 0, 0, 0, 0), (44, .iaload, 1, 0, 0, 0, 0, 0, 0), (45, .goto 9, 3, 54, 0, 0, 0, 0, 0), (48, .aload_n 0, 1, 0, 0, 0, 0, 0, 0), (49, .getfield 107, 3, 1341, 1, 12, 1138, 0, 22), (52, .iload_n 1, 1, 0, 0, 0, 0, 0, 0), (53, .iaload, 1, 0, 0, 0, 0, 0, 0), (54, .ireturn, 1, 0, 0, 0, 0, 0, 0)]
set_option maxRecDepth 100000 in
theorem jk_X12_pair : ji_X12_pair.all (jck 250) = true := by decide +kernel
def ji_X12_item : List JI := [(0, .aload_n 0, 1, 0, 0, 0, 0, 0, 0), (1, .getfield 114, 3, 1344, 1, 12, 1141, 0, 22), (4, .aload_n 0, 1, 0, 0, 0, 0, 0, 0), (5, .getfield 298, 3, 3242, 0, 12, 1139, 0, 22), (8, .iload_n 1, 1, 0, 0, 0, 0, 0, 0), (9, .iastore, 1, 0, 0, 0, 0, 0, 0), (10, .aload_n 0, 1, 0, 0, 0, 0, 0, 0), (11, .getfield 117, 3, 1345, 1, 12, 1142, 0, 22), (14, .aload_n 0, 1, 0, 0, 0, 0, 0, 0), (15, .getfield 298, 3, 3242, 0, 12, 1139, 0, 22), (18, .iload_n 2, 1, 0, 0, 0, 0, 0, 0), (19, .iastore, 1, 0, 0, 0, 0, 0, 0), (20, .aload_n 0, 1, 0, 0, 0, 0, 0, 0), (21, .getfield 120, 3, 1346, 1, 12, 1143, 0, 22), (24, .aload_n 0, 1, 0, 0, 0, 0, 0, 0), (25, .getfield 298, 3, 3242, 0, 12, 1139, 0, 22), (28, .iload_n 3, 1, 0, 0, 0, 0, 0, 0), (29, .iastore, 1, 0, 0, 0, 0, 0, 0), (30, .aload_n 0, 1, 0, 0, 0, 0, 0, 0), (31, .dup, 1, 0, 0, 0, 0, 0, 0), (32, .getfield 298, 3, 3242, 0, 12, 1139, 0, 22), (35, .iconst 1, 1, 0, 0, 0, 0, 0, 0), (36, .iadd, 1, 0, 0, 0, 0, 0, 0), (37, .putfield 298, 3, 3242, 0, 12, 1139, 0, 22), (40, .return_, 1, 0, 0, 0, 0, 0, 0)]
set_option maxRecDepth 100000 in
theorem jk_X12_item : ji_X12_item.all (jck 251) = true := by decide +kernel
def ji_X12_squeezeCopies : List JI := [(0, .aload_n 0, 1, 0, 0, 0, 0, 0, 0), (1, .iload_n 1, 1, 0, 0, 0, 0, 0, 0), (2, .iload_n 1, 1, 0, 0, 0, 0, 0, 0), (3, .invokevirtual 197, 3, 196, 3, 3, 1377, 0, 22), (6, .iconst 0, 1, 0, 0, 0, 0, 0, 0), (7, .istore_n 2, 1, 0, 0, 0, 0, 0, 0), (8, .iload_n 2, 1, 0, 0, 0, 0, 0, 0), (9, .aload_n 0, 1, 0, 0, 0, 0, 0, 0), (10, .getfield 7, 3, 1301, 1, 12, 1098, 0, 22), (13, .iload_n 1, 1, 0, 0, 0, 0, 0, 0), (14, .iaload, 1, 0, 0, 0, 0, 0, 0), (15, .if_icmp .ge 122, 3, 137, 0, 0, 0, 0, 0), (18, .iconst 0, 1, 0, 0, 0, 0, 0, 0), (19, .istore_n 3, 1, 0, 0, 0, 0, 0, 0), (20, .iconst 0, 1, 0, 0, 0, 0, 0, 0), (21, .istore 4, 2, 0, 0, 0, 0, 0, 0), (23, .iconst 0, 1, 0, 0, 0, 0, 0, 0), (24, .istore 5, 2, 0, 0, 0, 0, 0, 0), (26, .iload 5, 2, 0, 0, 0, 0, 0, 0), (28, .iload_n 2, 1, 0, 0, 0, 0, 0, 0), (29, .if_icmp .ge 70, 3, 99, 0, 0, 0, 0, 0), (32, .aload_n 0, 1, 0, 0, 0, 0, 0, 0), (33, .getfield 30, 3, 1308, 1, 12, 1105, 0, 22), (36, .sipush 241, 3, 0, 0, 0, 0, 0, 0), (39, .iload_n 2, 1, 0, 0, 0, 0, 0, 0), (40, .imul, 1, 0, 0, 0, 0, 0, 0), (41, .iload 5, 2, 0, 0, 0, 0, 0, 0), (43, .iadd, 1, 0, 0, 0, 0, 0, 0), (44, .iaload, 1, 0, 0, 0, 0, 0, 0), (45, .iload_n 3, 1, 0, 0, 0, 0, 0, 0), (46, .if_icmp .le 8, 3, 54, 0, 0, 0, 0, 0), (49, .iload 5, 2, 0, 0, 0, 0, 0, 0), (51, .goto 5, 3, 56, 0, 0, 0, 0, 0), (54, .iload 4, 2, 0, 0, 0, 0, 0, 0), (56, .istore 4, 2, 0, 0, 0, 0, 0, 0), (58, .aload_n 0, 1, 0, 0, 0, 0, 0, 0), (59, .getfield 30, 3, 1308, 1, 12, 1105, 0, 22), (62, .sipush 241, 3, 0, 0, 0, 0, 0, 0), (65, .iload_n 2, 1, 0, 0, 0, 0, 0, 0), (66, .imul, 1, 0, 0, 0, 0, 0, 0), (67, .iload 5, 2, 0, 0, 0, 0, 0, 0), (69, .iadd, 1, 0, 0, 0, 0, 0, 0), (70, .iaload, 1, 0, 0, 0, 0, 0, 0), (71, .iload_n 3, 1, 0, 0, 0, 0, 0, 0), (72, .if_icmp .le 19, 3, 91, 0, 0, 0, 0, 0), (75, .aload_n 0, 1, 0, 0, 0, 0, 0, 0), (76, .getfield 30, 3, 1308, 1, 12, 1105, 0, 22), (79, .sipush 241, 3, 0, 0, 0, 0, 0, 0), (82, .iload_n 2, 1, 0, 0, 0, 0, 0, 0), (83, .imul, 1, 0, 0, 0, 0, 0, 0), (84, .iload 5, 2, 0, 0, 0, 0, 0, 0), (86, .iadd, 1, 0, 0, 0, 0, 0, 0), (87, .iaload, 1, 0, 0, 0, 0, 0, 0), (88, .goto 4, 3, 92, 0, 0, 0, 0, 0), (91, .iload_n 3, 1, 0, 0, 0, 0, 0, 0), (92, .istore_n 3, 1, 0, 0, 0, 0, 0, 0), (93, .iinc 5 1, 3, 0, 0, 0, 0, 0, 0), (96, .goto (-70), 3, 26, 0, 0, 0, 0, 0), (99, .iload_n 3, 1, 0, 0, 0, 0, 0, 0), (100, .iconst 1, 1, 0, 0, 0, 0, 0, 0), (101, .if_icmp .le 18, 3, 119, 0, 0, 0, 0, 0), (104, .aload_n 0, 1, 0, 0, 0, 0, 0, 0), (105, .iconst 1, 1, 0, 0, 0, 0, 0, 0), (106, .iload 4, 2, 0, 0, 0, 0, 0, 0), (108, .iload_n 3, 1, 0, 0, 0, 0, 0, 0), (109, .invokevirtual 301, 3, 251, 4, 3, 1599, 0, 22), (112, .iload_n 2, 1, 0, 0, 0, 0, 0, 0), (113, .iload_n 3, 1, 0, 0, 0, 0, 0, 0), (114, .iadd, 1, 0, 0, 0, 0, 0, 0), (115, .istore_n 2, 1, 0, 0, 0, 0, 0, 0), (116, .goto 18, 3, 134, 0, 0, 0, 0, 0), (119, .aload_n 0, 1, 0, 0, 0, 0, 0, 0), (120, .iconst 0, 1, 0, 0, 0, 0, 0, 0), (121, .aload_n 0, 1, 0, 0, 0, 0, 0, 0), (122, .iload_n 1, 1, 0, 0, 0, 0, 0, 0), (123, .iload_n 2, 1, 0, 0, 0, 0, 0, 0), (124, .invokevirtual 149, 3, 174, 3, 0, 1267, 0, 22), (127, .iconst 1, 1, 0, 0, 0, 0, 0, 0), (128, .invokevirtual 301, 3, 251, 4, 3, 1599, 0, 22), (131, .iinc 2 1, 3, 0, 0, 0, 0, 0, 0), (134, .goto (-126), 3, 8, 0, 0, 0, 0, 0), (137, .return_, 1, 0, 0, 0, 0, 0, 0)]
set_option maxRecDepth 100000 in
theorem jk_X12_squeezeCopies : ji_X12_squeezeCopies.all (jck 252) = true := by decide +kernel
def ji_X12_squeezePhrases : List JI := [(0, .iconst 1, 1, 0, 0, 0, 0, 0, 0), (1, .istore_n 2, 1, 0, 0, 0, 0, 0, 0), (2, .iconst 0, 1, 0, 0, 0, 0, 0, 0), (3, .istore_n 3, 1, 0, 0, 0, 0, 0, 0), (4, .iload_n 3, 1, 0, 0, 0, 0, 0, 0), (5, .aload_n 0, 1, 0, 0, 0, 0, 0, 0), (6, .getfield 7, 3, 1301, 1, 12, 1098, 0, 22), (9, .iload_n 1, 1, 0, 0, 0, 0, 0, 0), (10, .iaload, 1, 0, 0, 0, 0, 0, 0), (11, .if_icmp .ge 173, 3, 184, 0, 0, 0, 0, 0), (14, .iconst 0, 1, 0, 0, 0, 0, 0, 0), (15, .istore 4, 2, 0, 0, 0, 0, 0, 0), (17, .iconst 1, 1, 0, 0, 0, 0, 0, 0), (18, .istore 5, 2, 0, 0, 0, 0, 0, 0), (20, .iload 5, 2, 0, 0, 0, 0, 0, 0), (22, .ifCond .eq 99, 3, 121, 0, 0, 0, 0, 0), (25, .iload_n 3, 1, 0, 0, 0, 0, 0, 0), (26, .aload_n 0, 1, 0, 0, 0, 0, 0, 0), (27, .getfield 7, 3, 1301, 1, 12, 1098, 0, 22), (30, .iload_n 1, 1, 0, 0, 0, 0, 0, 0), (31, .iaload, 1, 0, 0, 0, 0, 0, 0), (32, .if_icmp .ge 89, 3, 121, 0, 0, 0, 0, 0), (35, .iconst 1, 1, 0, 0, 0, 0, 0, 0), (36, .istore 6, 2, 0, 0, 0, 0, 0, 0), (38, .iload 6, 2, 0, 0, 0, 0, 0, 0), (40, .iload_n 2, 1, 0, 0, 0, 0, 0, 0), (41, .if_icmp .ge 37, 3, 78, 0, 0, 0, 0, 0), (44, .aload_n 0, 1, 0, 0, 0, 0, 0, 0), (45, .getfield 123, 3, 1347, 1, 12, 1144, 0, 22), (48, .iload 6, 2, 0, 0, 0, 0, 0, 0), (50, .iaload, 1, 0, 0, 0, 0, 0, 0), (51, .iload 4, 2, 0, 0, 0, 0, 0, 0), (53, .if_icmp .ne 19, 3, 72, 0, 0, 0, 0, 0), (56, .aload_n 0, 1, 0, 0, 0, 0, 0, 0), (57, .getfield 126, 3, 1348, 1, 12, 1145, 0, 22), (60, .iload 6, 2, 0, 0, 0, 0, 0, 0), (62, .iaload, 1, 0, 0, 0, 0, 0, 0), (63, .aload_n 0, 1, 0, 0, 0, 0, 0, 0), (64, .iload_n 1, 1, 0, 0, 0, 0, 0, 0), (65, .iload_n 3, 1, 0, 0, 0, 0, 0, 0), (66, .invokevirtual 149, 3, 174, 3, 0, 1267, 0, 22), (69, .if_icmp .eq 9, 3, 78, 0, 0, 0, 0, 0), (72, .iinc 6 1, 3, 0, 0, 0, 0, 0, 0), (75, .goto (-37), 3, 38, 0, 0, 0, 0, 0), (78, .iload 6, 2, 0, 0, 0, 0, 0, 0), (80, .iload_n 2, 1, 0, 0, 0, 0, 0, 0), (81, .if_icmp .ge 7, 3, 88, 0, 0, 0, 0, 0), (84, .iconst 1, 1, 0, 0, 0, 0, 0, 0), (85, .goto 4, 3, 89, 0, 0, 0, 0, 0), (88, .iconst 0, 1, 0, 0, 0, 0, 0, 0), (89, .istore 5, 2, 0, 0, 0, 0, 0, 0), (91, .iload 5, 2, 0, 0, 0, 0, 0, 0), (93, .ifCond .eq 8, 3, 101, 0, 0, 0, 0, 0), (96, .iload 6, 2, 0, 0, 0, 0, 0, 0), (98, .goto 5, 3, 103, 0, 0, 0, 0, 0), (101, .iload 4, 2, 0, 0, 0, 0, 0, 0), (103, .istore 4, 2, 0, 0, 0, 0, 0, 0), (105, .iload_n 3, 1, 0, 0, 0, 0, 0, 0), (106, .iload 5, 2, 0, 0, 0, 0, 0, 0), (108, .ifCond .eq 7, 3, 115, 0, 0, 0, 0, 0), (111, .iconst 1, 1, 0, 0, 0, 0, 0, 0), (112, .goto 4, 3, 116, 0, 0, 0, 0, 0), (115, .iconst 0, 1, 0, 0, 0, 0, 0, 0), (116, .iadd, 1, 0, 0, 0, 0, 0, 0), (117, .istore_n 3, 1, 0, 0, 0, 0, 0, 0), (118, .goto (-98), 3, 20, 0, 0, 0, 0, 0), (121, .iload_n 3, 1, 0, 0, 0, 0, 0, 0), (122, .aload_n 0, 1, 0, 0, 0, 0, 0, 0), (123, .getfield 7, 3, 1301, 1, 12, 1098, 0, 22), (126, .iload_n 1, 1, 0, 0, 0, 0, 0, 0), (127, .iaload, 1, 0, 0, 0, 0, 0, 0), (128, .if_icmp .ge 45, 3, 173, 0, 0, 0, 0, 0), (131, .aload_n 0, 1, 0, 0, 0, 0, 0, 0), (132, .iload 4, 2, 0, 0, 0, 0, 0, 0), (134, .aload_n 0, 1, 0, 0, 0, 0, 0, 0), (135, .iload_n 1, 1, 0, 0, 0, 0, 0, 0), (136, .iload_n 3, 1, 0, 0, 0, 0, 0, 0), (137, .invokevirtual 149, 3, 174, 3, 0, 1267, 0, 22), (140, .iconst 0, 1, 0, 0, 0, 0, 0, 0), (141, .invokevirtual 301, 3, 251, 4, 3, 1599, 0, 22), (144, .aload_n 0, 1, 0, 0, 0, 0, 0, 0), (145, .getfield 123, 3, 1347, 1, 12, 1144, 0, 22), (148, .iload_n 2, 1, 0, 0, 0, 0, 0, 0), (149, .iload 4, 2, 0, 0, 0, 0, 0, 0), (151, .iastore, 1, 0, 0, 0, 0, 0, 0), (152, .aload_n 0, 1, 0, 0, 0, 0, 0, 0), (153, .getfield 126, 3, 1348, 1, 12, 1145, 0, 22), (156, .iload_n 2, 1, 0, 0, 0, 0, 0, 0), (157, .aload_n 0, 1, 0, 0, 0, 0, 0, 0), (158, .iload_n 1, 1, 0, 0, 0, 0, 0, 0), (159, .iload_n 3, 1, 0, 0, 0, 0, 0, 0), (160, .invokevirtual 149, 3, 174, 3, 0, 1267, 0, 22), (163, .iastore, 1, 0, 0, 0, 0, 0, 0), (164, .iinc 2 1, 3, 0, 0, 0, 0, 0, 0), (167, .iinc 3 1, 3, 0, 0, 0, 0, 0, 0), (170, .goto 11, 3, 181, 0, 0, 0, 0, 0), (173, .aload_n 0, 1, 0, 0, 0, 0, 0, 0), (174, .iload 4, 2, 0, 0, 0, 0, 0, 0), (176, .iconst (-1), 1, 0, 0, 0, 0, 0, 0), (177, .iconst 0, 1, 0, 0, 0, 0, 0, 0), (178, .invokevirtual 301, 3, 251, 4, 3, 1599, 0, 22), (181, .goto (-177), 3, 4, 0, 0, 0, 0, 0), (184, .return_, 1, 0, 0, 0, 0, 0, 0)]
set_option maxRecDepth 100000 in
theorem jk_X12_squeezePhrases : ji_X12_squeezePhrases.all (jck 253) = true := by decide +kernel
def ji_X12_squeeze : List JI := [(0, .aload_n 0, 1, 0, 0, 0, 0, 0, 0), (1, .iload_n 1, 1, 0, 0, 0, 0, 0, 0), (2, .invokevirtual 142, 3, 171, 2, 0, 1275, 0, 22), (5, .ifCond .eq 13, 3, 18, 0, 0, 0, 0, 0), (8, .iload_n 2, 1, 0, 0, 0, 0, 0, 0), (9, .i2l, 1, 0, 0, 0, 0, 0, 0), (10, .lconst 0, 1, 0, 0, 0, 0, 0, 0), (11, .lconst 1, 1, 0, 0, 0, 0, 0, 0), (12, .invokestatic 138, 3, 170, 3, 0, 1279, 0, 0), (15, .ifCond .ne 6, 3, 21, 0, 0, 0, 0, 0), (18, .bipush (-2), 2, 0, 0, 0, 0, 0, 0), (20, .ireturn, 1, 0, 0, 0, 0, 0, 0), (21, .aload_n 0, 1, 0, 0, 0, 0, 0, 0), (22, .iconst 0, 1, 0, 0, 0, 0, 0, 0), (23, .putfield 298, 3, 3242, 0, 12, 1139, 0, 22), (26, .aload_n 0, 1, 0, 0, 0, 0, 0, 0), (27, .iload_n 2, 1, 0, 0, 0, 0, 0, 0), (28, .putfield 110, 3, 3243, 0, 12, 1140, 0, 22), (31, .iload_n 2, 1, 0, 0, 0, 0, 0, 0), (32, .ifCond .ne 11, 3, 43, 0, 0, 0, 0, 0), (35, .aload_n 0, 1, 0, 0, 0, 0, 0, 0), (36, .iload_n 1, 1, 0, 0, 0, 0, 0, 0), (37, .invokevirtual 305, 3, 252, 2, 3, 1595, 0, 22), (40, .goto 8, 3, 48, 0, 0, 0, 0, 0), (43, .aload_n 0, 1, 0, 0, 0, 0, 0, 0), (44, .iload_n 1, 1, 0, 0, 0, 0, 0, 0), (45, .invokevirtual 308, 3, 253, 2, 3, 1603, 0, 22), (48, .aload_n 0, 1, 0, 0, 0, 0, 0, 0), (49, .getfield 298, 3, 3242, 0, 12, 1139, 0, 22), (52, .ireturn, 1, 0, 0, 0, 0, 0, 0)]
set_option maxRecDepth 100000 in
theorem jk_X12_squeeze : ji_X12_squeeze.all (jck 254) = true := by decide +kernel
def ji_X12_squeezed : List JI := [(0, .iload_n 2, 1, 0, 0, 0, 0, 0, 0), (1, .i2l, 1, 0, 0, 0, 0, 0, 0), (2, .lconst 0, 1, 0, 0, 0, 0, 0, 0), (3, .ldc2_w 234, 3, 0, 0, 0, 1459, 0, 2), (6, .invokestatic 138, 3, 170, 3, 0, 1279, 0, 0), (9, .ifCond .ne 6, 3, 15, 0, 0, 0, 0, 0), (12, .bipush (-2), 2, 0, 0, 0, 0, 0, 0), (14, .ireturn, 1, 0, 0, 0, 0, 0, 0), (15, .iload_n 1, 1, 0, 0, 0, 0, 0, 0), (16, .i2l, 1, 0, 0, 0, 0, 0, 0), (17, .lconst 0, 1, 0, 0, 0, 0, 0, 0), (18, .aload_n 0, 1, 0, 0, 0, 0, 0, 0), (19, .getfield 298, 3, 3242, 0, 12, 1139, 0, 22), (22, .iconst 1, 1, 0, 0, 0, 0, 0, 0), (23, .isub, 1, 0, 0, 0, 0, 0, 0), (24, .i2l, 1, 0, 0, 0, 0, 0, 0), (25, .invokestatic 138, 3, 170, 3, 0, 1279, 0, 0), (28, .ifCond .ne 7, 3, 35, 0, 0, 0, 0, 0), (31, .iconst (-1), 1, 0, 0, 0, 0, 0, 0), (32, .goto 36, 3, 68, 0, 0, 0, 0, 0), (35, .iload_n 2, 1, 0, 0, 0, 0, 0, 0), (36, .ifCond .ne 12, 3, 48, 0, 0, 0, 0, 0), (39, .aload_n 0, 1, 0, 0, 0, 0, 0, 0), (40, .getfield 114, 3, 1344, 1, 12, 1141, 0, 22), (43, .iload_n 1, 1, 0, 0, 0, 0, 0, 0), (44, .iaload, 1, 0, 0, 0, 0, 0, 0), (45, .goto 23, 3, 68, 0, 0, 0, 0, 0), (48, .iload_n 2, 1, 0, 0, 0, 0, 0, 0), (49, .iconst 1, 1, 0, 0, 0, 0, 0, 0), (50, .if_icmp .ne 12, 3, 62, 0, 0, 0, 0, 0), (53, .aload_n 0, 1, 0, 0, 0, 0, 0, 0), (54, .getfield 117, 3, 1345, 1, 12, 1142, 0, 22), (57, .iload_n 1, 1, 0, 0, 0, 0, 0, 0), (58, .iaload, 1, 0, 0, 0, 0, 0, 0), (59, .goto 9, 3, 68, 0, 0, 0, 0, 0), (62, .aload_n 0, 1, 0, 0, 0, 0, 0, 0), (63, .getfield 120, 3, 1346, 1, 12, 1143, 0, 22), (66, .iload_n 1, 1, 0, 0, 0, 0, 0, 0), (67, .iaload, 1, 0, 0, 0, 0, 0, 0), (68, .ireturn, 1, 0, 0, 0, 0, 0, 0)]
set_option maxRecDepth 100000 in
theorem jk_X12_squeezed : ji_X12_squeezed.all (jck 255) = true := by decide +kernel
def ji_X12_putPhrase : List JI := [(0, .aload_n 0, 1, 0, 0, 0, 0, 0, 0), (1, .getfield 7, 3, 1301, 1, 12, 1098, 0, 22), (4, .iload_n 1, 1, 0, 0, 0, 0, 0, 0), (5, .iaload, 1, 0, 0, 0, 0, 0, 0), (6, .istore_n 3, 1, 0, 0, 0, 0, 0, 0), (7, .iload_n 2, 1, 0, 0, 0, 0, 0, 0), (8, .istore 4, 2, 0, 0, 0, 0, 0, 0), (10, .iload 4, 2, 0, 0, 0, 0, 0, 0), (12, .ifCond .le 31, 3, 43, 0, 0, 0, 0, 0), (15, .aload_n 0, 1, 0, 0, 0, 0, 0, 0), (16, .iload_n 1, 1, 0, 0, 0, 0, 0, 0), (17, .aload_n 0, 1, 0, 0, 0, 0, 0, 0), (18, .getfield 117, 3, 1345, 1, 12, 1142, 0, 22), (21, .iload 4, 2, 0, 0, 0, 0, 0, 0), (23, .iconst 1, 1, 0, 0, 0, 0, 0, 0), (24, .isub, 1, 0, 0, 0, 0, 0, 0), (25, .iaload, 1, 0, 0, 0, 0, 0, 0), (26, .invokevirtual 165, 3, 177, 3, 3, 1284, 0, 22), (29, .aload_n 0, 1, 0, 0, 0, 0, 0, 0), (30, .getfield 114, 3, 1344, 1, 12, 1141, 0, 22), (33, .iload 4, 2, 0, 0, 0, 0, 0, 0), (35, .iconst 1, 1, 0, 0, 0, 0, 0, 0), (36, .isub, 1, 0, 0, 0, 0, 0, 0), (37, .iaload, 1, 0, 0, 0, 0, 0, 0), (38, .istore 4, 2, 0, 0, 0, 0, 0, 0), (40, .goto (-30), 3, 10, 0, 0, 0, 0, 0), (43, .aload_n 0, 1, 0, 0, 0, 0, 0, 0), (44, .getfield 7, 3, 1301, 1, 12, 1098, 0, 22), (47, .iload_n 1, 1, 0, 0, 0, 0, 0, 0), (48, .iaload, 1, 0, 0, 0, 0, 0, 0), (49, .iconst 1, 1, 0, 0, 0, 0, 0, 0), (50, .isub, 1, 0, 0, 0, 0, 0, 0), (51, .istore 4, 2, 0, 0, 0, 0, 0, 0), (53, .iload_n 3, 1, 0, 0, 0, 0, 0, 0), (54, .iload 4, 2, 0, 0, 0, 0, 0, 0), (56, .if_icmp .ge 54, 3, 110, 0, 0, 0, 0, 0), (59, .aload_n 0, 1, 0, 0, 0, 0, 0, 0), (60, .iload_n 1, 1, 0, 0, 0, 0, 0, 0), (61, .iload_n 3, 1, 0, 0, 0, 0, 0, 0), (62, .invokevirtual 149, 3, 174, 3, 0, 1267, 0, 22), (65, .istore 5, 2, 0, 0, 0, 0, 0, 0), (67, .aload_n 0, 1, 0, 0, 0, 0, 0, 0), (68, .getfield 13, 3, 1302, 1, 12, 1099, 0, 22), (71, .sipush 240, 3, 0, 0, 0, 0, 0, 0), (74, .iload_n 1, 1, 0, 0, 0, 0, 0, 0), (75, .imul, 1, 0, 0, 0, 0, 0, 0), (76, .iload_n 3, 1, 0, 0, 0, 0, 0, 0), (77, .iadd, 1, 0, 0, 0, 0, 0, 0), (78, .aload_n 0, 1, 0, 0, 0, 0, 0, 0), (79, .iload_n 1, 1, 0, 0, 0, 0, 0, 0), (80, .iload 4, 2, 0, 0, 0, 0, 0, 0), (82, .invokevirtual 149, 3, 174, 3, 0, 1267, 0, 22), (85, .iastore, 1, 0, 0, 0, 0, 0, 0), (86, .aload_n 0, 1, 0, 0, 0, 0, 0, 0), (87, .getfield 13, 3, 1302, 1, 12, 1099, 0, 22), (90, .sipush 240, 3, 0, 0, 0, 0, 0, 0), (93, .iload_n 1, 1, 0, 0, 0, 0, 0, 0), (94, .imul, 1, 0, 0, 0, 0, 0, 0), (95, .iload 4, 2, 0, 0, 0, 0, 0, 0), (97, .iadd, 1, 0, 0, 0, 0, 0, 0), (98, .iload 5, 2, 0, 0, 0, 0, 0, 0), (100, .iastore, 1, 0, 0, 0, 0, 0, 0), (101, .iinc 3 1, 3, 0, 0, 0, 0, 0, 0), (104, .iinc 4 (-1), 3, 0, 0, 0, 0, 0, 0), (107, .goto (-54), 3, 53, 0, 0, 0, 0, 0), (110, .return_, 1, 0, 0, 0, 0, 0, 0)]
set_option maxRecDepth 100000 in
theorem jk_X12_putPhrase : ji_X12_putPhrase.all (jck 256) = true := by decide +kernel
def ji_X12_expand : List JI := [(0, .aload_n 0, 1, 0, 0, 0, 0, 0, 0), (1, .getfield 135, 3, 3200, 0, 12, 1097, 0, 22), (4, .bipush 40, 2, 0, 0, 0, 0, 0, 0), (6, .if_icmp .ne 6, 3, 12, 0, 0, 0, 0, 0), (9, .bipush (-3), 2, 0, 0, 0, 0, 0, 0), (11, .ireturn, 1, 0, 0, 0, 0, 0, 0), (12, .aload_n 0, 1, 0, 0, 0, 0, 0, 0), (13, .getfield 110, 3, 3243, 0, 12, 1140, 0, 22), (16, .iconst (-1), 1, 0, 0, 0, 0, 0, 0), (17, .if_icmp .ne 6, 3, 23, 0, 0, 0, 0, 0), (20, .bipush (-4), 2, 0, 0, 0, 0, 0, 0), (22, .ireturn, 1, 0, 0, 0, 0, 0, 0), (23, .aload_n 0, 1, 0, 0, 0, 0, 0, 0), (24, .invokevirtual 157, 3, 176, 1, 0, 1259, 0, 22), (27, .istore_n 1, 1, 0, 0, 0, 0, 0, 0), (28, .iconst 0, 1, 0, 0, 0, 0, 0, 0), (29, .istore_n 2, 1, 0, 0, 0, 0, 0, 0), (30, .iload_n 2, 1, 0, 0, 0, 0, 0, 0), (31, .aload_n 0, 1, 0, 0, 0, 0, 0, 0), (32, .getfield 298, 3, 3242, 0, 12, 1139, 0, 22), (35, .if_icmp .ge 118, 3, 153, 0, 0, 0, 0, 0), (38, .aload_n 0, 1, 0, 0, 0, 0, 0, 0), (39, .getfield 110, 3, 3243, 0, 12, 1140, 0, 22), (42, .ifCond .ne 52, 3, 94, 0, 0, 0, 0, 0), (45, .aload_n 0, 1, 0, 0, 0, 0, 0, 0), (46, .getfield 114, 3, 1344, 1, 12, 1141, 0, 22), (49, .iload_n 2, 1, 0, 0, 0, 0, 0, 0), (50, .iaload, 1, 0, 0, 0, 0, 0, 0), (51, .iconst 1, 1, 0, 0, 0, 0, 0, 0), (52, .if_icmp .ne 42, 3, 94, 0, 0, 0, 0, 0), (55, .iconst 0, 1, 0, 0, 0, 0, 0, 0), (56, .istore_n 3, 1, 0, 0, 0, 0, 0, 0), (57, .iload_n 3, 1, 0, 0, 0, 0, 0, 0), (58, .aload_n 0, 1, 0, 0, 0, 0, 0, 0), (59, .getfield 120, 3, 1346, 1, 12, 1143, 0, 22), (62, .iload_n 2, 1, 0, 0, 0, 0, 0, 0), (63, .iaload, 1, 0, 0, 0, 0, 0, 0), (64, .if_icmp .ge 27, 3, 91, 0, 0, 0, 0, 0), (67, .aload_n 0, 1, 0, 0, 0, 0, 0, 0), (68, .iload_n 1, 1, 0, 0, 0, 0, 0, 0), (69, .aload_n 0, 1, 0, 0, 0, 0, 0, 0), (70, .iload_n 1, 1, 0, 0, 0, 0, 0, 0), (71, .aload_n 0, 1, 0, 0, 0, 0, 0, 0), (72, .getfield 117, 3, 1345, 1, 12, 1142, 0, 22), (75, .iload_n 2, 1, 0, 0, 0, 0, 0, 0), (76, .iaload, 1, 0, 0, 0, 0, 0, 0), (77, .iload_n 3, 1, 0, 0, 0, 0, 0, 0), (78, .iadd, 1, 0, 0, 0, 0, 0, 0), (79, .invokevirtual 149, 3, 174, 3, 0, 1267, 0, 22), (82, .invokevirtual 165, 3, 177, 3, 3, 1284, 0, 22), (85, .iinc 3 1, 3, 0, 0, 0, 0, 0, 0), (88, .goto (-31), 3, 57, 0, 0, 0, 0, 0), (91, .goto 56, 3, 147, 0, 0, 0, 0, 0), (94, .aload_n 0, 1, 0, 0, 0, 0, 0, 0), (95, .getfield 110, 3, 3243, 0, 12, 1140, 0, 22), (98, .ifCond .ne 17, 3, 115, 0, 0, 0, 0, 0), (101, .aload_n 0, 1, 0, 0, 0, 0, 0, 0), (102, .iload_n 1, 1, 0, 0, 0, 0, 0, 0), (103, .aload_n 0, 1, 0, 0, 0, 0, 0, 0), (104, .getfield 117, 3, 1345, 1, 12, 1142, 0, 22), (107, .iload_n 2, 1, 0, 0, 0, 0, 0, 0), (108, .iaload, 1, 0, 0, 0, 0, 0, 0), (109, .invokevirtual 165, 3, 177, 3, 3, 1284, 0, 22), (112, .goto 35, 3, 147, 0, 0, 0, 0, 0), (115, .aload_n 0, 1, 0, 0, 0, 0, 0, 0), (116, .iload_n 1, 1, 0, 0, 0, 0, 0, 0), (117, .aload_n 0, 1, 0, 0, 0, 0, 0, 0), (118, .getfield 114, 3, 1344, 1, 12, 1141, 0, 22), (121, .iload_n 2, 1, 0, 0, 0, 0, 0, 0), (122, .iaload, 1, 0, 0, 0, 0, 0, 0), (123, .invokevirtual 311, 3, 256, 3, 3, 1615, 0, 22), (126, .aload_n 0, 1, 0, 0, 0, 0, 0, 0), (127, .getfield 117, 3, 1345, 1, 12, 1142, 0, 22), (130, .iload_n 2, 1, 0, 0, 0, 0, 0, 0), (131, .iaload, 1, 0, 0, 0, 0, 0, 0), (132, .iconst (-1), 1, 0, 0, 0, 0, 0, 0), (133, .if_icmp .eq 14, 3, 147, 0, 0, 0, 0, 0), (136, .aload_n 0, 1, 0, 0, 0, 0, 0, 0), (137, .iload_n 1, 1, 0, 0, 0, 0, 0, 0), (138, .aload_n 0, 1, 0, 0, 0, 0, 0, 0), (139, .getfield 117, 3, 1345, 1, 12, 1142, 0, 22), (142, .iload_n 2, 1, 0, 0, 0, 0, 0, 0), (143, .iaload, 1, 0, 0, 0, 0, 0, 0), (144, .invokevirtual 165, 3, 177, 3, 3, 1284, 0, 22), (147, .iinc 2 1, 3, 0, 0, 0, 0, 0, 0), (150, .goto (-120), 3, 30, 0, 0, 0, 0, 0), (153, .iload_n 1, 1, 0, 0, 0, 0, 0, 0), (154, .ireturn, 1, 0, 0, 0, 0, 0, 0)]
set_option maxRecDepth 100000 in
theorem jk_X12_expand : ji_X12_expand.all (jck 257) = true := by decide +kernel
def ji_X12_sort : List JI := [(0, .aload_n 0, 1, 0, 0, 0, 0, 0, 0), (1, .iload_n 1, 1, 0, 0, 0, 0, 0, 0), (2, .invokevirtual 142, 3, 171, 2, 0, 1275, 0, 22), (5, .ifCond .ne 6, 3, 11, 0, 0, 0, 0, 0), (8, .bipush (-2), 2, 0, 0, 0, 0, 0, 0), (10, .ireturn, 1, 0, 0, 0, 0, 0, 0), (11, .aload_n 0, 1, 0, 0, 0, 0, 0, 0), (12, .iload_n 1, 1, 0, 0, 0, 0, 0, 0), (13, .invokevirtual 206, 3, 198, 2, 3, 1373, 0, 22), (16, .aload_n 0, 1, 0, 0, 0, 0, 0, 0), (17, .getfield 7, 3, 1301, 1, 12, 1098, 0, 22), (20, .iload_n 1, 1, 0, 0, 0, 0, 0, 0), (21, .iaload, 1, 0, 0, 0, 0, 0, 0), (22, .istore_n 2, 1, 0, 0, 0, 0, 0, 0), (23, .aload_n 0, 1, 0, 0, 0, 0, 0, 0), (24, .iload_n 2, 1, 0, 0, 0, 0, 0, 0), (25, .iconst 1, 1, 0, 0, 0, 0, 0, 0), (26, .iadd, 1, 0, 0, 0, 0, 0, 0), (27, .putfield 314, 3, 3249, 0, 12, 1146, 0, 22), (30, .aload_n 0, 1, 0, 0, 0, 0, 0, 0), (31, .getfield 129, 3, 1350, 1, 12, 1147, 0, 22), (34, .iconst 0, 1, 0, 0, 0, 0, 0, 0), (35, .iload_n 2, 1, 0, 0, 0, 0, 0, 0), (36, .ifCond .ne 7, 3, 43, 0, 0, 0, 0, 0), (39, .iconst (-1), 1, 0, 0, 0, 0, 0, 0), (40, .goto 11, 3, 51, 0, 0, 0, 0, 0), (43, .aload_n 0, 1, 0, 0, 0, 0, 0, 0), (44, .iload_n 1, 1, 0, 0, 0, 0, 0, 0), (45, .iload_n 2, 1, 0, 0, 0, 0, 0, 0), (46, .iconst 1, 1, 0, 0, 0, 0, 0, 0), (47, .isub, 1, 0, 0, 0, 0, 0, 0), (48, .invokevirtual 149, 3, 174, 3, 0, 1267, 0, 22), (51, .iastore, 1, 0, 0, 0, 0, 0, 0), (52, .iconst 0, 1, 0, 0, 0, 0, 0, 0), (53, .istore_n 3, 1, 0, 0, 0, 0, 0, 0), (54, .iconst 0, 1, 0, 0, 0, 0, 0, 0), (55, .istore 4, 2, 0, 0, 0, 0, 0, 0), (57, .iload 4, 2, 0, 0, 0, 0, 0, 0), (59, .iload_n 2, 1, 0, 0, 0, 0, 0, 0), (60, .if_icmp .ge 59, 3, 119, 0, 0, 0, 0, 0), (63, .aload_n 0, 1, 0, 0, 0, 0, 0, 0), (64, .getfield 33, 3, 1309, 1, 12, 1106, 0, 22), (67, .iload 4, 2, 0, 0, 0, 0, 0, 0), (69, .iaload, 1, 0, 0, 0, 0, 0, 0), (70, .istore 5, 2, 0, 0, 0, 0, 0, 0), (72, .aload_n 0, 1, 0, 0, 0, 0, 0, 0), (73, .getfield 129, 3, 1350, 1, 12, 1147, 0, 22), (76, .iload 4, 2, 0, 0, 0, 0, 0, 0), (78, .iconst 1, 1, 0, 0, 0, 0, 0, 0), (79, .iadd, 1, 0, 0, 0, 0, 0, 0), (80, .iload 5, 2, 0, 0, 0, 0, 0, 0), (82, .ifCond .ne 7, 3, 89, 0, 0, 0, 0, 0), (85, .iconst (-1), 1, 0, 0, 0, 0, 0, 0), (86, .goto 12, 3, 98, 0, 0, 0, 0, 0), (89, .aload_n 0, 1, 0, 0, 0, 0, 0, 0), (90, .iload_n 1, 1, 0, 0, 0, 0, 0, 0), (91, .iload 5, 2, 0, 0, 0, 0, 0, 0), (93, .iconst 1, 1, 0, 0, 0, 0, 0, 0), (94, .isub, 1, 0, 0, 0, 0, 0, 0), (95, .invokevirtual 149, 3, 174, 3, 0, 1267, 0, 22), (98, .iastore, 1, 0, 0, 0, 0, 0, 0), (99, .iload 5, 2, 0, 0, 0, 0, 0, 0), (101, .ifCond .ne 10, 3, 111, 0, 0, 0, 0, 0), (104, .iload 4, 2, 0, 0, 0, 0, 0, 0), (106, .iconst 1, 1, 0, 0, 0, 0, 0, 0), (107, .iadd, 1, 0, 0, 0, 0, 0, 0), (108, .goto 4, 3, 112, 0, 0, 0, 0, 0), (111, .iload_n 3, 1, 0, 0, 0, 0, 0, 0), (112, .istore_n 3, 1, 0, 0, 0, 0, 0, 0), (113, .iinc 4 1, 3, 0, 0, 0, 0, 0, 0), (116, .goto (-59), 3, 57, 0, 0, 0, 0, 0), (119, .iload_n 3, 1, 0, 0, 0, 0, 0, 0), (120, .ireturn, 1, 0, 0, 0, 0, 0, 0)]
set_option maxRecDepth 100000 in
theorem jk_X12_sort : ji_X12_sort.all (jck 258) = true := by decide +kernel
def ji_X12_sorted : List JI := [(0, .iload_n 1, 1, 0, 0, 0, 0, 0, 0), (1, .i2l, 1, 0, 0, 0, 0, 0, 0), (2, .lconst 0, 1, 0, 0, 0, 0, 0, 0), (3, .aload_n 0, 1, 0, 0, 0, 0, 0, 0), (4, .getfield 314, 3, 3249, 0, 12, 1146, 0, 22), (7, .iconst 1, 1, 0, 0, 0, 0, 0, 0), (8, .isub, 1, 0, 0, 0, 0, 0, 0), (9, .i2l, 1, 0, 0, 0, 0, 0, 0), (10, .invokestatic 138, 3, 170, 3, 0, 1279, 0, 0), (13, .ifCond .eq 12, 3, 25, 0, 0, 0, 0, 0), (16, .aload_n 0, 1, 0, 0, 0, 0, 0, 0), (17, .getfield 129, 3, 1350, 1, 12, 1147, 0, 22), (20, .iload_n 1, 1, 0, 0, 0, 0, 0, 0), (21, .iaload, 1, 0, 0, 0, 0, 0, 0), (22, .goto 5, 3, 27, 0, 0, 0, 0, 0), (25, .bipush (-2), 2, 0, 0, 0, 0, 0, 0), (27, .ireturn, 1, 0, 0, 0, 0, 0, 0)]
set_option maxRecDepth 100000 in
theorem jk_X12_sorted : ji_X12_sorted.all (jck 259) = true := by decide +kernel
def ji_X12_unsort : List JI := [(0, .aload_n 0, 1, 0, 0, 0, 0, 0, 0), (1, .getfield 135, 3, 3200, 0, 12, 1097, 0, 22), (4, .bipush 40, 2, 0, 0, 0, 0, 0, 0), (6, .if_icmp .ne 6, 3, 12, 0, 0, 0, 0, 0), (9, .bipush (-3), 2, 0, 0, 0, 0, 0, 0), (11, .ireturn, 1, 0, 0, 0, 0, 0, 0), (12, .aload_n 0, 1, 0, 0, 0, 0, 0, 0), (13, .getfield 314, 3, 3249, 0, 12, 1146, 0, 22), (16, .ifCond .ne 6, 3, 22, 0, 0, 0, 0, 0), (19, .bipush (-4), 2, 0, 0, 0, 0, 0, 0), (21, .ireturn, 1, 0, 0, 0, 0, 0, 0), (22, .iconst 0, 1, 0, 0, 0, 0, 0, 0), (23, .istore_n 1, 1, 0, 0, 0, 0, 0, 0), (24, .iload_n 1, 1, 0, 0, 0, 0, 0, 0), (25, .aload_n 0, 1, 0, 0, 0, 0, 0, 0), (26, .getfield 314, 3, 3249, 0, 12, 1146, 0, 22), (29, .if_icmp .ge 77, 3, 106, 0, 0, 0, 0, 0), (32, .iconst 0, 1, 0, 0, 0, 0, 0, 0), (33, .istore_n 2, 1, 0, 0, 0, 0, 0, 0), (34, .iconst 0, 1, 0, 0, 0, 0, 0, 0), (35, .istore_n 3, 1, 0, 0, 0, 0, 0, 0), (36, .iload_n 3, 1, 0, 0, 0, 0, 0, 0), (37, .aload_n 0, 1, 0, 0, 0, 0, 0, 0), (38, .getfield 314, 3, 3249, 0, 12, 1146, 0, 22), (41, .if_icmp .ge 52, 3, 93, 0, 0, 0, 0, 0), (44, .iload_n 2, 1, 0, 0, 0, 0, 0, 0), (45, .aload_n 0, 1, 0, 0, 0, 0, 0, 0), (46, .getfield 129, 3, 1350, 1, 12, 1147, 0, 22), (49, .iload_n 3, 1, 0, 0, 0, 0, 0, 0), (50, .iaload, 1, 0, 0, 0, 0, 0, 0), (51, .aload_n 0, 1, 0, 0, 0, 0, 0, 0), (52, .getfield 129, 3, 1350, 1, 12, 1147, 0, 22), (55, .iload_n 1, 1, 0, 0, 0, 0, 0, 0), (56, .iaload, 1, 0, 0, 0, 0, 0, 0), (57, .if_icmp .lt 23, 3, 80, 0, 0, 0, 0, 0), (60, .aload_n 0, 1, 0, 0, 0, 0, 0, 0), (61, .getfield 129, 3, 1350, 1, 12, 1147, 0, 22), (64, .iload_n 3, 1, 0, 0, 0, 0, 0, 0), (65, .iaload, 1, 0, 0, 0, 0, 0, 0), (66, .aload_n 0, 1, 0, 0, 0, 0, 0, 0), (67, .getfield 129, 3, 1350, 1, 12, 1147, 0, 22), (70, .iload_n 1, 1, 0, 0, 0, 0, 0, 0), (71, .iaload, 1, 0, 0, 0, 0, 0, 0), (72, .if_icmp .ne 12, 3, 84, 0, 0, 0, 0, 0), (75, .iload_n 3, 1, 0, 0, 0, 0, 0, 0), (76, .iload_n 1, 1, 0, 0, 0, 0, 0, 0), (77, .if_icmp .ge 7, 3, 84, 0, 0, 0, 0, 0), (80, .iconst 1, 1, 0, 0, 0, 0, 0, 0), (81, .goto 4, 3, 85, 0, 0, 0, 0, 0), (84, .iconst 0, 1, 0, 0, 0, 0, 0, 0), (85, .iadd, 1, 0, 0, 0, 0, 0, 0), (86, .istore_n 2, 1, 0, 0, 0, 0, 0, 0), (87, .iinc 3 1, 3, 0, 0, 0, 0, 0, 0), (90, .goto (-54), 3, 36, 0, 0, 0, 0, 0), (93, .aload_n 0, 1, 0, 0, 0, 0, 0, 0), (94, .getfield 132, 3, 1351, 1, 12, 1148, 0, 22), (97, .iload_n 2, 1, 0, 0, 0, 0, 0, 0), (98, .iload_n 1, 1, 0, 0, 0, 0, 0, 0), (99, .iastore, 1, 0, 0, 0, 0, 0, 0), (100, .iinc 1 1, 3, 0, 0, 0, 0, 0, 0), (103, .goto (-79), 3, 24, 0, 0, 0, 0, 0), (106, .aload_n 0, 1, 0, 0, 0, 0, 0, 0), (107, .invokevirtual 157, 3, 176, 1, 0, 1259, 0, 22), (110, .istore_n 1, 1, 0, 0, 0, 0, 0, 0), (111, .aload_n 0, 1, 0, 0, 0, 0, 0, 0), (112, .getfield 132, 3, 1351, 1, 12, 1148, 0, 22), (115, .iconst 0, 1, 0, 0, 0, 0, 0, 0), (116, .iaload, 1, 0, 0, 0, 0, 0, 0), (117, .istore_n 2, 1, 0, 0, 0, 0, 0, 0), (118, .iconst 0, 1, 0, 0, 0, 0, 0, 0), (119, .istore_n 3, 1, 0, 0, 0, 0, 0, 0), (120, .iload_n 3, 1, 0, 0, 0, 0, 0, 0), (121, .aload_n 0, 1, 0, 0, 0, 0, 0, 0), (122, .getfield 314, 3, 3249, 0, 12, 1146, 0, 22), (125, .iconst 1, 1, 0, 0, 0, 0, 0, 0), (126, .isub, 1, 0, 0, 0, 0, 0, 0), (127, .if_icmp .ge 27, 3, 154, 0, 0, 0, 0, 0), (130, .aload_n 0, 1, 0, 0, 0, 0, 0, 0), (131, .getfield 132, 3, 1351, 1, 12, 1148, 0, 22), (134, .iload_n 2, 1, 0, 0, 0, 0, 0, 0), (135, .iaload, 1, 0, 0, 0, 0, 0, 0), (136, .istore_n 2, 1, 0, 0, 0, 0, 0, 0), (137, .aload_n 0, 1, 0, 0, 0, 0, 0, 0), (138, .iload_n 1, 1, 0, 0, 0, 0, 0, 0), (139, .aload_n 0, 1, 0, 0, 0, 0, 0, 0), (140, .getfield 129, 3, 1350, 1, 12, 1147, 0, 22), (143, .iload_n 2, 1, 0, 0, 0, 0, 0, 0), (144, .iaload, 1, 0, 0, 0, 0, 0, 0), (145, .invokevirtual 165, 3, 177, 3, 3, 1284, 0, 22), (148, .iinc 3 1, 3, 0, 0, 0, 0, 0, 0), (151, .goto (-31), 3, 120, 0, 0, 0, 0, 0), (154, .iload_n 1, 1, 0, 0, 0, 0, 0, 0), (155, .ireturn, 1, 0, 0, 0, 0, 0, 0)]
set_option maxRecDepth 100000 in
theorem jk_X12_unsort : ji_X12_unsort.all (jck 260) = true := by decide +kernel
def ji_X12_count : List JI := [(0, .iload_n 1, 1, 0, 0, 0, 0, 0, 0), (1, .iconst 3, 1, 0, 0, 0, 0, 0, 0), (2, .if_icmp .ne 32, 3, 34, 0, 0, 0, 0, 0), (5, .iconst 0, 1, 0, 0, 0, 0, 0, 0), (6, .istore_n 2, 1, 0, 0, 0, 0, 0, 0), (7, .iconst 0, 1, 0, 0, 0, 0, 0, 0), (8, .istore_n 3, 1, 0, 0, 0, 0, 0, 0), (9, .iload_n 3, 1, 0, 0, 0, 0, 0, 0), (10, .aload_n 0, 1, 0, 0, 0, 0, 0, 0), (11, .getfield 135, 3, 3200, 0, 12, 1097, 0, 22), (14, .if_icmp .ge 18, 3, 32, 0, 0, 0, 0, 0), (17, .iload_n 2, 1, 0, 0, 0, 0, 0, 0), (18, .aload_n 0, 1, 0, 0, 0, 0, 0, 0), (19, .getfield 7, 3, 1301, 1, 12, 1098, 0, 22), (22, .iload_n 3, 1, 0, 0, 0, 0, 0, 0), (23, .iaload, 1, 0, 0, 0, 0, 0, 0), (24, .iadd, 1, 0, 0, 0, 0, 0, 0), (25, .istore_n 2, 1, 0, 0, 0, 0, 0, 0), (26, .iinc 3 1, 3, 0, 0, 0, 0, 0, 0), (29, .goto (-20), 3, 9, 0, 0, 0, 0, 0), (32, .iload_n 2, 1, 0, 0, 0, 0, 0, 0), (33, .ireturn, 1, 0, 0, 0, 0, 0, 0), (34, .iload_n 1, 1, 0, 0, 0, 0, 0, 0), (35, .ifCond .ne 10, 3, 45, 0, 0, 0, 0, 0), (38, .aload_n 0, 1, 0, 0, 0, 0, 0, 0), (39, .getfield 135, 3, 3200, 0, 12, 1097, 0, 22), (42, .goto 29, 3, 71, 0, 0, 0, 0, 0), (45, .iload_n 1, 1, 0, 0, 0, 0, 0, 0), (46, .iconst 1, 1, 0, 0, 0, 0, 0, 0), (47, .if_icmp .ne 10, 3, 57, 0, 0, 0, 0, 0), (50, .aload_n 0, 1, 0, 0, 0, 0, 0, 0), (51, .getfield 222, 3, 3210, 0, 12, 1107, 0, 22), (54, .goto 17, 3, 71, 0, 0, 0, 0, 0), (57, .iload_n 1, 1, 0, 0, 0, 0, 0, 0), (58, .iconst 2, 1, 0, 0, 0, 0, 0, 0), (59, .if_icmp .ne 10, 3, 69, 0, 0, 0, 0, 0), (62, .aload_n 0, 1, 0, 0, 0, 0, 0, 0), (63, .getfield 146, 3, 3203, 0, 12, 1100, 0, 22), (66, .goto 5, 3, 71, 0, 0, 0, 0, 0), (69, .bipush (-2), 2, 0, 0, 0, 0, 0, 0), (71, .ireturn, 1, 0, 0, 0, 0, 0, 0)]
set_option maxRecDepth 100000 in
theorem jk_X12_count : ji_X12_count.all (jck 261) = true := by decide +kernel
end
section
/-! cuts, one behind the other -/
def JHC (G : JG) (x mc ms : Nat) (Q : Int → JM → Prop) (cut : JCut) : Prop := ∀ pc sl P, jcut cut pc = some (sl, P) → ∀ cells slots vs M, P cells slots vs M → vs.length = sl.length → J G x mc ms Q cells slots pc (sl.zip vs) [] M
theorem jcut_nil {G : JG} {x mc ms : Nat} {Q : Int → JM → Prop} : JHC G x mc ms Q [] := fun _ _ _ h => by cases h
theorem jcut_cons {G : JG} {x mc ms : Nat} {Q : Int → JM → Prop} {cut : JCut} {pc : Nat} {sl : List Nat} {P : Nat → Nat → List JV → JM → Prop} (h1 : ∀ cells slots vs M, P cells slots vs M → vs.length = sl.length → J G x mc ms Q cells slots pc (sl.zip vs) [] M) (h2 : JHC G x mc ms Q cut) : JHC G x mc ms Q ((pc, sl, P) :: cut) := by
  intro pc' sl' P' h
  unfold jcut at h
  split at h
  · rename_i e
    cases h
    dsimp only at e
    subst e
    exact h1
  · exact h2 pc' sl' P' h
end
section
theorem sg_X9_init_0 {G : JG} {mc ms : Nat} {Q : Int → JM → Prop} (v0 v1 : Int) (M : JM)
    (h : ¬ v0 ≤ 0 ∧ (0 ≤ (max v1 0) ∧ (max v1 0) ≤ 100000000 ∧ 0 + 1 ≤ mc ∧ 0 + Int.toNat (max v1 0) ≤ ms) ∧ (jnew M 1 (max v1 0)) 0 v0 0 = 19 ∧ (0 + 1) ≤ mc ∧ (0 + Int.toNat (max v1 0)) ≤ ms ∧ Q 0 (jset (jnew M 1 (max v1 0)) 1000 v0 0 (M 4 0 0))) :
    J G 83 mc ms Q 0 0 0 [(0, 1, v0), (1, 0, v1)] [] M :=
  jwp_sound (code := ji_X9_init) (cut := []) jk_X9_init jcut_nil 12 true 0 0 0 [(0, 1, v0), (1, 0, v1)] [] M h
theorem sg_X9_hasPlace_0 {G : JG} {mc ms : Nat} {Q : Int → JM → Prop} (v0 v1 : Int) (M : JM)
    (h : ((v1 < 0 → ((0 : Int) = 0 ∨ (0 : Int) = 1) ∧ Q 0 M) ∧ (¬ v1 < 0 → M 0 v0 0 = 19 ∧ (((M 2901 v0 0) ≤ v1 → ((0 : Int) = 0 ∨ (0 : Int) = 1) ∧ Q 0 M) ∧ (¬ (M 2901 v0 0) ≤ v1 → ((1 : Int) = 0 ∨ (1 : Int) = 1) ∧ Q 1 M))))) :
    J G 84 mc ms Q 0 0 0 [(0, 1, v0), (1, 0, v1)] [] M :=
  jwp_sound (code := ji_X9_hasPlace) (cut := []) jk_X9_hasPlace jcut_nil 12 true 0 0 0 [(0, 1, v0), (1, 0, v1)] [] M h
theorem sg_X9_hasPart_0 {G : JG} {mc ms : Nat} {Q : Int → JM → Prop} (v0 v1 v2 : Int) (M : JM)
    (h : ((v1 < 0 → ((0 : Int) = 0 ∨ (0 : Int) = 1) ∧ Q 0 M) ∧ (¬ v1 < 0 → ((v2 < v1 → ((0 : Int) = 0 ∨ (0 : Int) = 1) ∧ Q 0 M) ∧ (¬ v2 < v1 → M 0 v0 0 = 19 ∧ (((M 2901 v0 0) < v2 → ((0 : Int) = 0 ∨ (0 : Int) = 1) ∧ Q 0 M) ∧ (¬ (M 2901 v0 0) < v2 → ((1 : Int) = 0 ∨ (1 : Int) = 1) ∧ Q 1 M))))))) :
    J G 85 mc ms Q 0 0 0 [(0, 1, v0), (1, 0, v1), (2, 0, v2)] [] M :=
  jwp_sound (code := ji_X9_hasPart) (cut := []) jk_X9_hasPart jcut_nil 15 true 0 0 0 [(0, 1, v0), (1, 0, v1), (2, 0, v2)] [] M h
theorem sg_X9_hasSome_0 {G : JG} {mc ms : Nat} {Q : Int → JM → Prop} (v0 v1 v2 : Int) (M : JM)
    (h : ((v1 < 0 → ((0 : Int) = 0 ∨ (0 : Int) = 1) ∧ Q 0 M) ∧ (¬ v1 < 0 → ((v2 < 0 → ((0 : Int) = 0 ∨ (0 : Int) = 1) ∧ Q 0 M) ∧ (¬ v2 < 0 → M 0 v0 0 = 19 ∧ (((M 2901 v0 0) < v1 → ((0 : Int) = 0 ∨ (0 : Int) = 1) ∧ Q 0 M) ∧ (¬ (M 2901 v0 0) < v1 → M 0 v0 0 = 19 ∧ jR ((M 2901 v0 0) - v1) ∧ ((((M 2901 v0 0) - v1) < v2 → ((0 : Int) = 0 ∨ (0 : Int) = 1) ∧ Q 0 M) ∧ (¬ ((M 2901 v0 0) - v1) < v2 → ((1 : Int) = 0 ∨ (1 : Int) = 1) ∧ Q 1 M))))))))) :
    J G 86 mc ms Q 0 0 0 [(0, 1, v0), (1, 0, v1), (2, 0, v2)] [] M :=
  jwp_sound (code := ji_X9_hasSome) (cut := []) jk_X9_hasSome jcut_nil 20 true 0 0 0 [(0, 1, v0), (1, 0, v1), (2, 0, v2)] [] M h
theorem sg_X9_room_0 {G : JG} {mc ms : Nat} {Q : Int → JM → Prop} (v0 : Int) (M : JM)
    (h : M 0 v0 0 = 19 ∧ (M 0 (M 1000 v0 0) 0 = 1 ∨ M 0 (M 1000 v0 0) 0 = 2 ∨ M 0 (M 1000 v0 0) 0 = 3 ∨ M 0 (M 1000 v0 0) 0 = 4) ∧ M 0 v0 0 = 19 ∧ jR ((M 1 (M 1000 v0 0) 0) - (M 2901 v0 0)) ∧ Q ((M 1 (M 1000 v0 0) 0) - (M 2901 v0 0)) M) :
    J G 87 mc ms Q 0 0 0 [(0, 1, v0)] [] M :=
  jwp_sound (code := ji_X9_room) (cut := []) jk_X9_room jcut_nil 10 true 0 0 0 [(0, 1, v0)] [] M h
theorem sg_X9_put_0 {G : JG} {mc ms : Nat} {Q : Int → JM → Prop} (v0 v1 : Int) (M : JM)
    (h : M 0 v0 0 = 19 ∧ M 0 v0 0 = 19 ∧ (M 0 (M 1000 v0 0) 0 = 1 ∨ M 0 (M 1000 v0 0) 0 = 2 ∨ M 0 (M 1000 v0 0) 0 = 3 ∨ M 0 (M 1000 v0 0) 0 = 4) ∧ (((M 1 (M 1000 v0 0) 0) ≤ (M 2901 v0 0) → Q 0 M) ∧ (¬ (M 1 (M 1000 v0 0) 0) ≤ (M 2901 v0 0) → M 0 v0 0 = 19 ∧ M 0 v0 0 = 19 ∧ (M 0 (M 1000 v0 0) 0 = 1 ∧ 0 ≤ (M 2901 v0 0) ∧ (M 2901 v0 0) < M 1 (M 1000 v0 0) 0) ∧ (jset M 2 (M 1000 v0 0) (M 2901 v0 0) v1) 0 v0 0 = 19 ∧ jR (((jset M 2 (M 1000 v0 0) (M 2901 v0 0) v1) 2901 v0 0) + 1) ∧ (jset M 2 (M 1000 v0 0) (M 2901 v0 0) v1) 0 v0 0 = 19 ∧ Q 0 (jset (jset M 2 (M 1000 v0 0) (M 2901 v0 0) v1) 2901 v0 0 (((jset M 2 (M 1000 v0 0) (M 2901 v0 0) v1) 2901 v0 0) + 1))))) :
    J G 88 mc ms Q 0 0 0 [(0, 1, v0), (1, 0, v1)] [] M :=
  jwp_sound (code := ji_X9_put) (cut := []) jk_X9_put jcut_nil 22 true 0 0 0 [(0, 1, v0), (1, 0, v1)] [] M h
theorem sg_X9_putPoint_0 {G : JG} {mc ms : Nat} {Q : Int → JM → Prop} (v0 v1 : Int) (M : JM)
    (h : ((65535 < v1 → jR (v1 - 65536) ∧ jR (55296 + (jshr (v1 - 65536) 10)) ∧ M 0 v0 0 = 19 ∧ Runs G 88 0 0 [(1, v0), (0, 55296 + (jshr (v1 - 65536) 10))] M (fun _ M1 => jokM M1 → jR (56320 + (jand (v1 - 65536) 1023)) ∧ M1 0 v0 0 = 19 ∧ Runs G 88 0 0 [(1, v0), (0, 56320 + (jand (v1 - 65536) 1023))] M1 (fun _ M2 => jokM M2 → Q 0 M2))) ∧ (¬ 65535 < v1 → M 0 v0 0 = 19 ∧ Runs G 88 0 0 [(1, v0), (0, v1)] M (fun _ M3 => jokM M3 → Q 0 M3)))) :
    J G 89 mc ms Q 0 0 0 [(0, 1, v0), (1, 0, v1)] [] M :=
  jwp_sound (code := ji_X9_putPoint) (cut := []) jk_X9_putPoint jcut_nil 25 true 0 0 0 [(0, 1, v0), (1, 0, v1)] [] M h
theorem sg_X9_putPart_0 {G : JG} {mc ms : Nat} {Q : Int → JM → Prop} (v0 v1 v2 v3 : Int) (M : JM)
    (h : M 0 v1 0 = 19 ∧ Runs G 85 0 0 [(1, v1), (0, v2), (0, v3)] M (fun r1 M1 => jokM M1 → ((r1 = 0 → Q 0 M1) ∧ (¬ r1 = 0 → M1 0 v0 0 = 19 ∧ Runs G 87 0 0 [(1, v0)] M1 (fun r2 M2 => jokM M2 → jR (v3 - v2) ∧ ((r2 < (v3 - v2) → Q 0 M2) ∧ (¬ r2 < (v3 - v2) → M2 0 v1 0 = 19 ∧ M2 0 v0 0 = 19 ∧ M2 0 v0 0 = 19 ∧ jR (v3 - v2) ∧ (M2 0 (M2 1000 v1 0) 0 = 1 ∧ M2 0 (M2 1000 v0 0) 0 = 1 ∧ 0 ≤ v2 ∧ 0 ≤ (M2 2901 v0 0) ∧ 0 ≤ (v3 - v2) ∧ v2 + (v3 - v2) ≤ M2 1 (M2 1000 v1 0) 0 ∧ (M2 2901 v0 0) + (v3 - v2) ≤ M2 1 (M2 1000 v0 0) 0) ∧ (jcpy M2 (M2 1000 v1 0) v2 (M2 1000 v0 0) (M2 2901 v0 0) (v3 - v2)) 0 v0 0 = 19 ∧ jR (v3 - v2) ∧ jR (((jcpy M2 (M2 1000 v1 0) v2 (M2 1000 v0 0) (M2 2901 v0 0) (v3 - v2)) 2901 v0 0) + (v3 - v2)) ∧ (jcpy M2 (M2 1000 v1 0) v2 (M2 1000 v0 0) (M2 2901 v0 0) (v3 - v2)) 0 v0 0 = 19 ∧ Q 0 (jset (jcpy M2 (M2 1000 v1 0) v2 (M2 1000 v0 0) (M2 2901 v0 0) (v3 - v2)) 2901 v0 0 (((jcpy M2 (M2 1000 v1 0) v2 (M2 1000 v0 0) (M2 2901 v0 0) (v3 - v2)) 2901 v0 0) + (v3 - v2)))))))))) :
    J G 90 mc ms Q 0 0 0 [(0, 1, v0), (1, 1, v1), (2, 0, v2), (3, 0, v3)] [] M :=
  jwp_sound (code := ji_X9_putPart) (cut := []) jk_X9_putPart jcut_nil 34 true 0 0 0 [(0, 1, v0), (1, 1, v1), (2, 0, v2), (3, 0, v3)] [] M h
theorem sg_X9_putAhead_0 {G : JG} {mc ms : Nat} {Q : Int → JM → Prop} (v0 v1 v2 : Int) (M : JM)
    (h : ((v1 < 0 → Q 0 M) ∧ (¬ v1 < 0 → M 0 v0 0 = 19 ∧ (((M 2901 v0 0) < v1 → Q 0 M) ∧ (¬ (M 2901 v0 0) < v1 → M 0 v0 0 = 19 ∧ Runs G 87 0 0 [(1, v0)] M (fun r1 M1 => jokM M1 → ((r1 ≤ 0 → Q 0 M1) ∧ (¬ r1 ≤ 0 → M1 0 v0 0 = 19 ∧ M1 0 v0 0 = 19 ∧ jR (v1 + 1) ∧ M1 0 v0 0 = 19 ∧ jR ((M1 2901 v0 0) - v1) ∧ (M1 0 (M1 1000 v0 0) 0 = 1 ∧ M1 0 (M1 1000 v0 0) 0 = 1 ∧ 0 ≤ v1 ∧ 0 ≤ (v1 + 1) ∧ 0 ≤ ((M1 2901 v0 0) - v1) ∧ v1 + ((M1 2901 v0 0) - v1) ≤ M1 1 (M1 1000 v0 0) 0 ∧ (v1 + 1) + ((M1 2901 v0 0) - v1) ≤ M1 1 (M1 1000 v0 0) 0) ∧ (jcpy M1 (M1 1000 v0 0) v1 (M1 1000 v0 0) (v1 + 1) ((M1 2901 v0 0) - v1)) 0 v0 0 = 19 ∧ ((jcpy M1 (M1 1000 v0 0) v1 (M1 1000 v0 0) (v1 + 1) ((M1 2901 v0 0) - v1)) 0 ((jcpy M1 (M1 1000 v0 0) v1 (M1 1000 v0 0) (v1 + 1) ((M1 2901 v0 0) - v1)) 1000 v0 0) 0 = 1 ∧ 0 ≤ v1 ∧ v1 < (jcpy M1 (M1 1000 v0 0) v1 (M1 1000 v0 0) (v1 + 1) ((M1 2901 v0 0) - v1)) 1 ((jcpy M1 (M1 1000 v0 0) v1 (M1 1000 v0 0) (v1 + 1) ((M1 2901 v0 0) - v1)) 1000 v0 0) 0) ∧ (jset (jcpy M1 (M1 1000 v0 0) v1 (M1 1000 v0 0) (v1 + 1) ((M1 2901 v0 0) - v1)) 2 ((jcpy M1 (M1 1000 v0 0) v1 (M1 1000 v0 0) (v1 + 1) ((M1 2901 v0 0) - v1)) 1000 v0 0) v1 v2) 0 v0 0 = 19 ∧ jR (((jset (jcpy M1 (M1 1000 v0 0) v1 (M1 1000 v0 0) (v1 + 1) ((M1 2901 v0 0) - v1)) 2 ((jcpy M1 (M1 1000 v0 0) v1 (M1 1000 v0 0) (v1 + 1) ((M1 2901 v0 0) - v1)) 1000 v0 0) v1 v2) 2901 v0 0) + 1) ∧ (jset (jcpy M1 (M1 1000 v0 0) v1 (M1 1000 v0 0) (v1 + 1) ((M1 2901 v0 0) - v1)) 2 ((jcpy M1 (M1 1000 v0 0) v1 (M1 1000 v0 0) (v1 + 1) ((M1 2901 v0 0) - v1)) 1000 v0 0) v1 v2) 0 v0 0 = 19 ∧ Q 0 (jset (jset (jcpy M1 (M1 1000 v0 0) v1 (M1 1000 v0 0) (v1 + 1) ((M1 2901 v0 0) - v1)) 2 ((jcpy M1 (M1 1000 v0 0) v1 (M1 1000 v0 0) (v1 + 1) ((M1 2901 v0 0) - v1)) 1000 v0 0) v1 v2) 2901 v0 0 (((jset (jcpy M1 (M1 1000 v0 0) v1 (M1 1000 v0 0) (v1 + 1) ((M1 2901 v0 0) - v1)) 2 ((jcpy M1 (M1 1000 v0 0) v1 (M1 1000 v0 0) (v1 + 1) ((M1 2901 v0 0) - v1)) 1000 v0 0) v1 v2) 2901 v0 0) + 1)))))))))) :
    J G 91 mc ms Q 0 0 0 [(0, 1, v0), (1, 0, v1), (2, 0, v2)] [] M :=
  jwp_sound (code := ji_X9_putAhead) (cut := []) jk_X9_putAhead jcut_nil 37 true 0 0 0 [(0, 1, v0), (1, 0, v1), (2, 0, v2)] [] M h
theorem sg_X9_drop_0 {G : JG} {mc ms : Nat} {Q : Int → JM → Prop} (v0 v1 v2 : Int) (M : JM)
    (h : M 0 v0 0 = 19 ∧ Runs G 86 0 0 [(1, v0), (0, v1), (0, v2)] M (fun r1 M1 => jokM M1 → ((r1 = 0 → Q 0 M1) ∧ (¬ r1 = 0 → M1 0 v0 0 = 19 ∧ jR (v1 + v2) ∧ M1 0 v0 0 = 19 ∧ M1 0 v0 0 = 19 ∧ jR ((M1 2901 v0 0) - v1) ∧ jR (((M1 2901 v0 0) - v1) - v2) ∧ (M1 0 (M1 1000 v0 0) 0 = 1 ∧ M1 0 (M1 1000 v0 0) 0 = 1 ∧ 0 ≤ (v1 + v2) ∧ 0 ≤ v1 ∧ 0 ≤ (((M1 2901 v0 0) - v1) - v2) ∧ (v1 + v2) + (((M1 2901 v0 0) - v1) - v2) ≤ M1 1 (M1 1000 v0 0) 0 ∧ v1 + (((M1 2901 v0 0) - v1) - v2) ≤ M1 1 (M1 1000 v0 0) 0) ∧ (jcpy M1 (M1 1000 v0 0) (v1 + v2) (M1 1000 v0 0) v1 (((M1 2901 v0 0) - v1) - v2)) 0 v0 0 = 19 ∧ jR (((jcpy M1 (M1 1000 v0 0) (v1 + v2) (M1 1000 v0 0) v1 (((M1 2901 v0 0) - v1) - v2)) 2901 v0 0) - v2) ∧ (jcpy M1 (M1 1000 v0 0) (v1 + v2) (M1 1000 v0 0) v1 (((M1 2901 v0 0) - v1) - v2)) 0 v0 0 = 19 ∧ Q 0 (jset (jcpy M1 (M1 1000 v0 0) (v1 + v2) (M1 1000 v0 0) v1 (((M1 2901 v0 0) - v1) - v2)) 2901 v0 0 (((jcpy M1 (M1 1000 v0 0) (v1 + v2) (M1 1000 v0 0) v1 (((M1 2901 v0 0) - v1) - v2)) 2901 v0 0) - v2)))))) :
    J G 92 mc ms Q 0 0 0 [(0, 1, v0), (1, 0, v1), (2, 0, v2)] [] M :=
  jwp_sound (code := ji_X9_drop) (cut := []) jk_X9_drop jcut_nil 30 true 0 0 0 [(0, 1, v0), (1, 0, v1), (2, 0, v2)] [] M h
theorem sg_X9_become_0 {G : JG} {mc ms : Nat} {Q : Int → JM → Prop} (v0 v1 : Int) (M : JM)
    (h : M 0 v0 0 = 19 ∧ (jset M 2901 v0 0 0) 0 v1 0 = 19 ∧ (jset M 2901 v0 0 0) 0 v0 0 = 19 ∧ Runs G 90 0 0 [(1, v0), (1, v1), (0, 0), (0, (jset M 2901 v0 0 0) 2901 v1 0)] (jset M 2901 v0 0 0) (fun _ M1 => jokM M1 → Q 0 M1)) :
    J G 93 mc ms Q 0 0 0 [(0, 1, v0), (1, 1, v1)] [] M :=
  jwp_sound (code := ji_X9_become) (cut := []) jk_X9_become jcut_nil 13 true 0 0 0 [(0, 1, v0), (1, 1, v1)] [] M h
theorem sg_X9_isPair_0 {G : JG} {mc ms : Nat} {Q : Int → JM → Prop} (v0 v1 : Int) (M : JM)
    (h : ((v1 < 0 → ((0 : Int) = 0 ∨ (0 : Int) = 1) ∧ Q 0 M) ∧ (¬ v1 < 0 → jR (v1 + 1) ∧ M 0 v0 0 = 19 ∧ (((M 2901 v0 0) ≤ (v1 + 1) → ((0 : Int) = 0 ∨ (0 : Int) = 1) ∧ Q 0 M) ∧ (¬ (M 2901 v0 0) ≤ (v1 + 1) → M 0 v0 0 = 19 ∧ (M 0 (M 1000 v0 0) 0 = 1 ∧ 0 ≤ v1 ∧ v1 < M 1 (M 1000 v0 0) 0) ∧ (((M 2 (M 1000 v0 0) v1) < 55296 → ((0 : Int) = 0 ∨ (0 : Int) = 1) ∧ Q 0 M) ∧ (¬ (M 2 (M 1000 v0 0) v1) < 55296 → M 0 v0 0 = 19 ∧ (M 0 (M 1000 v0 0) 0 = 1 ∧ 0 ≤ v1 ∧ v1 < M 1 (M 1000 v0 0) 0) ∧ ((56319 < (M 2 (M 1000 v0 0) v1) → ((0 : Int) = 0 ∨ (0 : Int) = 1) ∧ Q 0 M) ∧ (¬ 56319 < (M 2 (M 1000 v0 0) v1) → M 0 v0 0 = 19 ∧ jR (v1 + 1) ∧ (M 0 (M 1000 v0 0) 0 = 1 ∧ 0 ≤ (v1 + 1) ∧ (v1 + 1) < M 1 (M 1000 v0 0) 0) ∧ (((M 2 (M 1000 v0 0) (v1 + 1)) < 56320 → ((0 : Int) = 0 ∨ (0 : Int) = 1) ∧ Q 0 M) ∧ (¬ (M 2 (M 1000 v0 0) (v1 + 1)) < 56320 → M 0 v0 0 = 19 ∧ jR (v1 + 1) ∧ (M 0 (M 1000 v0 0) 0 = 1 ∧ 0 ≤ (v1 + 1) ∧ (v1 + 1) < M 1 (M 1000 v0 0) 0) ∧ ((57343 < (M 2 (M 1000 v0 0) (v1 + 1)) → ((0 : Int) = 0 ∨ (0 : Int) = 1) ∧ Q 0 M) ∧ (¬ 57343 < (M 2 (M 1000 v0 0) (v1 + 1)) → ((1 : Int) = 0 ∨ (1 : Int) = 1) ∧ Q 1 M))))))))))))) :
    J G 94 mc ms Q 0 0 0 [(0, 1, v0), (1, 0, v1)] [] M :=
  jwp_sound (code := ji_X9_isPair) (cut := []) jk_X9_isPair jcut_nil 42 true 0 0 0 [(0, 1, v0), (1, 0, v1)] [] M h
theorem sg_X9_pointFrom_0 {G : JG} {mc ms : Nat} {Q : Int → JM → Prop} (v0 v1 : Int) (M : JM)
    (h : M 0 v0 0 = 19 ∧ Runs G 94 0 0 [(1, v0), (0, v1)] M (fun r1 M1 => jokM M1 → ((r1 = 0 → M1 0 v0 0 = 19 ∧ Runs G 84 0 0 [(1, v0), (0, v1)] M1 (fun r2 M2 => jokM M2 → ((r2 = 0 → Q (-1) M2) ∧ (¬ r2 = 0 → M2 0 v0 0 = 19 ∧ (M2 0 (M2 1000 v0 0) 0 = 1 ∧ 0 ≤ v1 ∧ v1 < M2 1 (M2 1000 v0 0) 0) ∧ Q (M2 2 (M2 1000 v0 0) v1) M2)))) ∧ (¬ r1 = 0 → M1 0 v0 0 = 19 ∧ (M1 0 (M1 1000 v0 0) 0 = 1 ∧ 0 ≤ v1 ∧ v1 < M1 1 (M1 1000 v0 0) 0) ∧ jR ((M1 2 (M1 1000 v0 0) v1) - 55296) ∧ jR (65536 + (jshl ((M1 2 (M1 1000 v0 0) v1) - 55296) 10)) ∧ M1 0 v0 0 = 19 ∧ jR (v1 + 1) ∧ (M1 0 (M1 1000 v0 0) 0 = 1 ∧ 0 ≤ (v1 + 1) ∧ (v1 + 1) < M1 1 (M1 1000 v0 0) 0) ∧ jR ((M1 2 (M1 1000 v0 0) (v1 + 1)) - 56320) ∧ jR ((65536 + (jshl ((M1 2 (M1 1000 v0 0) v1) - 55296) 10)) + ((M1 2 (M1 1000 v0 0) (v1 + 1)) - 56320)) ∧ Q ((65536 + (jshl ((M1 2 (M1 1000 v0 0) v1) - 55296) 10)) + ((M1 2 (M1 1000 v0 0) (v1 + 1)) - 56320)) M1)))) :
    J G 95 mc ms Q 0 0 0 [(0, 1, v0), (1, 0, v1)] [] M :=
  jwp_sound (code := ji_X9_pointFrom) (cut := []) jk_X9_pointFrom jcut_nil 27 true 0 0 0 [(0, 1, v0), (1, 0, v1)] [] M h
theorem sg_X9_isHalf_0 {G : JG} {mc ms : Nat} {Q : Int → JM → Prop} (v0 v1 : Int) (M : JM)
    (h : M 0 v0 0 = 19 ∧ Runs G 84 0 0 [(1, v0), (0, v1)] M (fun r1 M1 => jokM M1 → ((r1 = 0 → ((0 : Int) = 0 ∨ (0 : Int) = 1) ∧ Q 0 M1) ∧ (¬ r1 = 0 → M1 0 v0 0 = 19 ∧ (M1 0 (M1 1000 v0 0) 0 = 1 ∧ 0 ≤ v1 ∧ v1 < M1 1 (M1 1000 v0 0) 0) ∧ (((M1 2 (M1 1000 v0 0) v1) < 55296 → ((0 : Int) = 0 ∨ (0 : Int) = 1) ∧ Q 0 M1) ∧ (¬ (M1 2 (M1 1000 v0 0) v1) < 55296 → M1 0 v0 0 = 19 ∧ (M1 0 (M1 1000 v0 0) 0 = 1 ∧ 0 ≤ v1 ∧ v1 < M1 1 (M1 1000 v0 0) 0) ∧ ((57343 < (M1 2 (M1 1000 v0 0) v1) → ((0 : Int) = 0 ∨ (0 : Int) = 1) ∧ Q 0 M1) ∧ (¬ 57343 < (M1 2 (M1 1000 v0 0) v1) → ((1 : Int) = 0 ∨ (1 : Int) = 1) ∧ Q 1 M1)))))))) :
    J G 96 mc ms Q 0 0 0 [(0, 1, v0), (1, 0, v1)] [] M :=
  jwp_sound (code := ji_X9_isHalf) (cut := []) jk_X9_isHalf jcut_nil 22 true 0 0 0 [(0, 1, v0), (1, 0, v1)] [] M h
theorem sg_X9_against_0 {G : JG} {mc ms : Nat} {Q : Int → JM → Prop} {C2 : Int → Int → Int → JM → Prop} (h2 : ∀ v0 v1 v2 M, C2 v0 v1 v2 M → J G 97 mc ms Q 0 0 2 [(0, 1, v0), (1, 1, v1), (2, 0, v2)] [] M) (v0 v1 : Int) (M : JM)
    (h : C2 v0 v1 0 M) :
    J G 97 mc ms Q 0 0 0 [(0, 1, v0), (1, 1, v1)] [] M :=
  jwp_sound (code := ji_X9_against) (cut := [(2, [0, 1, 2], fun c s vs M => match c, s, vs with | 0, 0, [(1, v0), (1, v1), (0, v2)] => C2 v0 v1 v2 M | _, _, _ => False)]) jk_X9_against (jcut_cons (fun c s vs M hp _ => by (try dsimp only at hp); split at hp; exact h2 _ _ _ _ hp; exact hp.elim) jcut_nil) 6 true 0 0 0 [(0, 1, v0), (1, 1, v1)] [] M h
theorem sg_X9_against_2 {G : JG} {mc ms : Nat} {Q : Int → JM → Prop} {C2 : Int → Int → Int → JM → Prop} (h2 : ∀ v0 v1 v2 M, C2 v0 v1 v2 M → J G 97 mc ms Q 0 0 2 [(0, 1, v0), (1, 1, v1), (2, 0, v2)] [] M) (v0 v1 v2 : Int) (M : JM)
    (h : M 0 v0 0 = 19 ∧ (((M 2901 v0 0) ≤ v2 → M 0 v0 0 = 19 ∧ Runs G 99 0 0 [(1, v0), (1, v1)] M (fun r1 M1 => jokM M1 → Q r1 M1)) ∧ (¬ (M 2901 v0 0) ≤ v2 → M 0 v1 0 = 19 ∧ (((M 2901 v1 0) ≤ v2 → M 0 v0 0 = 19 ∧ Runs G 99 0 0 [(1, v0), (1, v1)] M (fun r2 M2 => jokM M2 → Q r2 M2)) ∧ (¬ (M 2901 v1 0) ≤ v2 → M 0 v0 0 = 19 ∧ (M 0 (M 1000 v0 0) 0 = 1 ∧ 0 ≤ v2 ∧ v2 < M 1 (M 1000 v0 0) 0) ∧ M 0 v1 0 = 19 ∧ (M 0 (M 1000 v1 0) 0 = 1 ∧ 0 ≤ v2 ∧ v2 < M 1 (M 1000 v1 0) 0) ∧ (((M 2 (M 1000 v0 0) v2) = (M 2 (M 1000 v1 0) v2) → jR (v2 + 1) ∧ C2 v0 v1 (v2 + 1) M) ∧ (¬ (M 2 (M 1000 v0 0) v2) = (M 2 (M 1000 v1 0) v2) → M 0 v0 0 = 19 ∧ (M 0 (M 1000 v0 0) 0 = 1 ∧ 0 ≤ v2 ∧ v2 < M 1 (M 1000 v0 0) 0) ∧ M 0 v1 0 = 19 ∧ (M 0 (M 1000 v1 0) 0 = 1 ∧ 0 ≤ v2 ∧ v2 < M 1 (M 1000 v1 0) 0) ∧ (((M 2 (M 1000 v1 0) v2) ≤ (M 2 (M 1000 v0 0) v2) → Q 1 M) ∧ (¬ (M 2 (M 1000 v1 0) v2) ≤ (M 2 (M 1000 v0 0) v2) → Q (-1) M))))))))) :
    J G 97 mc ms Q 0 0 2 [(0, 1, v0), (1, 1, v1), (2, 0, v2)] [] M :=
  jwp_sound (code := ji_X9_against) (cut := [(2, [0, 1, 2], fun c s vs M => match c, s, vs with | 0, 0, [(1, v0), (1, v1), (0, v2)] => C2 v0 v1 v2 M | _, _, _ => False)]) jk_X9_against (jcut_cons (fun c s vs M hp _ => by (try dsimp only at hp); split at hp; exact h2 _ _ _ _ hp; exact hp.elim) jcut_nil) 32 true 0 0 2 [(0, 1, v0), (1, 1, v1), (2, 0, v2)] [] M h
theorem sg_X9_againstByPoints_0 {G : JG} {mc ms : Nat} {Q : Int → JM → Prop} {C2 : Int → Int → Int → JM → Prop} (h2 : ∀ v0 v1 v2 M, C2 v0 v1 v2 M → J G 98 mc ms Q 0 0 2 [(0, 1, v0), (1, 1, v1), (2, 0, v2)] [] M) (v0 v1 : Int) (M : JM)
    (h : C2 v0 v1 0 M) :
    J G 98 mc ms Q 0 0 0 [(0, 1, v0), (1, 1, v1)] [] M :=
  jwp_sound (code := ji_X9_againstByPoints) (cut := [(2, [0, 1, 2], fun c s vs M => match c, s, vs with | 0, 0, [(1, v0), (1, v1), (0, v2)] => C2 v0 v1 v2 M | _, _, _ => False)]) jk_X9_againstByPoints (jcut_cons (fun c s vs M hp _ => by (try dsimp only at hp); split at hp; exact h2 _ _ _ _ hp; exact hp.elim) jcut_nil) 6 true 0 0 0 [(0, 1, v0), (1, 1, v1)] [] M h
theorem sg_X9_againstByPoints_2 {G : JG} {mc ms : Nat} {Q : Int → JM → Prop} {C2 : Int → Int → Int → JM → Prop} (h2 : ∀ v0 v1 v2 M, C2 v0 v1 v2 M → J G 98 mc ms Q 0 0 2 [(0, 1, v0), (1, 1, v1), (2, 0, v2)] [] M) (v0 v1 v2 : Int) (M : JM)
    (h : M 0 v0 0 = 19 ∧ (((M 2901 v0 0) ≤ v2 → M 0 v0 0 = 19 ∧ Runs G 99 0 0 [(1, v0), (1, v1)] M (fun r1 M1 => jokM M1 → Q r1 M1)) ∧ (¬ (M 2901 v0 0) ≤ v2 → M 0 v1 0 = 19 ∧ (((M 2901 v1 0) ≤ v2 → M 0 v0 0 = 19 ∧ Runs G 99 0 0 [(1, v0), (1, v1)] M (fun r2 M2 => jokM M2 → Q r2 M2)) ∧ (¬ (M 2901 v1 0) ≤ v2 → M 0 v0 0 = 19 ∧ Runs G 95 0 0 [(1, v0), (0, v2)] M (fun r3 M3 => jokM M3 → M3 0 v1 0 = 19 ∧ Runs G 95 0 0 [(1, v1), (0, v2)] M3 (fun r4 M4 => jokM M4 → ((r3 = r4 → M4 0 v0 0 = 19 ∧ Runs G 94 0 0 [(1, v0), (0, v2)] M4 (fun r5 M5 => jokM M5 → ((r5 = 0 → jR (v2 + 1) ∧ C2 v0 v1 (v2 + 1) M5) ∧ (¬ r5 = 0 → jR (v2 + 1) ∧ jR ((v2 + 1) + 1) ∧ C2 v0 v1 ((v2 + 1) + 1) M5)))) ∧ (¬ r3 = r4 → ((r4 ≤ r3 → Q 1 M4) ∧ (¬ r4 ≤ r3 → Q (-1) M4))))))))))) :
    J G 98 mc ms Q 0 0 2 [(0, 1, v0), (1, 1, v1), (2, 0, v2)] [] M :=
  jwp_sound (code := ji_X9_againstByPoints) (cut := [(2, [0, 1, 2], fun c s vs M => match c, s, vs with | 0, 0, [(1, v0), (1, v1), (0, v2)] => C2 v0 v1 v2 M | _, _, _ => False)]) jk_X9_againstByPoints (jcut_cons (fun c s vs M hp _ => by (try dsimp only at hp); split at hp; exact h2 _ _ _ _ hp; exact hp.elim) jcut_nil) 30 true 0 0 2 [(0, 1, v0), (1, 1, v1), (2, 0, v2)] [] M h
theorem sg_X9_bySize_0 {G : JG} {mc ms : Nat} {Q : Int → JM → Prop} (v0 v1 : Int) (M : JM)
    (h : M 0 v0 0 = 19 ∧ M 0 v1 0 = 19 ∧ ((¬ (M 2901 v0 0) = (M 2901 v1 0) → M 0 v0 0 = 19 ∧ M 0 v1 0 = 19 ∧ (((M 2901 v1 0) ≤ (M 2901 v0 0) → Q 1 M) ∧ (¬ (M 2901 v1 0) ≤ (M 2901 v0 0) → Q (-1) M))) ∧ (¬ (¬ (M 2901 v0 0) = (M 2901 v1 0)) → Q 0 M))) :
    J G 99 mc ms Q 0 0 0 [(0, 1, v0), (1, 1, v1)] [] M :=
  jwp_sound (code := ji_X9_bySize) (cut := []) jk_X9_bySize jcut_nil 16 true 0 0 0 [(0, 1, v0), (1, 1, v1)] [] M h
end
