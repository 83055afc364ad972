/-! the world behind both constructors, and what of it never changes -/
def PF : List PC := pModel (pAtlas [pnew 21 0] 0 ++ [pnew 22 0]) 218
def pck (l : List PC) (i : Nat) (t n : Int) (refs : List (Nat × Int)) (els : List (Int × Int)) : Bool := match l[i]? with
  | some c => decide (c.1 = t) && decide (c.2.1 = n) && refs.all (fun q => decide (plk c.2.2.1 q.1 = some q.2)) && els.all (fun q => decide (plj c.2.2.2.2 q.1 = some q.2))
  | none => false
/-- what never changes: kinds, lengths, references (but for the two that are made when first needed) -/
def WSt (X : Int) (M : JM) : Prop := ∀ (i : Nat) (c : PC), PF[i]? = some c → M 0 (X + i) 0 = c.1 ∧ M 1 (X + i) 0 = c.2.1 ∧ (∀ k, 100 ≤ k → k < 2000 → k ≠ 1212 → k ≠ 1213 → M k (X + i) 0 = pfld X c k) ∧ ∀ j, M 3 (X + i) j = pelm X c j
theorem WSt.of {M M0 : JM} {X : Int} (h : Has M M0 X PF) : WSt X M := fun i c hi => by
  obtain ⟨h1, h2, h3, h4, h5⟩ := h.at hi
  exact ⟨h1, h2, fun k hk _ _ _ => h3 k hk, h5⟩
def Sta (X : Int) (M M' : JM) : Prop := ∀ k a j, X ≤ a → a < X + 258 → (k = 0 ∨ k = 1 ∨ k = 3 ∨ (100 ≤ k ∧ k < 2000 ∧ k ≠ 1212 ∧ k ≠ 1213)) → M' k a j = M k a j
theorem WSt.get {M : JM} {X : Int} (h : WSt X M) {i : Nat} {t n : Int} {refs : List (Nat × Int)} {els : List (Int × Int)} (hc : pck PF i t n refs els = true) : M 0 (X + i) 0 = t ∧ M 1 (X + i) 0 = n ∧ (∀ q ∈ refs, 100 ≤ q.1 → q.1 < 2000 → q.1 ≠ 1212 → q.1 ≠ 1213 → M q.1 (X + i) 0 = X + q.2) ∧ ∀ q ∈ els, M 3 (X + i) q.1 = X + q.2 := by
  unfold pck at hc
  split at hc
  · rename_i c hi
    simp only [Bool.and_eq_true, decide_eq_true_eq] at hc
    obtain ⟨⟨⟨e1, e2⟩, e3⟩, e4⟩ := hc
    obtain ⟨h1, h2, h3, h4⟩ := h i c hi
    refine ⟨h1.trans e1, h2.trans e2, fun q hq g1 g2 g3 g4 => ?_, fun q hq => ?_⟩
    · rw [h3 q.1 g1 g2 g3 g4]
      have := of_decide_eq_true (List.all_eq_true.mp e3 q hq)
      unfold pfld
      rw [this]
    · rw [h4 q.1]
      have := of_decide_eq_true (List.all_eq_true.mp e4 q hq)
      unfold pelm
      rw [this]
  · cases hc
set_option maxRecDepth 100000 in
theorem PF_len : PF.length = 258 := by decide +kernel
theorem WSt.keep {M M' : JM} {X : Int} (h : WSt X M) (hs : Sta X M M') : WSt X M' := fun i c hi => by
  have hlt : i < 258 := PF_len ▸ (List.getElem?_eq_some_iff.mp hi).1
  obtain ⟨h1, h2, h3, h4⟩ := h i c hi
  exact ⟨by rw [hs 0 _ _ (by omega) (by omega) (by omega)]; exact h1, by rw [hs 1 _ _ (by omega) (by omega) (by omega)]; exact h2, fun k g1 g2 g3 g4 => by rw [hs k _ _ (by omega) (by omega) (by omega)]; exact h3 k g1 g2 g3 g4, fun j => by rw [hs 3 _ _ (by omega) (by omega) (by omega)]; exact h4 j⟩
set_option maxRecDepth 100000 in
theorem pkb : (pck PF 0 21 0 [(1200, 1), (1201, 144), (1202, 155), (1203, 161), (1204, 164), (1205, 199), (1206, 204), (1207, 208), (1208, 210), (1209, 212), (1210, 214), (1211, 216)] [] && (pck PF 1 14 0 [(500, 2), (501, 3)] [] && (pck PF 2 3 40 [] [] && (pck PF 3 4 20 [] [] && (pck PF 144 18 0 [(902, 145), (903, 146), (904, 147), (900, 148), (901, 149), (905, 150), (906, 151), (907, 152), (908, 153), (909, 154)] [] && (pck PF 145 1 40 [] [] && (pck PF 146 1 40 [] [] && (pck PF 147 1 40 [] [] && (pck PF 148 1 240 [] [] && (pck PF 149 1 240 [] [] && (pck PF 150 1 240 [] [] && (pck PF 151 1 240 [] [] && (pck PF 152 1 240 [] [] && (pck PF 153 1 512 [] [] && (pck PF 154 1 240 [] [] && (pck PF 155 13 0 [(400, 156), (401, 157), (402, 158), (403, 159)] [] && (pck PF 156 1 241 [] [] && (pck PF 157 1 240 [] [] && (pck PF 158 1 240 [] [] && (pck PF 159 19 0 [(1000, 160)] [] && (pck PF 160 1 240 [] [] && (pck PF 161 10 0 [(100, 162), (101, 163)] [] && (pck PF 162 1 241 [] [] && (pck PF 163 1 241 [] [] && (pck PF 164 12 0 [(300, 165), (301, 166)] [] && (pck PF 165 3 16 [] [] && (pck PF 166 1 241 [] [] && (pck PF 199 16 0 [(700, 200), (701, 202), (702, 203)] [] && (pck PF 200 20 0 [(1100, 201)] [] && (pck PF 201 1 720 [] [] && (pck PF 202 1 241 [] [] && (pck PF 203 1 241 [] [] && (pck PF 204 15 0 [(600, 205), (601, 207)] [] && (pck PF 205 20 0 [(1100, 206)] [] && (pck PF 206 1 241 [] [] && (pck PF 207 1 241 [] [] && (pck PF 208 20 0 [(1100, 209)] [] && (pck PF 209 1 7680 [] [] && (pck PF 210 20 0 [(1100, 211)] [] && (pck PF 211 1 240 [] [] && (pck PF 212 20 0 [(1100, 213)] [] && (pck PF 213 1 720 [] [] && (pck PF 214 20 0 [(1100, 215)] [] && (pck PF 215 1 720 [] [] && (pck PF 216 20 0 [(1100, 217)] [] && (pck PF 217 1 480 [] [] && (pck PF 218 22 0 [(1301, 219), (1302, 220), (1304, 221), (1305, 222), (1306, 223), (1307, 224), (1308, 225), (1309, 226), (1311, 227), (1312, 228), (1314, 229), (1315, 230), (1317, 231), (1318, 232), (1320, 233), (1321, 234), (1322, 235), (1323, 236), (1324, 237), (1325, 238), (1326, 239), (1328, 240), (1329, 241), (1330, 242), (1332, 243), (1333, 244), (1334, 245), (1336, 246), (1337, 247), (1338, 248), (1340, 249), (1341, 250), (1344, 251), (1345, 252), (1346, 253), (1347, 254), (1348, 255), (1350, 256), (1351, 257)] [] && (pck PF 219 1 40 [] [] && (pck PF 220 1 9600 [] [] && (pck PF 221 1 20 [] [] && (pck PF 222 2 20 [] [] && (pck PF 223 1 20 [] [] && (pck PF 224 1 4800 [] [] && (pck PF 225 1 58081 [] [] && (pck PF 226 1 241 [] [] && (pck PF 227 1 16 [] [] && (pck PF 228 1 640 [] [] && (pck PF 229 1 3840 [] [] && (pck PF 230 1 3840 [] [] && (pck PF 231 1 240 [] [] && (pck PF 232 1 241 [] [] && (pck PF 233 1 9600 [] [] && (pck PF 234 1 9600 [] [] && (pck PF 235 1 76800 [] [] && (pck PF 236 1 9600 [] [] && (pck PF 237 1 9600 [] [] && (pck PF 238 1 9600 [] [] && (pck PF 239 1 65537 [] [] && (pck PF 240 1 600 [] [] && (pck PF 241 1 600 [] [] && (pck PF 242 1 600 [] [] && (pck PF 243 1 240 [] [] && (pck PF 244 1 241 [] [] && (pck PF 245 1 58081 [] [] && (pck PF 246 1 480 [] [] && (pck PF 247 1 480 [] [] && (pck PF 248 1 480 [] [] && (pck PF 249 1 240 [] [] && (pck PF 250 1 240 [] [] && (pck PF 251 1 240 [] [] && (pck PF 252 1 240 [] [] && (pck PF 253 1 240 [] [] && (pck PF 254 1 241 [] [] && (pck PF 255 1 241 [] [] && (pck PF 256 1 241 [] [] && (pck PF 257 1 241 [] [] && ((List.range 40).all (fun t => pck PF (4 + 2 * t) (19 : Int) 0 [(1000, ((5 + 2 * t : Nat) : Int))] []) && ((List.range 40).all (fun t => pck PF (5 + 2 * t) 1 240 [] []) && ((List.range 20).all (fun t => pck PF (84 + 3 * t) 11 0 [(200, ((85 + 3 * t : Nat) : Int))] []) && ((List.range 20).all (fun t => pck PF (85 + 3 * t) 19 0 [(1000, ((86 + 3 * t : Nat) : Int))] []) && ((List.range 20).all (fun t => pck PF (86 + 3 * t) 1 240 [] []) && ((List.range 16).all (fun t => pck PF (167 + 2 * t) 19 0 [(1000, ((168 + 2 * t : Nat) : Int))] []) && ((List.range 16).all (fun t => pck PF (168 + 2 * t) 1 40 [] []) && ((List.range 40).all (fun t => pck PF (2) 3 40 [] [((t : Int), ((4 + 2 * t : Nat) : Int))]) && ((List.range 20).all (fun t => pck PF (3) 4 20 [] [((t : Int), ((84 + 3 * t : Nat) : Int))]) && ((List.range 16).all (fun t => pck PF (165) 3 16 [] [((t : Int), ((167 + 2 * t : Nat) : Int))]))))))))))))))))))))))))))))))))))))))))))))))))))))))))))))))))))))))))))))))))))))))))))))))))) = true := by decide +kernel
theorem pkall : pck PF 0 21 0 [(1200, 1), (1201, 144), (1202, 155), (1203, 161), (1204, 164), (1205, 199), (1206, 204), (1207, 208), (1208, 210), (1209, 212), (1210, 214), (1211, 216)] [] = true ∧ pck PF 1 14 0 [(500, 2), (501, 3)] [] = true ∧ pck PF 2 3 40 [] [] = true ∧ pck PF 3 4 20 [] [] = true ∧ pck PF 144 18 0 [(902, 145), (903, 146), (904, 147), (900, 148), (901, 149), (905, 150), (906, 151), (907, 152), (908, 153), (909, 154)] [] = true ∧ pck PF 145 1 40 [] [] = true ∧ pck PF 146 1 40 [] [] = true ∧ pck PF 147 1 40 [] [] = true ∧ pck PF 148 1 240 [] [] = true ∧ pck PF 149 1 240 [] [] = true ∧ pck PF 150 1 240 [] [] = true ∧ pck PF 151 1 240 [] [] = true ∧ pck PF 152 1 240 [] [] = true ∧ pck PF 153 1 512 [] [] = true ∧ pck PF 154 1 240 [] [] = true ∧ pck PF 155 13 0 [(400, 156), (401, 157), (402, 158), (403, 159)] [] = true ∧ pck PF 156 1 241 [] [] = true ∧ pck PF 157 1 240 [] [] = true ∧ pck PF 158 1 240 [] [] = true ∧ pck PF 159 19 0 [(1000, 160)] [] = true ∧ pck PF 160 1 240 [] [] = true ∧ pck PF 161 10 0 [(100, 162), (101, 163)] [] = true ∧ pck PF 162 1 241 [] [] = true ∧ pck PF 163 1 241 [] [] = true ∧ pck PF 164 12 0 [(300, 165), (301, 166)] [] = true ∧ pck PF 165 3 16 [] [] = true ∧ pck PF 166 1 241 [] [] = true ∧ pck PF 199 16 0 [(700, 200), (701, 202), (702, 203)] [] = true ∧ pck PF 200 20 0 [(1100, 201)] [] = true ∧ pck PF 201 1 720 [] [] = true ∧ pck PF 202 1 241 [] [] = true ∧ pck PF 203 1 241 [] [] = true ∧ pck PF 204 15 0 [(600, 205), (601, 207)] [] = true ∧ pck PF 205 20 0 [(1100, 206)] [] = true ∧ pck PF 206 1 241 [] [] = true ∧ pck PF 207 1 241 [] [] = true ∧ pck PF 208 20 0 [(1100, 209)] [] = true ∧ pck PF 209 1 7680 [] [] = true ∧ pck PF 210 20 0 [(1100, 211)] [] = true ∧ pck PF 211 1 240 [] [] = true ∧ pck PF 212 20 0 [(1100, 213)] [] = true ∧ pck PF 213 1 720 [] [] = true ∧ pck PF 214 20 0 [(1100, 215)] [] = true ∧ pck PF 215 1 720 [] [] = true ∧ pck PF 216 20 0 [(1100, 217)] [] = true ∧ pck PF 217 1 480 [] [] = true ∧ pck PF 218 22 0 [(1301, 219), (1302, 220), (1304, 221), (1305, 222), (1306, 223), (1307, 224), (1308, 225), (1309, 226), (1311, 227), (1312, 228), (1314, 229), (1315, 230), (1317, 231), (1318, 232), (1320, 233), (1321, 234), (1322, 235), (1323, 236), (1324, 237), (1325, 238), (1326, 239), (1328, 240), (1329, 241), (1330, 242), (1332, 243), (1333, 244), (1334, 245), (1336, 246), (1337, 247), (1338, 248), (1340, 249), (1341, 250), (1344, 251), (1345, 252), (1346, 253), (1347, 254), (1348, 255), (1350, 256), (1351, 257)] [] = true ∧ pck PF 219 1 40 [] [] = true ∧ pck PF 220 1 9600 [] [] = true ∧ pck PF 221 1 20 [] [] = true ∧ pck PF 222 2 20 [] [] = true ∧ pck PF 223 1 20 [] [] = true ∧ pck PF 224 1 4800 [] [] = true ∧ pck PF 225 1 58081 [] [] = true ∧ pck PF 226 1 241 [] [] = true ∧ pck PF 227 1 16 [] [] = true ∧ pck PF 228 1 640 [] [] = true ∧ pck PF 229 1 3840 [] [] = true ∧ pck PF 230 1 3840 [] [] = true ∧ pck PF 231 1 240 [] [] = true ∧ pck PF 232 1 241 [] [] = true ∧ pck PF 233 1 9600 [] [] = true ∧ pck PF 234 1 9600 [] [] = true ∧ pck PF 235 1 76800 [] [] = true ∧ pck PF 236 1 9600 [] [] = true ∧ pck PF 237 1 9600 [] [] = true ∧ pck PF 238 1 9600 [] [] = true ∧ pck PF 239 1 65537 [] [] = true ∧ pck PF 240 1 600 [] [] = true ∧ pck PF 241 1 600 [] [] = true ∧ pck PF 242 1 600 [] [] = true ∧ pck PF 243 1 240 [] [] = true ∧ pck PF 244 1 241 [] [] = true ∧ pck PF 245 1 58081 [] [] = true ∧ pck PF 246 1 480 [] [] = true ∧ pck PF 247 1 480 [] [] = true ∧ pck PF 248 1 480 [] [] = true ∧ pck PF 249 1 240 [] [] = true ∧ pck PF 250 1 240 [] [] = true ∧ pck PF 251 1 240 [] [] = true ∧ pck PF 252 1 240 [] [] = true ∧ pck PF 253 1 240 [] [] = true ∧ pck PF 254 1 241 [] [] = true ∧ pck PF 255 1 241 [] [] = true ∧ pck PF 256 1 241 [] [] = true ∧ pck PF 257 1 241 [] [] = true ∧ (List.range 40).all (fun t => pck PF (4 + 2 * t) (19 : Int) 0 [(1000, ((5 + 2 * t : Nat) : Int))] []) = true ∧ (List.range 40).all (fun t => pck PF (5 + 2 * t) 1 240 [] []) = true ∧ (List.range 20).all (fun t => pck PF (84 + 3 * t) 11 0 [(200, ((85 + 3 * t : Nat) : Int))] []) = true ∧ (List.range 20).all (fun t => pck PF (85 + 3 * t) 19 0 [(1000, ((86 + 3 * t : Nat) : Int))] []) = true ∧ (List.range 20).all (fun t => pck PF (86 + 3 * t) 1 240 [] []) = true ∧ (List.range 16).all (fun t => pck PF (167 + 2 * t) 19 0 [(1000, ((168 + 2 * t : Nat) : Int))] []) = true ∧ (List.range 16).all (fun t => pck PF (168 + 2 * t) 1 40 [] []) = true ∧ (List.range 40).all (fun t => pck PF (2) 3 40 [] [((t : Int), ((4 + 2 * t : Nat) : Int))]) = true ∧ (List.range 20).all (fun t => pck PF (3) 4 20 [] [((t : Int), ((84 + 3 * t : Nat) : Int))]) = true ∧ (List.range 16).all (fun t => pck PF (165) 3 16 [] [((t : Int), ((167 + 2 * t : Nat) : Int))]) = true := by
  have h := pkb
  simp only [Bool.and_eq_true] at h
  exact h
theorem pk_atlas : pck PF 0 21 0 [(1200, 1), (1201, 144), (1202, 155), (1203, 161), (1204, 164), (1205, 199), (1206, 204), (1207, 208), (1208, 210), (1209, 212), (1210, 214), (1211, 216)] [] = true := pkall.1
theorem w_atlas_t {M : JM} {X : Int} (h : WSt X M) : M 0 (X + 0) 0 = 21 := (h.get pk_atlas).1
theorem w_atlas_1200 {M : JM} {X : Int} (h : WSt X M) : M 1200 (X + 0) 0 = X + 1 := (h.get pk_atlas).2.2.1 (1200, 1) (by decide) (by decide) (by decide) (by decide) (by decide)
theorem w_atlas_1201 {M : JM} {X : Int} (h : WSt X M) : M 1201 (X + 0) 0 = X + 144 := (h.get pk_atlas).2.2.1 (1201, 144) (by decide) (by decide) (by decide) (by decide) (by decide)
theorem w_atlas_1202 {M : JM} {X : Int} (h : WSt X M) : M 1202 (X + 0) 0 = X + 155 := (h.get pk_atlas).2.2.1 (1202, 155) (by decide) (by decide) (by decide) (by decide) (by decide)
theorem w_atlas_1203 {M : JM} {X : Int} (h : WSt X M) : M 1203 (X + 0) 0 = X + 161 := (h.get pk_atlas).2.2.1 (1203, 161) (by decide) (by decide) (by decide) (by decide) (by decide)
theorem w_atlas_1204 {M : JM} {X : Int} (h : WSt X M) : M 1204 (X + 0) 0 = X + 164 := (h.get pk_atlas).2.2.1 (1204, 164) (by decide) (by decide) (by decide) (by decide) (by decide)
theorem w_atlas_1205 {M : JM} {X : Int} (h : WSt X M) : M 1205 (X + 0) 0 = X + 199 := (h.get pk_atlas).2.2.1 (1205, 199) (by decide) (by decide) (by decide) (by decide) (by decide)
theorem w_atlas_1206 {M : JM} {X : Int} (h : WSt X M) : M 1206 (X + 0) 0 = X + 204 := (h.get pk_atlas).2.2.1 (1206, 204) (by decide) (by decide) (by decide) (by decide) (by decide)
theorem w_atlas_1207 {M : JM} {X : Int} (h : WSt X M) : M 1207 (X + 0) 0 = X + 208 := (h.get pk_atlas).2.2.1 (1207, 208) (by decide) (by decide) (by decide) (by decide) (by decide)
theorem w_atlas_1208 {M : JM} {X : Int} (h : WSt X M) : M 1208 (X + 0) 0 = X + 210 := (h.get pk_atlas).2.2.1 (1208, 210) (by decide) (by decide) (by decide) (by decide) (by decide)
theorem w_atlas_1209 {M : JM} {X : Int} (h : WSt X M) : M 1209 (X + 0) 0 = X + 212 := (h.get pk_atlas).2.2.1 (1209, 212) (by decide) (by decide) (by decide) (by decide) (by decide)
theorem w_atlas_1210 {M : JM} {X : Int} (h : WSt X M) : M 1210 (X + 0) 0 = X + 214 := (h.get pk_atlas).2.2.1 (1210, 214) (by decide) (by decide) (by decide) (by decide) (by decide)
theorem w_atlas_1211 {M : JM} {X : Int} (h : WSt X M) : M 1211 (X + 0) 0 = X + 216 := (h.get pk_atlas).2.2.1 (1211, 216) (by decide) (by decide) (by decide) (by decide) (by decide)
theorem pk_shelf : pck PF 1 14 0 [(500, 2), (501, 3)] [] = true := pkall.2.1
theorem w_shelf_t {M : JM} {X : Int} (h : WSt X M) : M 0 (X + 1) 0 = 14 := (h.get pk_shelf).1
theorem w_shelf_500 {M : JM} {X : Int} (h : WSt X M) : M 500 (X + 1) 0 = X + 2 := (h.get pk_shelf).2.2.1 (500, 2) (by decide) (by decide) (by decide) (by decide) (by decide)
theorem w_shelf_501 {M : JM} {X : Int} (h : WSt X M) : M 501 (X + 1) 0 = X + 3 := (h.get pk_shelf).2.2.1 (501, 3) (by decide) (by decide) (by decide) (by decide) (by decide)
theorem pk_texts : pck PF 2 3 40 [] [] = true := pkall.2.2.1
theorem w_texts_t {M : JM} {X : Int} (h : WSt X M) : M 0 (X + 2) 0 = 3 := (h.get pk_texts).1
theorem w_texts_n {M : JM} {X : Int} (h : WSt X M) : M 1 (X + 2) 0 = 40 := (h.get pk_texts).2.1
theorem pk_kepts : pck PF 3 4 20 [] [] = true := pkall.2.2.2.1
theorem w_kepts_t {M : JM} {X : Int} (h : WSt X M) : M 0 (X + 3) 0 = 4 := (h.get pk_kepts).1
theorem w_kepts_n {M : JM} {X : Int} (h : WSt X M) : M 1 (X + 3) 0 = 20 := (h.get pk_kepts).2.1
theorem pk_suf : pck PF 144 18 0 [(902, 145), (903, 146), (904, 147), (900, 148), (901, 149), (905, 150), (906, 151), (907, 152), (908, 153), (909, 154)] [] = true := pkall.2.2.2.2.1
theorem w_suf_t {M : JM} {X : Int} (h : WSt X M) : M 0 (X + 144) 0 = 18 := (h.get pk_suf).1
theorem w_suf_902 {M : JM} {X : Int} (h : WSt X M) : M 902 (X + 144) 0 = X + 145 := (h.get pk_suf).2.2.1 (902, 145) (by decide) (by decide) (by decide) (by decide) (by decide)
theorem w_suf_903 {M : JM} {X : Int} (h : WSt X M) : M 903 (X + 144) 0 = X + 146 := (h.get pk_suf).2.2.1 (903, 146) (by decide) (by decide) (by decide) (by decide) (by decide)
theorem w_suf_904 {M : JM} {X : Int} (h : WSt X M) : M 904 (X + 144) 0 = X + 147 := (h.get pk_suf).2.2.1 (904, 147) (by decide) (by decide) (by decide) (by decide) (by decide)
theorem w_suf_900 {M : JM} {X : Int} (h : WSt X M) : M 900 (X + 144) 0 = X + 148 := (h.get pk_suf).2.2.1 (900, 148) (by decide) (by decide) (by decide) (by decide) (by decide)
theorem w_suf_901 {M : JM} {X : Int} (h : WSt X M) : M 901 (X + 144) 0 = X + 149 := (h.get pk_suf).2.2.1 (901, 149) (by decide) (by decide) (by decide) (by decide) (by decide)
theorem w_suf_905 {M : JM} {X : Int} (h : WSt X M) : M 905 (X + 144) 0 = X + 150 := (h.get pk_suf).2.2.1 (905, 150) (by decide) (by decide) (by decide) (by decide) (by decide)
theorem w_suf_906 {M : JM} {X : Int} (h : WSt X M) : M 906 (X + 144) 0 = X + 151 := (h.get pk_suf).2.2.1 (906, 151) (by decide) (by decide) (by decide) (by decide) (by decide)
theorem w_suf_907 {M : JM} {X : Int} (h : WSt X M) : M 907 (X + 144) 0 = X + 152 := (h.get pk_suf).2.2.1 (907, 152) (by decide) (by decide) (by decide) (by decide) (by decide)
theorem w_suf_908 {M : JM} {X : Int} (h : WSt X M) : M 908 (X + 144) 0 = X + 153 := (h.get pk_suf).2.2.1 (908, 153) (by decide) (by decide) (by decide) (by decide) (by decide)
theorem w_suf_909 {M : JM} {X : Int} (h : WSt X M) : M 909 (X + 144) 0 = X + 154 := (h.get pk_suf).2.2.1 (909, 154) (by decide) (by decide) (by decide) (by decide) (by decide)
theorem pk_sstart : pck PF 145 1 40 [] [] = true := pkall.2.2.2.2.2.1
theorem w_sstart_t {M : JM} {X : Int} (h : WSt X M) : M 0 (X + 145) 0 = 1 := (h.get pk_sstart).1
theorem w_sstart_n {M : JM} {X : Int} (h : WSt X M) : M 1 (X + 145) 0 = 40 := (h.get pk_sstart).2.1
theorem pk_send : pck PF 146 1 40 [] [] = true := pkall.2.2.2.2.2.2.1
theorem w_send_t {M : JM} {X : Int} (h : WSt X M) : M 0 (X + 146) 0 = 1 := (h.get pk_send).1
theorem w_send_n {M : JM} {X : Int} (h : WSt X M) : M 1 (X + 146) 0 = 40 := (h.get pk_send).2.1
theorem pk_smark : pck PF 147 1 40 [] [] = true := pkall.2.2.2.2.2.2.2.1
theorem w_smark_t {M : JM} {X : Int} (h : WSt X M) : M 0 (X + 147) 0 = 1 := (h.get pk_smark).1
theorem w_smark_n {M : JM} {X : Int} (h : WSt X M) : M 1 (X + 147) 0 = 40 := (h.get pk_smark).2.1
theorem pk_ssign : pck PF 148 1 240 [] [] = true := pkall.2.2.2.2.2.2.2.2.1
theorem w_ssign_t {M : JM} {X : Int} (h : WSt X M) : M 0 (X + 148) 0 = 1 := (h.get pk_ssign).1
theorem w_ssign_n {M : JM} {X : Int} (h : WSt X M) : M 1 (X + 148) 0 = 240 := (h.get pk_ssign).2.1
theorem pk_sowner : pck PF 149 1 240 [] [] = true := pkall.2.2.2.2.2.2.2.2.2.1
theorem w_sowner_t {M : JM} {X : Int} (h : WSt X M) : M 0 (X + 149) 0 = 1 := (h.get pk_sowner).1
theorem w_sowner_n {M : JM} {X : Int} (h : WSt X M) : M 1 (X + 149) 0 = 240 := (h.get pk_sowner).2.1
theorem pk_sordered : pck PF 150 1 240 [] [] = true := pkall.2.2.2.2.2.2.2.2.2.2.1
theorem w_sordered_t {M : JM} {X : Int} (h : WSt X M) : M 0 (X + 150) 0 = 1 := (h.get pk_sordered).1
theorem w_sordered_n {M : JM} {X : Int} (h : WSt X M) : M 1 (X + 150) 0 = 240 := (h.get pk_sordered).2.1
theorem pk_sranks : pck PF 151 1 240 [] [] = true := pkall.2.2.2.2.2.2.2.2.2.2.2.1
theorem w_sranks_t {M : JM} {X : Int} (h : WSt X M) : M 0 (X + 151) 0 = 1 := (h.get pk_sranks).1
theorem w_sranks_n {M : JM} {X : Int} (h : WSt X M) : M 1 (X + 151) 0 = 240 := (h.get pk_sranks).2.1
theorem pk_sspare : pck PF 152 1 240 [] [] = true := pkall.2.2.2.2.2.2.2.2.2.2.2.2.1
theorem w_sspare_t {M : JM} {X : Int} (h : WSt X M) : M 0 (X + 152) 0 = 1 := (h.get pk_sspare).1
theorem w_sspare_n {M : JM} {X : Int} (h : WSt X M) : M 1 (X + 152) 0 = 240 := (h.get pk_sspare).2.1
theorem pk_stally : pck PF 153 1 512 [] [] = true := pkall.2.2.2.2.2.2.2.2.2.2.2.2.2.1
theorem w_stally_t {M : JM} {X : Int} (h : WSt X M) : M 0 (X + 153) 0 = 1 := (h.get pk_stally).1
theorem w_stally_n {M : JM} {X : Int} (h : WSt X M) : M 1 (X + 153) 0 = 512 := (h.get pk_stally).2.1
theorem pk_sshared : pck PF 154 1 240 [] [] = true := pkall.2.2.2.2.2.2.2.2.2.2.2.2.2.2.1
theorem w_sshared_t {M : JM} {X : Int} (h : WSt X M) : M 0 (X + 154) 0 = 1 := (h.get pk_sshared).1
theorem w_sshared_n {M : JM} {X : Int} (h : WSt X M) : M 1 (X + 154) 0 = 240 := (h.get pk_sshared).2.1
theorem pk_search : pck PF 155 13 0 [(400, 156), (401, 157), (402, 158), (403, 159)] [] = true := pkall.2.2.2.2.2.2.2.2.2.2.2.2.2.2.2.1
theorem w_search_t {M : JM} {X : Int} (h : WSt X M) : M 0 (X + 155) 0 = 13 := (h.get pk_search).1
theorem w_search_400 {M : JM} {X : Int} (h : WSt X M) : M 400 (X + 155) 0 = X + 156 := (h.get pk_search).2.2.1 (400, 156) (by decide) (by decide) (by decide) (by decide) (by decide)
theorem w_search_401 {M : JM} {X : Int} (h : WSt X M) : M 401 (X + 155) 0 = X + 157 := (h.get pk_search).2.2.1 (401, 157) (by decide) (by decide) (by decide) (by decide) (by decide)
theorem w_search_402 {M : JM} {X : Int} (h : WSt X M) : M 402 (X + 155) 0 = X + 158 := (h.get pk_search).2.2.1 (402, 158) (by decide) (by decide) (by decide) (by decide) (by decide)
theorem w_search_403 {M : JM} {X : Int} (h : WSt X M) : M 403 (X + 155) 0 = X + 159 := (h.get pk_search).2.2.1 (403, 159) (by decide) (by decide) (by decide) (by decide) (by decide)
theorem pk_esame : pck PF 156 1 241 [] [] = true := pkall.2.2.2.2.2.2.2.2.2.2.2.2.2.2.2.2.1
theorem w_esame_t {M : JM} {X : Int} (h : WSt X M) : M 0 (X + 156) 0 = 1 := (h.get pk_esame).1
theorem w_esame_n {M : JM} {X : Int} (h : WSt X M) : M 1 (X + 156) 0 = 241 := (h.get pk_esame).2.1
theorem pk_eletters : pck PF 157 1 240 [] [] = true := pkall.2.2.2.2.2.2.2.2.2.2.2.2.2.2.2.2.2.1
theorem w_eletters_t {M : JM} {X : Int} (h : WSt X M) : M 0 (X + 157) 0 = 1 := (h.get pk_eletters).1
theorem w_eletters_n {M : JM} {X : Int} (h : WSt X M) : M 1 (X + 157) 0 = 240 := (h.get pk_eletters).2.1
theorem pk_echosen : pck PF 158 1 240 [] [] = true := pkall.2.2.2.2.2.2.2.2.2.2.2.2.2.2.2.2.2.2.1
theorem w_echosen_t {M : JM} {X : Int} (h : WSt X M) : M 0 (X + 158) 0 = 1 := (h.get pk_echosen).1
theorem w_echosen_n {M : JM} {X : Int} (h : WSt X M) : M 1 (X + 158) 0 = 240 := (h.get pk_echosen).2.1
theorem pk_emissing : pck PF 159 19 0 [(1000, 160)] [] = true := pkall.2.2.2.2.2.2.2.2.2.2.2.2.2.2.2.2.2.2.2.1
theorem w_emissing_t {M : JM} {X : Int} (h : WSt X M) : M 0 (X + 159) 0 = 19 := (h.get pk_emissing).1
theorem w_emissing_1000 {M : JM} {X : Int} (h : WSt X M) : M 1000 (X + 159) 0 = X + 160 := (h.get pk_emissing).2.2.1 (1000, 160) (by decide) (by decide) (by decide) (by decide) (by decide)
theorem pk_emarr : pck PF 160 1 240 [] [] = true := pkall.2.2.2.2.2.2.2.2.2.2.2.2.2.2.2.2.2.2.2.2.1
theorem w_emarr_t {M : JM} {X : Int} (h : WSt X M) : M 0 (X + 160) 0 = 1 := (h.get pk_emarr).1
theorem w_emarr_n {M : JM} {X : Int} (h : WSt X M) : M 1 (X + 160) 0 = 240 := (h.get pk_emarr).2.1
theorem pk_forms : pck PF 161 10 0 [(100, 162), (101, 163)] [] = true := pkall.2.2.2.2.2.2.2.2.2.2.2.2.2.2.2.2.2.2.2.2.2.1
theorem w_forms_t {M : JM} {X : Int} (h : WSt X M) : M 0 (X + 161) 0 = 10 := (h.get pk_forms).1
theorem w_forms_100 {M : JM} {X : Int} (h : WSt X M) : M 100 (X + 161) 0 = X + 162 := (h.get pk_forms).2.2.1 (100, 162) (by decide) (by decide) (by decide) (by decide) (by decide)
theorem w_forms_101 {M : JM} {X : Int} (h : WSt X M) : M 101 (X + 161) 0 = X + 163 := (h.get pk_forms).2.2.1 (101, 163) (by decide) (by decide) (by decide) (by decide) (by decide)
theorem pk_fedge : pck PF 162 1 241 [] [] = true := pkall.2.2.2.2.2.2.2.2.2.2.2.2.2.2.2.2.2.2.2.2.2.2.1
theorem w_fedge_t {M : JM} {X : Int} (h : WSt X M) : M 0 (X + 162) 0 = 1 := (h.get pk_fedge).1
theorem w_fedge_n {M : JM} {X : Int} (h : WSt X M) : M 1 (X + 162) 0 = 241 := (h.get pk_fedge).2.1
theorem pk_fleast : pck PF 163 1 241 [] [] = true := pkall.2.2.2.2.2.2.2.2.2.2.2.2.2.2.2.2.2.2.2.2.2.2.2.1
theorem w_fleast_t {M : JM} {X : Int} (h : WSt X M) : M 0 (X + 163) 0 = 1 := (h.get pk_fleast).1
theorem w_fleast_n {M : JM} {X : Int} (h : WSt X M) : M 1 (X + 163) 0 = 241 := (h.get pk_fleast).2.1
theorem pk_patterns : pck PF 164 12 0 [(300, 165), (301, 166)] [] = true := pkall.2.2.2.2.2.2.2.2.2.2.2.2.2.2.2.2.2.2.2.2.2.2.2.2.1
theorem w_patterns_t {M : JM} {X : Int} (h : WSt X M) : M 0 (X + 164) 0 = 12 := (h.get pk_patterns).1
theorem w_patterns_300 {M : JM} {X : Int} (h : WSt X M) : M 300 (X + 164) 0 = X + 165 := (h.get pk_patterns).2.2.1 (300, 165) (by decide) (by decide) (by decide) (by decide) (by decide)
theorem w_patterns_301 {M : JM} {X : Int} (h : WSt X M) : M 301 (X + 164) 0 = X + 166 := (h.get pk_patterns).2.2.1 (301, 166) (by decide) (by decide) (by decide) (by decide) (by decide)
theorem pk_pkept : pck PF 165 3 16 [] [] = true := pkall.2.2.2.2.2.2.2.2.2.2.2.2.2.2.2.2.2.2.2.2.2.2.2.2.2.1
theorem w_pkept_t {M : JM} {X : Int} (h : WSt X M) : M 0 (X + 165) 0 = 3 := (h.get pk_pkept).1
theorem w_pkept_n {M : JM} {X : Int} (h : WSt X M) : M 1 (X + 165) 0 = 16 := (h.get pk_pkept).2.1
theorem pk_pleast : pck PF 166 1 241 [] [] = true := pkall.2.2.2.2.2.2.2.2.2.2.2.2.2.2.2.2.2.2.2.2.2.2.2.2.2.2.1
theorem w_pleast_t {M : JM} {X : Int} (h : WSt X M) : M 0 (X + 166) 0 = 1 := (h.get pk_pleast).1
theorem w_pleast_n {M : JM} {X : Int} (h : WSt X M) : M 1 (X + 166) 0 = 241 := (h.get pk_pleast).2.1
theorem pk_squeezer : pck PF 199 16 0 [(700, 200), (701, 202), (702, 203)] [] = true := pkall.2.2.2.2.2.2.2.2.2.2.2.2.2.2.2.2.2.2.2.2.2.2.2.2.2.2.2.1
theorem w_squeezer_t {M : JM} {X : Int} (h : WSt X M) : M 0 (X + 199) 0 = 16 := (h.get pk_squeezer).1
theorem w_squeezer_700 {M : JM} {X : Int} (h : WSt X M) : M 700 (X + 199) 0 = X + 200 := (h.get pk_squeezer).2.2.1 (700, 200) (by decide) (by decide) (by decide) (by decide) (by decide)
theorem w_squeezer_701 {M : JM} {X : Int} (h : WSt X M) : M 701 (X + 199) 0 = X + 202 := (h.get pk_squeezer).2.2.1 (701, 202) (by decide) (by decide) (by decide) (by decide) (by decide)
theorem w_squeezer_702 {M : JM} {X : Int} (h : WSt X M) : M 702 (X + 199) 0 = X + 203 := (h.get pk_squeezer).2.2.1 (702, 203) (by decide) (by decide) (by decide) (by decide) (by decide)
theorem pk_qitems : pck PF 200 20 0 [(1100, 201)] [] = true := pkall.2.2.2.2.2.2.2.2.2.2.2.2.2.2.2.2.2.2.2.2.2.2.2.2.2.2.2.2.1
theorem w_qitems_t {M : JM} {X : Int} (h : WSt X M) : M 0 (X + 200) 0 = 20 := (h.get pk_qitems).1
theorem w_qitems_1100 {M : JM} {X : Int} (h : WSt X M) : M 1100 (X + 200) 0 = X + 201 := (h.get pk_qitems).2.2.1 (1100, 201) (by decide) (by decide) (by decide) (by decide) (by decide)
theorem pk_qcells : pck PF 201 1 720 [] [] = true := pkall.2.2.2.2.2.2.2.2.2.2.2.2.2.2.2.2.2.2.2.2.2.2.2.2.2.2.2.2.2.1
theorem w_qcells_t {M : JM} {X : Int} (h : WSt X M) : M 0 (X + 201) 0 = 1 := (h.get pk_qcells).1
theorem w_qcells_n {M : JM} {X : Int} (h : WSt X M) : M 1 (X + 201) 0 = 720 := (h.get pk_qcells).2.1
theorem pk_qfrom : pck PF 202 1 241 [] [] = true := pkall.2.2.2.2.2.2.2.2.2.2.2.2.2.2.2.2.2.2.2.2.2.2.2.2.2.2.2.2.2.2.1
theorem w_qfrom_t {M : JM} {X : Int} (h : WSt X M) : M 0 (X + 202) 0 = 1 := (h.get pk_qfrom).1
theorem w_qfrom_n {M : JM} {X : Int} (h : WSt X M) : M 1 (X + 202) 0 = 241 := (h.get pk_qfrom).2.1
theorem pk_qto : pck PF 203 1 241 [] [] = true := pkall.2.2.2.2.2.2.2.2.2.2.2.2.2.2.2.2.2.2.2.2.2.2.2.2.2.2.2.2.2.2.2.1
theorem w_qto_t {M : JM} {X : Int} (h : WSt X M) : M 0 (X + 203) 0 = 1 := (h.get pk_qto).1
theorem w_qto_n {M : JM} {X : Int} (h : WSt X M) : M 1 (X + 203) 0 = 241 := (h.get pk_qto).2.1
theorem pk_sorter : pck PF 204 15 0 [(600, 205), (601, 207)] [] = true := pkall.2.2.2.2.2.2.2.2.2.2.2.2.2.2.2.2.2.2.2.2.2.2.2.2.2.2.2.2.2.2.2.2.1
theorem w_sorter_t {M : JM} {X : Int} (h : WSt X M) : M 0 (X + 204) 0 = 15 := (h.get pk_sorter).1
theorem w_sorter_600 {M : JM} {X : Int} (h : WSt X M) : M 600 (X + 204) 0 = X + 205 := (h.get pk_sorter).2.2.1 (600, 205) (by decide) (by decide) (by decide) (by decide) (by decide)
theorem w_sorter_601 {M : JM} {X : Int} (h : WSt X M) : M 601 (X + 204) 0 = X + 207 := (h.get pk_sorter).2.2.1 (601, 207) (by decide) (by decide) (by decide) (by decide) (by decide)
theorem pk_olast : pck PF 205 20 0 [(1100, 206)] [] = true := pkall.2.2.2.2.2.2.2.2.2.2.2.2.2.2.2.2.2.2.2.2.2.2.2.2.2.2.2.2.2.2.2.2.2.1
theorem w_olast_t {M : JM} {X : Int} (h : WSt X M) : M 0 (X + 205) 0 = 20 := (h.get pk_olast).1
theorem w_olast_1100 {M : JM} {X : Int} (h : WSt X M) : M 1100 (X + 205) 0 = X + 206 := (h.get pk_olast).2.2.1 (1100, 206) (by decide) (by decide) (by decide) (by decide) (by decide)
theorem pk_ocells : pck PF 206 1 241 [] [] = true := pkall.2.2.2.2.2.2.2.2.2.2.2.2.2.2.2.2.2.2.2.2.2.2.2.2.2.2.2.2.2.2.2.2.2.2.1
theorem w_ocells_t {M : JM} {X : Int} (h : WSt X M) : M 0 (X + 206) 0 = 1 := (h.get pk_ocells).1
theorem w_ocells_n {M : JM} {X : Int} (h : WSt X M) : M 1 (X + 206) 0 = 241 := (h.get pk_ocells).2.1
theorem pk_oturned : pck PF 207 1 241 [] [] = true := pkall.2.2.2.2.2.2.2.2.2.2.2.2.2.2.2.2.2.2.2.2.2.2.2.2.2.2.2.2.2.2.2.2.2.2.2.1
theorem w_oturned_t {M : JM} {X : Int} (h : WSt X M) : M 0 (X + 207) 0 = 1 := (h.get pk_oturned).1
theorem w_oturned_n {M : JM} {X : Int} (h : WSt X M) : M 1 (X + 207) 0 = 241 := (h.get pk_oturned).2.1
theorem pk_tmatches : pck PF 208 20 0 [(1100, 209)] [] = true := pkall.2.2.2.2.2.2.2.2.2.2.2.2.2.2.2.2.2.2.2.2.2.2.2.2.2.2.2.2.2.2.2.2.2.2.2.2.1
theorem w_tmatches_t {M : JM} {X : Int} (h : WSt X M) : M 0 (X + 208) 0 = 20 := (h.get pk_tmatches).1
theorem w_tmatches_1100 {M : JM} {X : Int} (h : WSt X M) : M 1100 (X + 208) 0 = X + 209 := (h.get pk_tmatches).2.2.1 (1100, 209) (by decide) (by decide) (by decide) (by decide) (by decide)
theorem pk_cmatches : pck PF 209 1 7680 [] [] = true := pkall.2.2.2.2.2.2.2.2.2.2.2.2.2.2.2.2.2.2.2.2.2.2.2.2.2.2.2.2.2.2.2.2.2.2.2.2.2.1
theorem w_cmatches_t {M : JM} {X : Int} (h : WSt X M) : M 0 (X + 209) 0 = 1 := (h.get pk_cmatches).1
theorem w_cmatches_n {M : JM} {X : Int} (h : WSt X M) : M 1 (X + 209) 0 = 7680 := (h.get pk_cmatches).2.1
theorem pk_twords : pck PF 210 20 0 [(1100, 211)] [] = true := pkall.2.2.2.2.2.2.2.2.2.2.2.2.2.2.2.2.2.2.2.2.2.2.2.2.2.2.2.2.2.2.2.2.2.2.2.2.2.2.1
theorem w_twords_t {M : JM} {X : Int} (h : WSt X M) : M 0 (X + 210) 0 = 20 := (h.get pk_twords).1
theorem w_twords_1100 {M : JM} {X : Int} (h : WSt X M) : M 1100 (X + 210) 0 = X + 211 := (h.get pk_twords).2.2.1 (1100, 211) (by decide) (by decide) (by decide) (by decide) (by decide)
theorem pk_cwords : pck PF 211 1 240 [] [] = true := pkall.2.2.2.2.2.2.2.2.2.2.2.2.2.2.2.2.2.2.2.2.2.2.2.2.2.2.2.2.2.2.2.2.2.2.2.2.2.2.2.1
theorem w_cwords_t {M : JM} {X : Int} (h : WSt X M) : M 0 (X + 211) 0 = 1 := (h.get pk_cwords).1
theorem w_cwords_n {M : JM} {X : Int} (h : WSt X M) : M 1 (X + 211) 0 = 240 := (h.get pk_cwords).2.1
theorem pk_truns : pck PF 212 20 0 [(1100, 213)] [] = true := pkall.2.2.2.2.2.2.2.2.2.2.2.2.2.2.2.2.2.2.2.2.2.2.2.2.2.2.2.2.2.2.2.2.2.2.2.2.2.2.2.2.1
theorem w_truns_t {M : JM} {X : Int} (h : WSt X M) : M 0 (X + 212) 0 = 20 := (h.get pk_truns).1
theorem w_truns_1100 {M : JM} {X : Int} (h : WSt X M) : M 1100 (X + 212) 0 = X + 213 := (h.get pk_truns).2.2.1 (1100, 213) (by decide) (by decide) (by decide) (by decide) (by decide)
theorem pk_cruns : pck PF 213 1 720 [] [] = true := pkall.2.2.2.2.2.2.2.2.2.2.2.2.2.2.2.2.2.2.2.2.2.2.2.2.2.2.2.2.2.2.2.2.2.2.2.2.2.2.2.2.2.1
theorem w_cruns_t {M : JM} {X : Int} (h : WSt X M) : M 0 (X + 213) 0 = 1 := (h.get pk_cruns).1
theorem w_cruns_n {M : JM} {X : Int} (h : WSt X M) : M 1 (X + 213) 0 = 720 := (h.get pk_cruns).2.1
theorem pk_tsteps : pck PF 214 20 0 [(1100, 215)] [] = true := pkall.2.2.2.2.2.2.2.2.2.2.2.2.2.2.2.2.2.2.2.2.2.2.2.2.2.2.2.2.2.2.2.2.2.2.2.2.2.2.2.2.2.2.1
theorem w_tsteps_t {M : JM} {X : Int} (h : WSt X M) : M 0 (X + 214) 0 = 20 := (h.get pk_tsteps).1
theorem w_tsteps_1100 {M : JM} {X : Int} (h : WSt X M) : M 1100 (X + 214) 0 = X + 215 := (h.get pk_tsteps).2.2.1 (1100, 215) (by decide) (by decide) (by decide) (by decide) (by decide)
theorem pk_csteps : pck PF 215 1 720 [] [] = true := pkall.2.2.2.2.2.2.2.2.2.2.2.2.2.2.2.2.2.2.2.2.2.2.2.2.2.2.2.2.2.2.2.2.2.2.2.2.2.2.2.2.2.2.2.1
theorem w_csteps_t {M : JM} {X : Int} (h : WSt X M) : M 0 (X + 215) 0 = 1 := (h.get pk_csteps).1
theorem w_csteps_n {M : JM} {X : Int} (h : WSt X M) : M 1 (X + 215) 0 = 720 := (h.get pk_csteps).2.1
theorem pk_tpairs : pck PF 216 20 0 [(1100, 217)] [] = true := pkall.2.2.2.2.2.2.2.2.2.2.2.2.2.2.2.2.2.2.2.2.2.2.2.2.2.2.2.2.2.2.2.2.2.2.2.2.2.2.2.2.2.2.2.2.1
theorem w_tpairs_t {M : JM} {X : Int} (h : WSt X M) : M 0 (X + 216) 0 = 20 := (h.get pk_tpairs).1
theorem w_tpairs_1100 {M : JM} {X : Int} (h : WSt X M) : M 1100 (X + 216) 0 = X + 217 := (h.get pk_tpairs).2.2.1 (1100, 217) (by decide) (by decide) (by decide) (by decide) (by decide)
theorem pk_cpairs : pck PF 217 1 480 [] [] = true := pkall.2.2.2.2.2.2.2.2.2.2.2.2.2.2.2.2.2.2.2.2.2.2.2.2.2.2.2.2.2.2.2.2.2.2.2.2.2.2.2.2.2.2.2.2.2.1
theorem w_cpairs_t {M : JM} {X : Int} (h : WSt X M) : M 0 (X + 217) 0 = 1 := (h.get pk_cpairs).1
theorem w_cpairs_n {M : JM} {X : Int} (h : WSt X M) : M 1 (X + 217) 0 = 480 := (h.get pk_cpairs).2.1
theorem pk_model : pck PF 218 22 0 [(1301, 219), (1302, 220), (1304, 221), (1305, 222), (1306, 223), (1307, 224), (1308, 225), (1309, 226), (1311, 227), (1312, 228), (1314, 229), (1315, 230), (1317, 231), (1318, 232), (1320, 233), (1321, 234), (1322, 235), (1323, 236), (1324, 237), (1325, 238), (1326, 239), (1328, 240), (1329, 241), (1330, 242), (1332, 243), (1333, 244), (1334, 245), (1336, 246), (1337, 247), (1338, 248), (1340, 249), (1341, 250), (1344, 251), (1345, 252), (1346, 253), (1347, 254), (1348, 255), (1350, 256), (1351, 257)] [] = true := pkall.2.2.2.2.2.2.2.2.2.2.2.2.2.2.2.2.2.2.2.2.2.2.2.2.2.2.2.2.2.2.2.2.2.2.2.2.2.2.2.2.2.2.2.2.2.2.1
theorem w_model_t {M : JM} {X : Int} (h : WSt X M) : M 0 (X + 218) 0 = 22 := (h.get pk_model).1
theorem w_model_1301 {M : JM} {X : Int} (h : WSt X M) : M 1301 (X + 218) 0 = X + 219 := (h.get pk_model).2.2.1 (1301, 219) (by decide) (by decide) (by decide) (by decide) (by decide)
theorem w_model_1302 {M : JM} {X : Int} (h : WSt X M) : M 1302 (X + 218) 0 = X + 220 := (h.get pk_model).2.2.1 (1302, 220) (by decide) (by decide) (by decide) (by decide) (by decide)
theorem w_model_1304 {M : JM} {X : Int} (h : WSt X M) : M 1304 (X + 218) 0 = X + 221 := (h.get pk_model).2.2.1 (1304, 221) (by decide) (by decide) (by decide) (by decide) (by decide)
theorem w_model_1305 {M : JM} {X : Int} (h : WSt X M) : M 1305 (X + 218) 0 = X + 222 := (h.get pk_model).2.2.1 (1305, 222) (by decide) (by decide) (by decide) (by decide) (by decide)
theorem w_model_1306 {M : JM} {X : Int} (h : WSt X M) : M 1306 (X + 218) 0 = X + 223 := (h.get pk_model).2.2.1 (1306, 223) (by decide) (by decide) (by decide) (by decide) (by decide)
theorem w_model_1307 {M : JM} {X : Int} (h : WSt X M) : M 1307 (X + 218) 0 = X + 224 := (h.get pk_model).2.2.1 (1307, 224) (by decide) (by decide) (by decide) (by decide) (by decide)
theorem w_model_1308 {M : JM} {X : Int} (h : WSt X M) : M 1308 (X + 218) 0 = X + 225 := (h.get pk_model).2.2.1 (1308, 225) (by decide) (by decide) (by decide) (by decide) (by decide)
theorem w_model_1309 {M : JM} {X : Int} (h : WSt X M) : M 1309 (X + 218) 0 = X + 226 := (h.get pk_model).2.2.1 (1309, 226) (by decide) (by decide) (by decide) (by decide) (by decide)
theorem w_model_1311 {M : JM} {X : Int} (h : WSt X M) : M 1311 (X + 218) 0 = X + 227 := (h.get pk_model).2.2.1 (1311, 227) (by decide) (by decide) (by decide) (by decide) (by decide)
theorem w_model_1312 {M : JM} {X : Int} (h : WSt X M) : M 1312 (X + 218) 0 = X + 228 := (h.get pk_model).2.2.1 (1312, 228) (by decide) (by decide) (by decide) (by decide) (by decide)
theorem w_model_1314 {M : JM} {X : Int} (h : WSt X M) : M 1314 (X + 218) 0 = X + 229 := (h.get pk_model).2.2.1 (1314, 229) (by decide) (by decide) (by decide) (by decide) (by decide)
theorem w_model_1315 {M : JM} {X : Int} (h : WSt X M) : M 1315 (X + 218) 0 = X + 230 := (h.get pk_model).2.2.1 (1315, 230) (by decide) (by decide) (by decide) (by decide) (by decide)
theorem w_model_1317 {M : JM} {X : Int} (h : WSt X M) : M 1317 (X + 218) 0 = X + 231 := (h.get pk_model).2.2.1 (1317, 231) (by decide) (by decide) (by decide) (by decide) (by decide)
theorem w_model_1318 {M : JM} {X : Int} (h : WSt X M) : M 1318 (X + 218) 0 = X + 232 := (h.get pk_model).2.2.1 (1318, 232) (by decide) (by decide) (by decide) (by decide) (by decide)
theorem w_model_1320 {M : JM} {X : Int} (h : WSt X M) : M 1320 (X + 218) 0 = X + 233 := (h.get pk_model).2.2.1 (1320, 233) (by decide) (by decide) (by decide) (by decide) (by decide)
theorem w_model_1321 {M : JM} {X : Int} (h : WSt X M) : M 1321 (X + 218) 0 = X + 234 := (h.get pk_model).2.2.1 (1321, 234) (by decide) (by decide) (by decide) (by decide) (by decide)
theorem w_model_1322 {M : JM} {X : Int} (h : WSt X M) : M 1322 (X + 218) 0 = X + 235 := (h.get pk_model).2.2.1 (1322, 235) (by decide) (by decide) (by decide) (by decide) (by decide)
theorem w_model_1323 {M : JM} {X : Int} (h : WSt X M) : M 1323 (X + 218) 0 = X + 236 := (h.get pk_model).2.2.1 (1323, 236) (by decide) (by decide) (by decide) (by decide) (by decide)
theorem w_model_1324 {M : JM} {X : Int} (h : WSt X M) : M 1324 (X + 218) 0 = X + 237 := (h.get pk_model).2.2.1 (1324, 237) (by decide) (by decide) (by decide) (by decide) (by decide)
theorem w_model_1325 {M : JM} {X : Int} (h : WSt X M) : M 1325 (X + 218) 0 = X + 238 := (h.get pk_model).2.2.1 (1325, 238) (by decide) (by decide) (by decide) (by decide) (by decide)
theorem w_model_1326 {M : JM} {X : Int} (h : WSt X M) : M 1326 (X + 218) 0 = X + 239 := (h.get pk_model).2.2.1 (1326, 239) (by decide) (by decide) (by decide) (by decide) (by decide)
theorem w_model_1328 {M : JM} {X : Int} (h : WSt X M) : M 1328 (X + 218) 0 = X + 240 := (h.get pk_model).2.2.1 (1328, 240) (by decide) (by decide) (by decide) (by decide) (by decide)
theorem w_model_1329 {M : JM} {X : Int} (h : WSt X M) : M 1329 (X + 218) 0 = X + 241 := (h.get pk_model).2.2.1 (1329, 241) (by decide) (by decide) (by decide) (by decide) (by decide)
theorem w_model_1330 {M : JM} {X : Int} (h : WSt X M) : M 1330 (X + 218) 0 = X + 242 := (h.get pk_model).2.2.1 (1330, 242) (by decide) (by decide) (by decide) (by decide) (by decide)
theorem w_model_1332 {M : JM} {X : Int} (h : WSt X M) : M 1332 (X + 218) 0 = X + 243 := (h.get pk_model).2.2.1 (1332, 243) (by decide) (by decide) (by decide) (by decide) (by decide)
theorem w_model_1333 {M : JM} {X : Int} (h : WSt X M) : M 1333 (X + 218) 0 = X + 244 := (h.get pk_model).2.2.1 (1333, 244) (by decide) (by decide) (by decide) (by decide) (by decide)
theorem w_model_1334 {M : JM} {X : Int} (h : WSt X M) : M 1334 (X + 218) 0 = X + 245 := (h.get pk_model).2.2.1 (1334, 245) (by decide) (by decide) (by decide) (by decide) (by decide)
theorem w_model_1336 {M : JM} {X : Int} (h : WSt X M) : M 1336 (X + 218) 0 = X + 246 := (h.get pk_model).2.2.1 (1336, 246) (by decide) (by decide) (by decide) (by decide) (by decide)
theorem w_model_1337 {M : JM} {X : Int} (h : WSt X M) : M 1337 (X + 218) 0 = X + 247 := (h.get pk_model).2.2.1 (1337, 247) (by decide) (by decide) (by decide) (by decide) (by decide)
theorem w_model_1338 {M : JM} {X : Int} (h : WSt X M) : M 1338 (X + 218) 0 = X + 248 := (h.get pk_model).2.2.1 (1338, 248) (by decide) (by decide) (by decide) (by decide) (by decide)
theorem w_model_1340 {M : JM} {X : Int} (h : WSt X M) : M 1340 (X + 218) 0 = X + 249 := (h.get pk_model).2.2.1 (1340, 249) (by decide) (by decide) (by decide) (by decide) (by decide)
theorem w_model_1341 {M : JM} {X : Int} (h : WSt X M) : M 1341 (X + 218) 0 = X + 250 := (h.get pk_model).2.2.1 (1341, 250) (by decide) (by decide) (by decide) (by decide) (by decide)
theorem w_model_1344 {M : JM} {X : Int} (h : WSt X M) : M 1344 (X + 218) 0 = X + 251 := (h.get pk_model).2.2.1 (1344, 251) (by decide) (by decide) (by decide) (by decide) (by decide)
theorem w_model_1345 {M : JM} {X : Int} (h : WSt X M) : M 1345 (X + 218) 0 = X + 252 := (h.get pk_model).2.2.1 (1345, 252) (by decide) (by decide) (by decide) (by decide) (by decide)
theorem w_model_1346 {M : JM} {X : Int} (h : WSt X M) : M 1346 (X + 218) 0 = X + 253 := (h.get pk_model).2.2.1 (1346, 253) (by decide) (by decide) (by decide) (by decide) (by decide)
theorem w_model_1347 {M : JM} {X : Int} (h : WSt X M) : M 1347 (X + 218) 0 = X + 254 := (h.get pk_model).2.2.1 (1347, 254) (by decide) (by decide) (by decide) (by decide) (by decide)
theorem w_model_1348 {M : JM} {X : Int} (h : WSt X M) : M 1348 (X + 218) 0 = X + 255 := (h.get pk_model).2.2.1 (1348, 255) (by decide) (by decide) (by decide) (by decide) (by decide)
theorem w_model_1350 {M : JM} {X : Int} (h : WSt X M) : M 1350 (X + 218) 0 = X + 256 := (h.get pk_model).2.2.1 (1350, 256) (by decide) (by decide) (by decide) (by decide) (by decide)
theorem w_model_1351 {M : JM} {X : Int} (h : WSt X M) : M 1351 (X + 218) 0 = X + 257 := (h.get pk_model).2.2.1 (1351, 257) (by decide) (by decide) (by decide) (by decide) (by decide)
theorem pk_m1301 : pck PF 219 1 40 [] [] = true := pkall.2.2.2.2.2.2.2.2.2.2.2.2.2.2.2.2.2.2.2.2.2.2.2.2.2.2.2.2.2.2.2.2.2.2.2.2.2.2.2.2.2.2.2.2.2.2.2.1
theorem w_m1301_t {M : JM} {X : Int} (h : WSt X M) : M 0 (X + 219) 0 = 1 := (h.get pk_m1301).1
theorem w_m1301_n {M : JM} {X : Int} (h : WSt X M) : M 1 (X + 219) 0 = 40 := (h.get pk_m1301).2.1
theorem pk_m1302 : pck PF 220 1 9600 [] [] = true := pkall.2.2.2.2.2.2.2.2.2.2.2.2.2.2.2.2.2.2.2.2.2.2.2.2.2.2.2.2.2.2.2.2.2.2.2.2.2.2.2.2.2.2.2.2.2.2.2.2.1
theorem w_m1302_t {M : JM} {X : Int} (h : WSt X M) : M 0 (X + 220) 0 = 1 := (h.get pk_m1302).1
theorem w_m1302_n {M : JM} {X : Int} (h : WSt X M) : M 1 (X + 220) 0 = 9600 := (h.get pk_m1302).2.1
theorem pk_m1304 : pck PF 221 1 20 [] [] = true := pkall.2.2.2.2.2.2.2.2.2.2.2.2.2.2.2.2.2.2.2.2.2.2.2.2.2.2.2.2.2.2.2.2.2.2.2.2.2.2.2.2.2.2.2.2.2.2.2.2.2.1
theorem w_m1304_t {M : JM} {X : Int} (h : WSt X M) : M 0 (X + 221) 0 = 1 := (h.get pk_m1304).1
theorem w_m1304_n {M : JM} {X : Int} (h : WSt X M) : M 1 (X + 221) 0 = 20 := (h.get pk_m1304).2.1
theorem pk_m1305 : pck PF 222 2 20 [] [] = true := pkall.2.2.2.2.2.2.2.2.2.2.2.2.2.2.2.2.2.2.2.2.2.2.2.2.2.2.2.2.2.2.2.2.2.2.2.2.2.2.2.2.2.2.2.2.2.2.2.2.2.2.1
theorem w_m1305_t {M : JM} {X : Int} (h : WSt X M) : M 0 (X + 222) 0 = 2 := (h.get pk_m1305).1
theorem w_m1305_n {M : JM} {X : Int} (h : WSt X M) : M 1 (X + 222) 0 = 20 := (h.get pk_m1305).2.1
theorem pk_m1306 : pck PF 223 1 20 [] [] = true := pkall.2.2.2.2.2.2.2.2.2.2.2.2.2.2.2.2.2.2.2.2.2.2.2.2.2.2.2.2.2.2.2.2.2.2.2.2.2.2.2.2.2.2.2.2.2.2.2.2.2.2.2.1
theorem w_m1306_t {M : JM} {X : Int} (h : WSt X M) : M 0 (X + 223) 0 = 1 := (h.get pk_m1306).1
theorem w_m1306_n {M : JM} {X : Int} (h : WSt X M) : M 1 (X + 223) 0 = 20 := (h.get pk_m1306).2.1
theorem pk_m1307 : pck PF 224 1 4800 [] [] = true := pkall.2.2.2.2.2.2.2.2.2.2.2.2.2.2.2.2.2.2.2.2.2.2.2.2.2.2.2.2.2.2.2.2.2.2.2.2.2.2.2.2.2.2.2.2.2.2.2.2.2.2.2.2.1
theorem w_m1307_t {M : JM} {X : Int} (h : WSt X M) : M 0 (X + 224) 0 = 1 := (h.get pk_m1307).1
theorem w_m1307_n {M : JM} {X : Int} (h : WSt X M) : M 1 (X + 224) 0 = 4800 := (h.get pk_m1307).2.1
theorem pk_m1308 : pck PF 225 1 58081 [] [] = true := pkall.2.2.2.2.2.2.2.2.2.2.2.2.2.2.2.2.2.2.2.2.2.2.2.2.2.2.2.2.2.2.2.2.2.2.2.2.2.2.2.2.2.2.2.2.2.2.2.2.2.2.2.2.2.1
theorem w_m1308_t {M : JM} {X : Int} (h : WSt X M) : M 0 (X + 225) 0 = 1 := (h.get pk_m1308).1
theorem w_m1308_n {M : JM} {X : Int} (h : WSt X M) : M 1 (X + 225) 0 = 58081 := (h.get pk_m1308).2.1
theorem pk_m1309 : pck PF 226 1 241 [] [] = true := pkall.2.2.2.2.2.2.2.2.2.2.2.2.2.2.2.2.2.2.2.2.2.2.2.2.2.2.2.2.2.2.2.2.2.2.2.2.2.2.2.2.2.2.2.2.2.2.2.2.2.2.2.2.2.2.1
theorem w_m1309_t {M : JM} {X : Int} (h : WSt X M) : M 0 (X + 226) 0 = 1 := (h.get pk_m1309).1
theorem w_m1309_n {M : JM} {X : Int} (h : WSt X M) : M 1 (X + 226) 0 = 241 := (h.get pk_m1309).2.1
theorem pk_m1311 : pck PF 227 1 16 [] [] = true := pkall.2.2.2.2.2.2.2.2.2.2.2.2.2.2.2.2.2.2.2.2.2.2.2.2.2.2.2.2.2.2.2.2.2.2.2.2.2.2.2.2.2.2.2.2.2.2.2.2.2.2.2.2.2.2.2.1
theorem w_m1311_t {M : JM} {X : Int} (h : WSt X M) : M 0 (X + 227) 0 = 1 := (h.get pk_m1311).1
theorem w_m1311_n {M : JM} {X : Int} (h : WSt X M) : M 1 (X + 227) 0 = 16 := (h.get pk_m1311).2.1
theorem pk_m1312 : pck PF 228 1 640 [] [] = true := pkall.2.2.2.2.2.2.2.2.2.2.2.2.2.2.2.2.2.2.2.2.2.2.2.2.2.2.2.2.2.2.2.2.2.2.2.2.2.2.2.2.2.2.2.2.2.2.2.2.2.2.2.2.2.2.2.2.1
theorem w_m1312_t {M : JM} {X : Int} (h : WSt X M) : M 0 (X + 228) 0 = 1 := (h.get pk_m1312).1
theorem w_m1312_n {M : JM} {X : Int} (h : WSt X M) : M 1 (X + 228) 0 = 640 := (h.get pk_m1312).2.1
theorem pk_m1314 : pck PF 229 1 3840 [] [] = true := pkall.2.2.2.2.2.2.2.2.2.2.2.2.2.2.2.2.2.2.2.2.2.2.2.2.2.2.2.2.2.2.2.2.2.2.2.2.2.2.2.2.2.2.2.2.2.2.2.2.2.2.2.2.2.2.2.2.2.1
theorem w_m1314_t {M : JM} {X : Int} (h : WSt X M) : M 0 (X + 229) 0 = 1 := (h.get pk_m1314).1
theorem w_m1314_n {M : JM} {X : Int} (h : WSt X M) : M 1 (X + 229) 0 = 3840 := (h.get pk_m1314).2.1
theorem pk_m1315 : pck PF 230 1 3840 [] [] = true := pkall.2.2.2.2.2.2.2.2.2.2.2.2.2.2.2.2.2.2.2.2.2.2.2.2.2.2.2.2.2.2.2.2.2.2.2.2.2.2.2.2.2.2.2.2.2.2.2.2.2.2.2.2.2.2.2.2.2.2.1
theorem w_m1315_t {M : JM} {X : Int} (h : WSt X M) : M 0 (X + 230) 0 = 1 := (h.get pk_m1315).1
theorem w_m1315_n {M : JM} {X : Int} (h : WSt X M) : M 1 (X + 230) 0 = 3840 := (h.get pk_m1315).2.1
theorem pk_m1317 : pck PF 231 1 240 [] [] = true := pkall.2.2.2.2.2.2.2.2.2.2.2.2.2.2.2.2.2.2.2.2.2.2.2.2.2.2.2.2.2.2.2.2.2.2.2.2.2.2.2.2.2.2.2.2.2.2.2.2.2.2.2.2.2.2.2.2.2.2.2.1
theorem w_m1317_t {M : JM} {X : Int} (h : WSt X M) : M 0 (X + 231) 0 = 1 := (h.get pk_m1317).1
theorem w_m1317_n {M : JM} {X : Int} (h : WSt X M) : M 1 (X + 231) 0 = 240 := (h.get pk_m1317).2.1
theorem pk_m1318 : pck PF 232 1 241 [] [] = true := pkall.2.2.2.2.2.2.2.2.2.2.2.2.2.2.2.2.2.2.2.2.2.2.2.2.2.2.2.2.2.2.2.2.2.2.2.2.2.2.2.2.2.2.2.2.2.2.2.2.2.2.2.2.2.2.2.2.2.2.2.2.1
theorem w_m1318_t {M : JM} {X : Int} (h : WSt X M) : M 0 (X + 232) 0 = 1 := (h.get pk_m1318).1
theorem w_m1318_n {M : JM} {X : Int} (h : WSt X M) : M 1 (X + 232) 0 = 241 := (h.get pk_m1318).2.1
theorem pk_m1320 : pck PF 233 1 9600 [] [] = true := pkall.2.2.2.2.2.2.2.2.2.2.2.2.2.2.2.2.2.2.2.2.2.2.2.2.2.2.2.2.2.2.2.2.2.2.2.2.2.2.2.2.2.2.2.2.2.2.2.2.2.2.2.2.2.2.2.2.2.2.2.2.2.1
theorem w_m1320_t {M : JM} {X : Int} (h : WSt X M) : M 0 (X + 233) 0 = 1 := (h.get pk_m1320).1
theorem w_m1320_n {M : JM} {X : Int} (h : WSt X M) : M 1 (X + 233) 0 = 9600 := (h.get pk_m1320).2.1
theorem pk_m1321 : pck PF 234 1 9600 [] [] = true := pkall.2.2.2.2.2.2.2.2.2.2.2.2.2.2.2.2.2.2.2.2.2.2.2.2.2.2.2.2.2.2.2.2.2.2.2.2.2.2.2.2.2.2.2.2.2.2.2.2.2.2.2.2.2.2.2.2.2.2.2.2.2.2.1
theorem w_m1321_t {M : JM} {X : Int} (h : WSt X M) : M 0 (X + 234) 0 = 1 := (h.get pk_m1321).1
theorem w_m1321_n {M : JM} {X : Int} (h : WSt X M) : M 1 (X + 234) 0 = 9600 := (h.get pk_m1321).2.1
theorem pk_m1322 : pck PF 235 1 76800 [] [] = true := pkall.2.2.2.2.2.2.2.2.2.2.2.2.2.2.2.2.2.2.2.2.2.2.2.2.2.2.2.2.2.2.2.2.2.2.2.2.2.2.2.2.2.2.2.2.2.2.2.2.2.2.2.2.2.2.2.2.2.2.2.2.2.2.2.1
theorem w_m1322_t {M : JM} {X : Int} (h : WSt X M) : M 0 (X + 235) 0 = 1 := (h.get pk_m1322).1
theorem w_m1322_n {M : JM} {X : Int} (h : WSt X M) : M 1 (X + 235) 0 = 76800 := (h.get pk_m1322).2.1
theorem pk_m1323 : pck PF 236 1 9600 [] [] = true := pkall.2.2.2.2.2.2.2.2.2.2.2.2.2.2.2.2.2.2.2.2.2.2.2.2.2.2.2.2.2.2.2.2.2.2.2.2.2.2.2.2.2.2.2.2.2.2.2.2.2.2.2.2.2.2.2.2.2.2.2.2.2.2.2.2.1
theorem w_m1323_t {M : JM} {X : Int} (h : WSt X M) : M 0 (X + 236) 0 = 1 := (h.get pk_m1323).1
theorem w_m1323_n {M : JM} {X : Int} (h : WSt X M) : M 1 (X + 236) 0 = 9600 := (h.get pk_m1323).2.1
theorem pk_m1324 : pck PF 237 1 9600 [] [] = true := pkall.2.2.2.2.2.2.2.2.2.2.2.2.2.2.2.2.2.2.2.2.2.2.2.2.2.2.2.2.2.2.2.2.2.2.2.2.2.2.2.2.2.2.2.2.2.2.2.2.2.2.2.2.2.2.2.2.2.2.2.2.2.2.2.2.2.1
theorem w_m1324_t {M : JM} {X : Int} (h : WSt X M) : M 0 (X + 237) 0 = 1 := (h.get pk_m1324).1
theorem w_m1324_n {M : JM} {X : Int} (h : WSt X M) : M 1 (X + 237) 0 = 9600 := (h.get pk_m1324).2.1
theorem pk_m1325 : pck PF 238 1 9600 [] [] = true := pkall.2.2.2.2.2.2.2.2.2.2.2.2.2.2.2.2.2.2.2.2.2.2.2.2.2.2.2.2.2.2.2.2.2.2.2.2.2.2.2.2.2.2.2.2.2.2.2.2.2.2.2.2.2.2.2.2.2.2.2.2.2.2.2.2.2.2.1
theorem w_m1325_t {M : JM} {X : Int} (h : WSt X M) : M 0 (X + 238) 0 = 1 := (h.get pk_m1325).1
theorem w_m1325_n {M : JM} {X : Int} (h : WSt X M) : M 1 (X + 238) 0 = 9600 := (h.get pk_m1325).2.1
theorem pk_m1326 : pck PF 239 1 65537 [] [] = true := pkall.2.2.2.2.2.2.2.2.2.2.2.2.2.2.2.2.2.2.2.2.2.2.2.2.2.2.2.2.2.2.2.2.2.2.2.2.2.2.2.2.2.2.2.2.2.2.2.2.2.2.2.2.2.2.2.2.2.2.2.2.2.2.2.2.2.2.2.1
theorem w_m1326_t {M : JM} {X : Int} (h : WSt X M) : M 0 (X + 239) 0 = 1 := (h.get pk_m1326).1
theorem w_m1326_n {M : JM} {X : Int} (h : WSt X M) : M 1 (X + 239) 0 = 65537 := (h.get pk_m1326).2.1
theorem pk_m1328 : pck PF 240 1 600 [] [] = true := pkall.2.2.2.2.2.2.2.2.2.2.2.2.2.2.2.2.2.2.2.2.2.2.2.2.2.2.2.2.2.2.2.2.2.2.2.2.2.2.2.2.2.2.2.2.2.2.2.2.2.2.2.2.2.2.2.2.2.2.2.2.2.2.2.2.2.2.2.2.1
theorem w_m1328_t {M : JM} {X : Int} (h : WSt X M) : M 0 (X + 240) 0 = 1 := (h.get pk_m1328).1
theorem w_m1328_n {M : JM} {X : Int} (h : WSt X M) : M 1 (X + 240) 0 = 600 := (h.get pk_m1328).2.1
theorem pk_m1329 : pck PF 241 1 600 [] [] = true := pkall.2.2.2.2.2.2.2.2.2.2.2.2.2.2.2.2.2.2.2.2.2.2.2.2.2.2.2.2.2.2.2.2.2.2.2.2.2.2.2.2.2.2.2.2.2.2.2.2.2.2.2.2.2.2.2.2.2.2.2.2.2.2.2.2.2.2.2.2.2.1
theorem w_m1329_t {M : JM} {X : Int} (h : WSt X M) : M 0 (X + 241) 0 = 1 := (h.get pk_m1329).1
theorem w_m1329_n {M : JM} {X : Int} (h : WSt X M) : M 1 (X + 241) 0 = 600 := (h.get pk_m1329).2.1
theorem pk_m1330 : pck PF 242 1 600 [] [] = true := pkall.2.2.2.2.2.2.2.2.2.2.2.2.2.2.2.2.2.2.2.2.2.2.2.2.2.2.2.2.2.2.2.2.2.2.2.2.2.2.2.2.2.2.2.2.2.2.2.2.2.2.2.2.2.2.2.2.2.2.2.2.2.2.2.2.2.2.2.2.2.2.1
theorem w_m1330_t {M : JM} {X : Int} (h : WSt X M) : M 0 (X + 242) 0 = 1 := (h.get pk_m1330).1
theorem w_m1330_n {M : JM} {X : Int} (h : WSt X M) : M 1 (X + 242) 0 = 600 := (h.get pk_m1330).2.1
theorem pk_m1332 : pck PF 243 1 240 [] [] = true := pkall.2.2.2.2.2.2.2.2.2.2.2.2.2.2.2.2.2.2.2.2.2.2.2.2.2.2.2.2.2.2.2.2.2.2.2.2.2.2.2.2.2.2.2.2.2.2.2.2.2.2.2.2.2.2.2.2.2.2.2.2.2.2.2.2.2.2.2.2.2.2.2.1
theorem w_m1332_t {M : JM} {X : Int} (h : WSt X M) : M 0 (X + 243) 0 = 1 := (h.get pk_m1332).1
theorem w_m1332_n {M : JM} {X : Int} (h : WSt X M) : M 1 (X + 243) 0 = 240 := (h.get pk_m1332).2.1
theorem pk_m1333 : pck PF 244 1 241 [] [] = true := pkall.2.2.2.2.2.2.2.2.2.2.2.2.2.2.2.2.2.2.2.2.2.2.2.2.2.2.2.2.2.2.2.2.2.2.2.2.2.2.2.2.2.2.2.2.2.2.2.2.2.2.2.2.2.2.2.2.2.2.2.2.2.2.2.2.2.2.2.2.2.2.2.2.1
theorem w_m1333_t {M : JM} {X : Int} (h : WSt X M) : M 0 (X + 244) 0 = 1 := (h.get pk_m1333).1
theorem w_m1333_n {M : JM} {X : Int} (h : WSt X M) : M 1 (X + 244) 0 = 241 := (h.get pk_m1333).2.1
theorem pk_m1334 : pck PF 245 1 58081 [] [] = true := pkall.2.2.2.2.2.2.2.2.2.2.2.2.2.2.2.2.2.2.2.2.2.2.2.2.2.2.2.2.2.2.2.2.2.2.2.2.2.2.2.2.2.2.2.2.2.2.2.2.2.2.2.2.2.2.2.2.2.2.2.2.2.2.2.2.2.2.2.2.2.2.2.2.2.1
theorem w_m1334_t {M : JM} {X : Int} (h : WSt X M) : M 0 (X + 245) 0 = 1 := (h.get pk_m1334).1
theorem w_m1334_n {M : JM} {X : Int} (h : WSt X M) : M 1 (X + 245) 0 = 58081 := (h.get pk_m1334).2.1
theorem pk_m1336 : pck PF 246 1 480 [] [] = true := pkall.2.2.2.2.2.2.2.2.2.2.2.2.2.2.2.2.2.2.2.2.2.2.2.2.2.2.2.2.2.2.2.2.2.2.2.2.2.2.2.2.2.2.2.2.2.2.2.2.2.2.2.2.2.2.2.2.2.2.2.2.2.2.2.2.2.2.2.2.2.2.2.2.2.2.1
theorem w_m1336_t {M : JM} {X : Int} (h : WSt X M) : M 0 (X + 246) 0 = 1 := (h.get pk_m1336).1
theorem w_m1336_n {M : JM} {X : Int} (h : WSt X M) : M 1 (X + 246) 0 = 480 := (h.get pk_m1336).2.1
theorem pk_m1337 : pck PF 247 1 480 [] [] = true := pkall.2.2.2.2.2.2.2.2.2.2.2.2.2.2.2.2.2.2.2.2.2.2.2.2.2.2.2.2.2.2.2.2.2.2.2.2.2.2.2.2.2.2.2.2.2.2.2.2.2.2.2.2.2.2.2.2.2.2.2.2.2.2.2.2.2.2.2.2.2.2.2.2.2.2.2.1
theorem w_m1337_t {M : JM} {X : Int} (h : WSt X M) : M 0 (X + 247) 0 = 1 := (h.get pk_m1337).1
theorem w_m1337_n {M : JM} {X : Int} (h : WSt X M) : M 1 (X + 247) 0 = 480 := (h.get pk_m1337).2.1
theorem pk_m1338 : pck PF 248 1 480 [] [] = true := pkall.2.2.2.2.2.2.2.2.2.2.2.2.2.2.2.2.2.2.2.2.2.2.2.2.2.2.2.2.2.2.2.2.2.2.2.2.2.2.2.2.2.2.2.2.2.2.2.2.2.2.2.2.2.2.2.2.2.2.2.2.2.2.2.2.2.2.2.2.2.2.2.2.2.2.2.2.1
theorem w_m1338_t {M : JM} {X : Int} (h : WSt X M) : M 0 (X + 248) 0 = 1 := (h.get pk_m1338).1
theorem w_m1338_n {M : JM} {X : Int} (h : WSt X M) : M 1 (X + 248) 0 = 480 := (h.get pk_m1338).2.1
theorem pk_m1340 : pck PF 249 1 240 [] [] = true := pkall.2.2.2.2.2.2.2.2.2.2.2.2.2.2.2.2.2.2.2.2.2.2.2.2.2.2.2.2.2.2.2.2.2.2.2.2.2.2.2.2.2.2.2.2.2.2.2.2.2.2.2.2.2.2.2.2.2.2.2.2.2.2.2.2.2.2.2.2.2.2.2.2.2.2.2.2.2.1
theorem w_m1340_t {M : JM} {X : Int} (h : WSt X M) : M 0 (X + 249) 0 = 1 := (h.get pk_m1340).1
theorem w_m1340_n {M : JM} {X : Int} (h : WSt X M) : M 1 (X + 249) 0 = 240 := (h.get pk_m1340).2.1
theorem pk_m1341 : pck PF 250 1 240 [] [] = true := pkall.2.2.2.2.2.2.2.2.2.2.2.2.2.2.2.2.2.2.2.2.2.2.2.2.2.2.2.2.2.2.2.2.2.2.2.2.2.2.2.2.2.2.2.2.2.2.2.2.2.2.2.2.2.2.2.2.2.2.2.2.2.2.2.2.2.2.2.2.2.2.2.2.2.2.2.2.2.2.1
theorem w_m1341_t {M : JM} {X : Int} (h : WSt X M) : M 0 (X + 250) 0 = 1 := (h.get pk_m1341).1
theorem w_m1341_n {M : JM} {X : Int} (h : WSt X M) : M 1 (X + 250) 0 = 240 := (h.get pk_m1341).2.1
theorem pk_m1344 : pck PF 251 1 240 [] [] = true := pkall.2.2.2.2.2.2.2.2.2.2.2.2.2.2.2.2.2.2.2.2.2.2.2.2.2.2.2.2.2.2.2.2.2.2.2.2.2.2.2.2.2.2.2.2.2.2.2.2.2.2.2.2.2.2.2.2.2.2.2.2.2.2.2.2.2.2.2.2.2.2.2.2.2.2.2.2.2.2.2.1
theorem w_m1344_t {M : JM} {X : Int} (h : WSt X M) : M 0 (X + 251) 0 = 1 := (h.get pk_m1344).1
theorem w_m1344_n {M : JM} {X : Int} (h : WSt X M) : M 1 (X + 251) 0 = 240 := (h.get pk_m1344).2.1
theorem pk_m1345 : pck PF 252 1 240 [] [] = true := pkall.2.2.2.2.2.2.2.2.2.2.2.2.2.2.2.2.2.2.2.2.2.2.2.2.2.2.2.2.2.2.2.2.2.2.2.2.2.2.2.2.2.2.2.2.2.2.2.2.2.2.2.2.2.2.2.2.2.2.2.2.2.2.2.2.2.2.2.2.2.2.2.2.2.2.2.2.2.2.2.2.1
theorem w_m1345_t {M : JM} {X : Int} (h : WSt X M) : M 0 (X + 252) 0 = 1 := (h.get pk_m1345).1
theorem w_m1345_n {M : JM} {X : Int} (h : WSt X M) : M 1 (X + 252) 0 = 240 := (h.get pk_m1345).2.1
theorem pk_m1346 : pck PF 253 1 240 [] [] = true := pkall.2.2.2.2.2.2.2.2.2.2.2.2.2.2.2.2.2.2.2.2.2.2.2.2.2.2.2.2.2.2.2.2.2.2.2.2.2.2.2.2.2.2.2.2.2.2.2.2.2.2.2.2.2.2.2.2.2.2.2.2.2.2.2.2.2.2.2.2.2.2.2.2.2.2.2.2.2.2.2.2.2.1
theorem w_m1346_t {M : JM} {X : Int} (h : WSt X M) : M 0 (X + 253) 0 = 1 := (h.get pk_m1346).1
theorem w_m1346_n {M : JM} {X : Int} (h : WSt X M) : M 1 (X + 253) 0 = 240 := (h.get pk_m1346).2.1
theorem pk_m1347 : pck PF 254 1 241 [] [] = true := pkall.2.2.2.2.2.2.2.2.2.2.2.2.2.2.2.2.2.2.2.2.2.2.2.2.2.2.2.2.2.2.2.2.2.2.2.2.2.2.2.2.2.2.2.2.2.2.2.2.2.2.2.2.2.2.2.2.2.2.2.2.2.2.2.2.2.2.2.2.2.2.2.2.2.2.2.2.2.2.2.2.2.2.1
theorem w_m1347_t {M : JM} {X : Int} (h : WSt X M) : M 0 (X + 254) 0 = 1 := (h.get pk_m1347).1
theorem w_m1347_n {M : JM} {X : Int} (h : WSt X M) : M 1 (X + 254) 0 = 241 := (h.get pk_m1347).2.1
theorem pk_m1348 : pck PF 255 1 241 [] [] = true := pkall.2.2.2.2.2.2.2.2.2.2.2.2.2.2.2.2.2.2.2.2.2.2.2.2.2.2.2.2.2.2.2.2.2.2.2.2.2.2.2.2.2.2.2.2.2.2.2.2.2.2.2.2.2.2.2.2.2.2.2.2.2.2.2.2.2.2.2.2.2.2.2.2.2.2.2.2.2.2.2.2.2.2.2.1
theorem w_m1348_t {M : JM} {X : Int} (h : WSt X M) : M 0 (X + 255) 0 = 1 := (h.get pk_m1348).1
theorem w_m1348_n {M : JM} {X : Int} (h : WSt X M) : M 1 (X + 255) 0 = 241 := (h.get pk_m1348).2.1
theorem pk_m1350 : pck PF 256 1 241 [] [] = true := pkall.2.2.2.2.2.2.2.2.2.2.2.2.2.2.2.2.2.2.2.2.2.2.2.2.2.2.2.2.2.2.2.2.2.2.2.2.2.2.2.2.2.2.2.2.2.2.2.2.2.2.2.2.2.2.2.2.2.2.2.2.2.2.2.2.2.2.2.2.2.2.2.2.2.2.2.2.2.2.2.2.2.2.2.2.1
theorem w_m1350_t {M : JM} {X : Int} (h : WSt X M) : M 0 (X + 256) 0 = 1 := (h.get pk_m1350).1
theorem w_m1350_n {M : JM} {X : Int} (h : WSt X M) : M 1 (X + 256) 0 = 241 := (h.get pk_m1350).2.1
theorem pk_m1351 : pck PF 257 1 241 [] [] = true := pkall.2.2.2.2.2.2.2.2.2.2.2.2.2.2.2.2.2.2.2.2.2.2.2.2.2.2.2.2.2.2.2.2.2.2.2.2.2.2.2.2.2.2.2.2.2.2.2.2.2.2.2.2.2.2.2.2.2.2.2.2.2.2.2.2.2.2.2.2.2.2.2.2.2.2.2.2.2.2.2.2.2.2.2.2.2.1
theorem w_m1351_t {M : JM} {X : Int} (h : WSt X M) : M 0 (X + 257) 0 = 1 := (h.get pk_m1351).1
theorem w_m1351_n {M : JM} {X : Int} (h : WSt X M) : M 1 (X + 257) 0 = 241 := (h.get pk_m1351).2.1
theorem pk_text : (List.range 40).all (fun t => pck PF (4 + 2 * t) (19 : Int) 0 [(1000, ((5 + 2 * t : Nat) : Int))] []) = true := pkall.2.2.2.2.2.2.2.2.2.2.2.2.2.2.2.2.2.2.2.2.2.2.2.2.2.2.2.2.2.2.2.2.2.2.2.2.2.2.2.2.2.2.2.2.2.2.2.2.2.2.2.2.2.2.2.2.2.2.2.2.2.2.2.2.2.2.2.2.2.2.2.2.2.2.2.2.2.2.2.2.2.2.2.2.2.2.1
theorem pk_textA : (List.range 40).all (fun t => pck PF (5 + 2 * t) 1 240 [] []) = true := pkall.2.2.2.2.2.2.2.2.2.2.2.2.2.2.2.2.2.2.2.2.2.2.2.2.2.2.2.2.2.2.2.2.2.2.2.2.2.2.2.2.2.2.2.2.2.2.2.2.2.2.2.2.2.2.2.2.2.2.2.2.2.2.2.2.2.2.2.2.2.2.2.2.2.2.2.2.2.2.2.2.2.2.2.2.2.2.2.1
theorem pk_keptO : (List.range 20).all (fun t => pck PF (84 + 3 * t) 11 0 [(200, ((85 + 3 * t : Nat) : Int))] []) = true := pkall.2.2.2.2.2.2.2.2.2.2.2.2.2.2.2.2.2.2.2.2.2.2.2.2.2.2.2.2.2.2.2.2.2.2.2.2.2.2.2.2.2.2.2.2.2.2.2.2.2.2.2.2.2.2.2.2.2.2.2.2.2.2.2.2.2.2.2.2.2.2.2.2.2.2.2.2.2.2.2.2.2.2.2.2.2.2.2.2.1
theorem pk_keptT : (List.range 20).all (fun t => pck PF (85 + 3 * t) 19 0 [(1000, ((86 + 3 * t : Nat) : Int))] []) = true := pkall.2.2.2.2.2.2.2.2.2.2.2.2.2.2.2.2.2.2.2.2.2.2.2.2.2.2.2.2.2.2.2.2.2.2.2.2.2.2.2.2.2.2.2.2.2.2.2.2.2.2.2.2.2.2.2.2.2.2.2.2.2.2.2.2.2.2.2.2.2.2.2.2.2.2.2.2.2.2.2.2.2.2.2.2.2.2.2.2.2.1
theorem pk_keptA : (List.range 20).all (fun t => pck PF (86 + 3 * t) 1 240 [] []) = true := pkall.2.2.2.2.2.2.2.2.2.2.2.2.2.2.2.2.2.2.2.2.2.2.2.2.2.2.2.2.2.2.2.2.2.2.2.2.2.2.2.2.2.2.2.2.2.2.2.2.2.2.2.2.2.2.2.2.2.2.2.2.2.2.2.2.2.2.2.2.2.2.2.2.2.2.2.2.2.2.2.2.2.2.2.2.2.2.2.2.2.2.1
theorem pk_patT : (List.range 16).all (fun t => pck PF (167 + 2 * t) 19 0 [(1000, ((168 + 2 * t : Nat) : Int))] []) = true := pkall.2.2.2.2.2.2.2.2.2.2.2.2.2.2.2.2.2.2.2.2.2.2.2.2.2.2.2.2.2.2.2.2.2.2.2.2.2.2.2.2.2.2.2.2.2.2.2.2.2.2.2.2.2.2.2.2.2.2.2.2.2.2.2.2.2.2.2.2.2.2.2.2.2.2.2.2.2.2.2.2.2.2.2.2.2.2.2.2.2.2.2.1
theorem pk_patA : (List.range 16).all (fun t => pck PF (168 + 2 * t) 1 40 [] []) = true := pkall.2.2.2.2.2.2.2.2.2.2.2.2.2.2.2.2.2.2.2.2.2.2.2.2.2.2.2.2.2.2.2.2.2.2.2.2.2.2.2.2.2.2.2.2.2.2.2.2.2.2.2.2.2.2.2.2.2.2.2.2.2.2.2.2.2.2.2.2.2.2.2.2.2.2.2.2.2.2.2.2.2.2.2.2.2.2.2.2.2.2.2.2.1
theorem pk_textE : (List.range 40).all (fun t => pck PF (2) 3 40 [] [((t : Int), ((4 + 2 * t : Nat) : Int))]) = true := pkall.2.2.2.2.2.2.2.2.2.2.2.2.2.2.2.2.2.2.2.2.2.2.2.2.2.2.2.2.2.2.2.2.2.2.2.2.2.2.2.2.2.2.2.2.2.2.2.2.2.2.2.2.2.2.2.2.2.2.2.2.2.2.2.2.2.2.2.2.2.2.2.2.2.2.2.2.2.2.2.2.2.2.2.2.2.2.2.2.2.2.2.2.2.1
theorem pk_keptE : (List.range 20).all (fun t => pck PF (3) 4 20 [] [((t : Int), ((84 + 3 * t : Nat) : Int))]) = true := pkall.2.2.2.2.2.2.2.2.2.2.2.2.2.2.2.2.2.2.2.2.2.2.2.2.2.2.2.2.2.2.2.2.2.2.2.2.2.2.2.2.2.2.2.2.2.2.2.2.2.2.2.2.2.2.2.2.2.2.2.2.2.2.2.2.2.2.2.2.2.2.2.2.2.2.2.2.2.2.2.2.2.2.2.2.2.2.2.2.2.2.2.2.2.2.1
theorem pk_patE : (List.range 16).all (fun t => pck PF (165) 3 16 [] [((t : Int), ((167 + 2 * t : Nat) : Int))]) = true := pkall.2.2.2.2.2.2.2.2.2.2.2.2.2.2.2.2.2.2.2.2.2.2.2.2.2.2.2.2.2.2.2.2.2.2.2.2.2.2.2.2.2.2.2.2.2.2.2.2.2.2.2.2.2.2.2.2.2.2.2.2.2.2.2.2.2.2.2.2.2.2.2.2.2.2.2.2.2.2.2.2.2.2.2.2.2.2.2.2.2.2.2.2.2.2.2
