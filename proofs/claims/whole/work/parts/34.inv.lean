/-! what holds between two calls -/
def CP (X : Int) (M : JM) (P : ATx) : Prop := (M 2202 (X + 164) 0 = P.1 ∧ ∀ q, 0 ≤ q → q < 16 → 0 ≤ M 2901 (X + (167 + 2 * q)) 0 ∧ M 2901 (X + (167 + 2 * q)) 0 ≤ 40) ∧ ∀ q, 0 ≤ q → q < P.1 → M 2901 (X + (167 + 2 * q)) 0 = P.2.1 q ∧ ∀ i, 0 ≤ i → i < P.2.1 q → M 2 (X + (168 + 2 * q)) i = P.2.2 q i
def RP (X : Int) (M : JM) (P : ATx) : Prop := M 3210 (X + 218) 0 = P.1 ∧ ∀ q, 0 ≤ q → q < P.1 → M 2 (X + 227) q = P.2.1 q ∧ ∀ i, 0 ≤ i → i < P.2.1 q → M 2 (X + 228) (40 * q + i) = P.2.2 q i
def AP (P : ATx) : Prop := 0 ≤ P.1 ∧ P.1 ≤ 16 ∧ ∀ q, 0 ≤ q → q < P.1 → 1 ≤ P.2.1 q ∧ P.2.1 q ≤ 40 ∧ ∀ i, 0 ≤ i → i < P.2.1 q → 0 ≤ P.2.2 q i ∧ P.2.2 q i ≤ 65535
/-- what was told: 0 matches, 1 words, 2 runs, 3 steps, 4 pairs, 5 items, 6 sorted; and the way of squeezing -/
abbrev ADt : Type := (Nat → List TR) × Int
def dset (D : ADt) (i : Nat) (l : List TR) : ADt := (fun j => if j = i then l else D.1 j, D.2)
def CD (X : Int) (M : JM) (D : ADt) : Prop := TdL M (X + 208) (X + 209) 2 3840 (D.1 0) ∧ TdL M (X + 210) (X + 211) 1 240 (D.1 1) ∧ TdL M (X + 212) (X + 213) 3 240 (D.1 2) ∧ TdL M (X + 214) (X + 215) 3 240 (D.1 3) ∧ TdL M (X + 216) (X + 217) 2 240 (D.1 4) ∧ TdL M (X + 200) (X + 201) 3 240 (D.1 5) ∧ TdL M (X + 205) (X + 206) 1 241 (D.1 6) ∧ M 2603 (X + 199) 0 = D.2
def RD1 (X : Int) (M : JM) (c : Nat) (p : Int) (l : List TR) : Prop := M c (X + 218) 0 = l.length ∧ ∀ k : Int, 0 ≤ k → k < l.length → M 2 (X + p) k = rowx l k 0
def RD2 (X : Int) (M : JM) (c : Nat) (p q : Int) (l : List TR) : Prop := M c (X + 218) 0 = l.length ∧ ∀ k : Int, 0 ≤ k → k < l.length → M 2 (X + p) k = rowx l k 0 ∧ M 2 (X + q) k = rowx l k 1
def RD3 (X : Int) (M : JM) (c : Nat) (p q r : Int) (l : List TR) : Prop := M c (X + 218) 0 = l.length ∧ ∀ k : Int, 0 ≤ k → k < l.length → M 2 (X + p) k = rowx l k 0 ∧ M 2 (X + q) k = rowx l k 1 ∧ M 2 (X + r) k = rowx l k 2
def RD (X : Int) (M : JM) (D : ADt) : Prop := RD2 X M 3213 229 230 (D.1 0) ∧ RD1 X M 3216 231 (D.1 1) ∧ RD3 X M 3227 240 241 242 (D.1 2) ∧ RD3 X M 3235 246 247 248 (D.1 3) ∧ RD2 X M 3239 249 250 (D.1 4) ∧ RD3 X M 3242 251 252 253 (D.1 5) ∧ RD1 X M 3249 256 (D.1 6) ∧ M 3243 (X + 218) 0 = D.2
/-- items of the first way can be unfolded behind s units -/
def Ex0 : List TR → Int → Prop
  | [], s => s ≤ 240
  | r :: l, s => (r.1 = 0 ∧ 0 ≤ r.2.1 ∧ r.2.1 ≤ 65535 ∧ Ex0 l (s + 1)) ∨ (r.1 = 1 ∧ 0 ≤ r.2.1 ∧ r.2.1 < s ∧ 1 ≤ r.2.2 ∧ Ex0 l (s + r.2.2))
/-- how long phrase p is, by items -/
noncomputable def phl (l : List TR) : Nat → Int → Int
  | 0, _ => 0
  | k + 1, p => if p ≤ 0 then 0 else phl l k (rowx l (p - 1) 0) + 1
/-- items of the second way can be unfolded -/
def Ex1 (l : List TR) : Prop := (∀ k : Int, 0 ≤ k → k < l.length → 0 ≤ rowx l k 0 ∧ rowx l k 0 ≤ k ∧ ((0 ≤ rowx l k 1 ∧ rowx l k 1 ≤ 65535) ∨ (rowx l k 1 = -1 ∧ k + 1 = l.length))) ∧ smI (fun k => phl l k.toNat (rowx l k 0) + (if rowx l k 1 = -1 then 0 else 1)) l.length ≤ 240
/-- the last units of the turned texts, in order -/
def isBwt (n : Int) (f : Int → Int) (l : List TR) : Prop := (l.length : Int) = n + 1 ∧ rowx l 0 0 = (if n = 0 then -1 else f (n - 1)) ∧ ∀ i, 0 ≤ i → i < n → rowx l (rk n f i + 1) 0 = if i = 0 then -1 else f (i - 1)
def AD (D : ADt) : Prop := ((D.2 = -1 ∧ D.1 5 = []) ∨ (D.2 = 0 ∧ Ex0 (D.1 5) 0) ∨ (D.2 = 1 ∧ Ex1 (D.1 5))) ∧ (D.1 6 = [] ∨ ∃ n f, AU n f ∧ isBwt n f (D.1 6))
/-- the large objects that are made when first needed -/
def BigS (M : JM) (a : Int) : Prop := (M 0 a 0 = 18 ∧ M 902 a 0 = a + 1 ∧ M 903 a 0 = a + 2 ∧ M 904 a 0 = a + 3 ∧ M 900 a 0 = a + 4 ∧ M 901 a 0 = a + 5 ∧ M 905 a 0 = a + 6 ∧ M 906 a 0 = a + 7 ∧ M 907 a 0 = a + 8 ∧ M 908 a 0 = a + 9 ∧ M 909 a 0 = a + 10) ∧ (∀ i, 1 ≤ i → i ≤ 10 → M 0 (a + i) 0 = 1) ∧ (M 1 (a + 1) 0 = 40 ∧ M 1 (a + 2) 0 = 40 ∧ M 1 (a + 3) 0 = 40) ∧ ∀ i, 4 ≤ i → i ≤ 10 → M 1 (a + i) 0 = 9640
def BigT (M : JM) (b : Int) : Prop := M 0 b 0 = 17 ∧ M 800 b 0 = b + 1 ∧ M 0 (b + 1) 0 = 1 ∧ M 1 (b + 1) 0 = 58081
def CBig (X : Int) (M : JM) : Prop := X + 258 ≤ M 4 0 0 ∧ (M 1212 X 0 = 0 ∨ (X + 258 ≤ M 1212 X 0 ∧ M 1212 X 0 + 11 ≤ M 4 0 0 ∧ BigS M (M 1212 X 0))) ∧ (M 1213 X 0 = 0 ∨ (X + 258 ≤ M 1213 X 0 ∧ M 1213 X 0 + 2 ≤ M 4 0 0 ∧ BigT M (M 1213 X 0))) ∧ (M 1212 X 0 = 0 ∨ M 1213 X 0 = 0 ∨ M 1212 X 0 + 11 ≤ M 1213 X 0 ∨ M 1213 X 0 + 2 ≤ M 1212 X 0)
/-- the component's side, without what it keeps of suffixes -/
def CB (X n : Int) (M : JM) (T : ATx) (K : AKp) (P : ATx) (D : ADt) : Prop := WSt X M ∧ CT X M T ∧ SzOk M X ∧ CK X n M K ∧ CP X M P ∧ CD X M D ∧ CBig X M
/-- the reference's side -/
def RI (X : Int) (M : JM) (T : ATx) (K : AKp) (P : ATx) (D : ADt) : Prop := WSt X M ∧ RT X M T ∧ RK X M K ∧ RP X M P ∧ RD X M D
/-- the abstract side -/
def AI (T : ATx) (K : AKp) (P : ATx) (D : ADt) : Prop := AT T ∧ AK T.1 K ∧ AP P ∧ AD D
/-- the arrays of a Suffixes: order o, ranks r, shared s, of n signs f -/
def SOk (M : JM) (o r s n : Int) (f : Int → Int) : Prop := (∀ i, 0 ≤ i → i < n → M 2 r i = rk n f i) ∧ (∀ i, 0 ≤ i → i < n → M 2 o (rk n f i) = i) ∧ ∀ i, 0 ≤ i → i < n → M 2 s (rk n f i) = if rk n f i = 0 then 0 else lcp2 n f n f (M 2 o (rk n f i - 1)) i
/-- where text t begins among all texts joined -/
def jst (T : ATx) (t : Int) : Int := smI (fun s => T.2.1 s + 1) t
def SAll (M : JM) (a : Int) (T : ATx) : Prop := M 2810 a 0 = jst T T.1 ∧ ∃ F : Int → Int, (∀ t, 0 ≤ t → t < T.1 → M 2 (a + 1) t = jst T t ∧ M 2 (a + 2) t = jst T t + T.2.1 t ∧ F (jst T t + T.2.1 t) = t ∧ M 2 (a + 5) (jst T t + T.2.1 t) = t ∧ ∀ i, 0 ≤ i → i < T.2.1 t → F (jst T t + i) = T.2.2 t i + 40 ∧ M 2 (a + 5) (jst T t + i) = t) ∧ SOk M (a + 6) (a + 7) (a + 10) (jst T T.1) F
/-- what the component keeps of suffixes -/
def CH (X : Int) (M : JM) (T : ATx) : Prop := (M 2812 (X + 144) 0 ≤ M 2405 (X + 1) 0 ∧ (M 2812 (X + 144) 0 = M 2405 (X + 1) 0 → ∀ t, 0 ≤ t → t < T.1 → M 2811 (X + 144) 0 = t → M 2810 (X + 144) 0 = T.2.1 t ∧ SOk M (X + 150) (X + 151) (X + 154) (T.2.1 t) (T.2.2 t))) ∧ (M 1212 X 0 = 0 ∨ (M 2812 (M 1212 X 0) 0 ≤ M 2405 (X + 1) 0 ∧ (M 2812 (M 1212 X 0) 0 = M 2405 (X + 1) 0 → M 2811 (M 1212 X 0) 0 = 40 → SAll M (M 1212 X 0) T)))
/-- nothing that it keeps of suffixes is of use -/
def Stale (X : Int) (M : JM) : Prop := M 2812 (X + 144) 0 < M 2405 (X + 1) 0 ∧ (M 1212 X 0 = 0 ∨ M 2812 (M 1212 X 0) 0 < M 2405 (X + 1) 0)
theorem Stale.CH {X : Int} {M : JM} (h : Stale X M) (T : ATx) : CH X M T := ⟨⟨by have := h.1; omega, fun e => by have := h.1; omega⟩, h.2.imp id fun g => ⟨by omega, fun e => by omega⟩⟩
/-- cells that CB speaks of: what never changes and the large objects, texts, kept changes, patterns, what was told -/
def fpS (X : Int) (k : Nat) (a : Int) : Prop := (X ≤ a ∧ a < X + 258 ∧ (k = 0 ∨ k = 1 ∨ k = 3 ∨ (100 ≤ k ∧ k < 2000))) ∨ (X + 258 ≤ a ∧ (k = 0 ∨ k = 1 ∨ (800 ≤ k ∧ k < 1000))) ∨ (k = 4 ∧ a = 0)
def fpT (X : Int) (k : Nat) (a : Int) : Prop := (a = X + 1 ∧ k = 2402) ∨ (X + 4 ≤ a ∧ a < X + 84 ∧ (k = 2 ∨ k = 2901))
def fpK (X : Int) (k : Nat) (a : Int) : Prop := (a = X + 1 ∧ 2403 ≤ k ∧ k ≤ 2405) ∨ (X + 84 ≤ a ∧ a < X + 144 ∧ (k = 2 ∨ k = 2901 ∨ k = 2101 ∨ k = 2102))
def fpP (X : Int) (k : Nat) (a : Int) : Prop := X + 164 ≤ a ∧ a < X + 199 ∧ a ≠ X + 166 ∧ (k = 2 ∨ k = 2901 ∨ k = 2202)
def fpD (X : Int) (k : Nat) (a : Int) : Prop := X + 199 ≤ a ∧ a < X + 218 ∧ a ≠ X + 202 ∧ a ≠ X + 203 ∧ a ≠ X + 207 ∧ (k = 2 ∨ k = 2603 ∨ (3001 ≤ k ∧ k ≤ 3003))
def fpC (X : Int) (k : Nat) (a : Int) : Prop := fpS X k a ∨ fpT X k a ∨ fpK X k a ∨ fpP X k a ∨ fpD X k a
/-- cells that RI speaks of -/
def fpR (X : Int) (k : Nat) (a : Int) : Prop := (a = X + 218 ∧ 3200 ≤ k ∧ k < 3300 ∧ k ≠ 3219 ∧ k ≠ 3231) ∨ (k = 2 ∧ ((X + 219 ≤ a ∧ a ≤ X + 224) ∨ (X + 227 ≤ a ∧ a ≤ X + 231) ∨ (X + 240 ≤ a ∧ a ≤ X + 242) ∨ (X + 246 ≤ a ∧ a ≤ X + 253) ∨ a = X + 256))
/-- of these, what was told -/
def fpRD (X : Int) (k : Nat) (a : Int) : Prop := (a = X + 218 ∧ 3211 ≤ k ∧ k < 3300 ∧ k ≠ 3219 ∧ k ≠ 3231) ∨ (k = 2 ∧ ((X + 229 ≤ a ∧ a ≤ X + 231) ∨ (X + 240 ≤ a ∧ a ≤ X + 242) ∨ (X + 246 ≤ a ∧ a ≤ X + 253) ∨ a = X + 256))
/-- cells that CH speaks of -/
def fpH (X : Int) (M : JM) (k : Nat) (a : Int) : Prop := (a = X + 144 ∧ 2810 ≤ k ∧ k ≤ 2812) ∨ (k = 2 ∧ (a = X + 150 ∨ a = X + 151 ∨ a = X + 154)) ∨ (a = X + 1 ∧ k = 2405) ∨ (a = X ∧ k = 1212) ∨ (M 1212 X 0 ≤ a ∧ a < M 1212 X 0 + 11 ∧ X + 258 ≤ M 1212 X 0 ∧ (k = 2 ∨ (2810 ≤ k ∧ k ≤ 2812)))
section KEEPS
variable {M M' : JM} {X n : Int} {T : ATx} {K : AKp} {P : ATx} {D : ADt}
theorem CT.keep (h : CT X M T) (A : AT T) (g : ∀ k a j, fpT X k a → M' k a j = M k a j) : CT X M' T := by
  have a2 := A.2.1
  unfold fpT at g
  refine ⟨by rw [g _ _ _ (by omega)]; exact h.1, fun t h0 h1 => ⟨by rw [g _ _ _ (by omega)]; exact (h.2 t h0 h1).1, fun i i0 i1 => by rw [g _ _ _ (by omega)]; exact (h.2 t h0 h1).2 i i0 i1⟩⟩
theorem SzOk.keep (h : SzOk M X) (g : ∀ k a j, fpT X k a ∨ fpK X k a → M' k a j = M k a j) : SzOk M' X := by
  unfold fpT fpK at g
  exact ⟨fun t h0 h1 => by rw [g _ _ _ (by omega)]; exact h.1 t h0 h1, fun t h0 h1 => by rw [g _ _ _ (by omega)]; exact h.2 t h0 h1⟩
theorem CK.keep (h : CK X n M K) (g : ∀ k a j, fpK X k a → M' k a j = M k a j) : CK X n M' K := by
  unfold fpK at g
  obtain ⟨c1, c2, c3, c4⟩ := h
  have e : M' 2403 (X + 1) 0 = M 2403 (X + 1) 0 := g _ _ _ (by omega)
  refine ⟨by rw [g _ _ _ (by omega)]; exact c1, by rw [e]; exact c2, by rw [g _ _ _ (by omega)]; exact c3, fun k k0 k1 => ?_⟩
  rw [e]
  obtain ⟨d1, d2, d3⟩ := c4 k k0 k1
  have hs : 0 ≤ (M 2403 (X + 1) 0 + k) % 20 ∧ (M 2403 (X + 1) 0 + k) % 20 < 20 := by omega
  exact ⟨by rw [g _ _ _ (by omega)]; exact d1, by rw [g _ _ _ (by omega)]; exact d2, fun hb => ⟨by rw [g _ _ _ (by omega)]; exact (d3 hb).1, fun i i0 i1 => by rw [g _ _ _ (by omega)]; exact (d3 hb).2 i i0 i1⟩⟩
theorem CP.keep (h : CP X M P) (A : AP P) (g : ∀ k a j, fpP X k a → M' k a j = M k a j) : CP X M' P := by
  unfold fpP at g
  have a2 := A.2.1
  exact ⟨⟨by rw [g _ _ _ (by omega)]; exact h.1.1, fun q q0 q1 => by rw [g _ _ _ (by omega)]; exact h.1.2 q q0 q1⟩, fun t h0 h1 => ⟨by rw [g _ _ _ (by omega)]; exact (h.2 t h0 h1).1, fun i i0 i1 => by rw [g _ _ _ (by omega)]; exact (h.2 t h0 h1).2 i i0 i1⟩⟩
theorem TdL.keepC {d e w m : Int} {l : List TR} (h : TdL M d e w m l) (g : ∀ k a j, fpS X k a ∨ fpD X k a → M' k a j = M k a j) (hd : X + 199 ≤ d ∧ d < X + 218 ∧ d ≠ X + 202 ∧ d ≠ X + 203 ∧ d ≠ X + 207) (he : X + 199 ≤ e ∧ e < X + 218 ∧ e ≠ X + 202 ∧ e ≠ X + 203 ∧ e ≠ X + 207) : TdL M' d e w m l := by
  unfold fpS fpD at g
  obtain ⟨⟨a1, a2, a3, a4⟩, ⟨b1, b2, b3⟩, ⟨c1, c2⟩, e1⟩ := h
  refine ⟨⟨?_, ?_, ?_, ?_⟩, ⟨?_, ?_, b3⟩, ⟨?_, c2⟩, fun k x g1 g2 g3 g4 => ?_⟩
  · rw [g _ _ _ (by omega)]; exact a1
  · rw [g _ _ _ (by omega)]; exact a2
  · rw [g _ _ _ (by omega)]; exact a3
  · rw [g _ _ _ (by omega)]; exact a4
  · rw [g _ _ _ (by omega)]; exact b1
  · rw [g _ _ _ (by omega)]; exact b2
  · rw [g _ _ _ (by omega)]; exact c1
  · rw [g _ _ _ (by omega)]; exact e1 k x g1 g2 g3 g4
theorem CD.keep (h : CD X M D) (g : ∀ k a j, fpS X k a ∨ fpD X k a → M' k a j = M k a j) : CD X M' D := by
  obtain ⟨h1, h2, h3, h4, h5, h6, h7, h8⟩ := h
  refine ⟨h1.keepC g (by omega) (by omega), h2.keepC g (by omega) (by omega), h3.keepC g (by omega) (by omega), h4.keepC g (by omega) (by omega), h5.keepC g (by omega) (by omega), h6.keepC g (by omega) (by omega), h7.keepC g (by omega) (by omega), ?_⟩
  rw [g _ _ _ (by unfold fpS fpD; omega)]; exact h8
theorem CBig.keep (h : CBig X M) (g : ∀ k a j, fpS X k a → M' k a j = M k a j) : CBig X M' := by
  unfold fpS at g
  obtain ⟨h1, h2, h3, h4⟩ := h
  unfold CBig
  rw [g 4 0 0 (by omega), g 1212 X 0 (by omega), g 1213 X 0 (by omega)]
  refine ⟨h1, h2.imp id fun q => ⟨q.1, q.2.1, ?_⟩, h3.imp id fun q => ⟨q.1, q.2.1, ?_⟩, h4⟩
  · obtain ⟨q1, q2, ⟨⟨c1, c2, c3, c4, c5, c6, c7, c8, c9, c10, c11⟩, d, ⟨e1, e2, e3⟩, f⟩⟩ := q
    exact ⟨⟨by rw [g _ _ _ (by omega)]; exact c1, by rw [g _ _ _ (by omega)]; exact c2, by rw [g _ _ _ (by omega)]; exact c3, by rw [g _ _ _ (by omega)]; exact c4, by rw [g _ _ _ (by omega)]; exact c5, by rw [g _ _ _ (by omega)]; exact c6, by rw [g _ _ _ (by omega)]; exact c7, by rw [g _ _ _ (by omega)]; exact c8, by rw [g _ _ _ (by omega)]; exact c9, by rw [g _ _ _ (by omega)]; exact c10, by rw [g _ _ _ (by omega)]; exact c11⟩, fun i i0 i1 => by rw [g _ _ _ (by omega)]; exact d i i0 i1, ⟨by rw [g _ _ _ (by omega)]; exact e1, by rw [g _ _ _ (by omega)]; exact e2, by rw [g _ _ _ (by omega)]; exact e3⟩, fun i i0 i1 => by rw [g _ _ _ (by omega)]; exact f i i0 i1⟩
  · obtain ⟨q1, q2, c1, c2, c3, c4⟩ := q
    exact ⟨by rw [g _ _ _ (by omega)]; exact c1, by rw [g _ _ _ (by omega)]; exact c2, by rw [g _ _ _ (by omega)]; exact c3, by rw [g _ _ _ (by omega)]; exact c4⟩
theorem WSt.keepC (W : WSt X M) (g : ∀ k a j, fpS X k a → M' k a j = M k a j) : WSt X M' := W.keep fun k a j h1 h2 hk => g k a j (by unfold fpS; omega)
theorem CB.keep (h : CB X n M T K P D) (A : AI T K P D) (g : ∀ k a j, fpC X k a → M' k a j = M k a j) : CB X n M' T K P D :=
  ⟨h.1.keepC fun k a j q => g k a j (Or.inl q), h.2.1.keep A.1 fun k a j q => g k a j (Or.inr (Or.inl q)), h.2.2.1.keep fun k a j q => g k a j (Or.inr (q.imp id Or.inl)), h.2.2.2.1.keep fun k a j q => g k a j (Or.inr (Or.inr (Or.inl q))), h.2.2.2.2.1.keep A.2.2.1 fun k a j q => g k a j (Or.inr (Or.inr (Or.inr (Or.inl q)))), h.2.2.2.2.2.1.keep fun k a j q => g k a j (q.imp id fun q => Or.inr (Or.inr (Or.inr q))), h.2.2.2.2.2.2.keep fun k a j q => g k a j (Or.inl q)⟩
theorem RT.keep (h : RT X M T) (g : ∀ k a j, fpR X k a → M' k a j = M k a j) : RT X M' T := by
  unfold fpR at g
  exact ⟨by rw [g _ _ _ (by omega)]; exact h.1, fun t h0 h1 => ⟨by rw [g _ _ _ (by omega)]; exact (h.2 t h0 h1).1, fun i i0 i1 => by rw [g _ _ _ (by omega)]; exact (h.2 t h0 h1).2 i i0 i1⟩⟩
theorem RK.keep (h : RK X M K) (g : ∀ k a j, fpR X k a → M' k a j = M k a j) : RK X M' K := by
  unfold fpR at g
  exact ⟨by rw [g _ _ _ (by omega)]; exact h.1, fun t h0 h1 => ⟨by rw [g _ _ _ (by omega)]; exact (h.2 t h0 h1).1, by rw [g _ _ _ (by omega)]; exact (h.2 t h0 h1).2.1, fun hb => ⟨by rw [g _ _ _ (by omega)]; exact ((h.2 t h0 h1).2.2 hb).1, fun i i0 i1 => by rw [g _ _ _ (by omega)]; exact ((h.2 t h0 h1).2.2 hb).2 i i0 i1⟩⟩⟩
theorem RP.keep (h : RP X M P) (g : ∀ k a j, fpR X k a → M' k a j = M k a j) : RP X M' P := by
  unfold fpR at g
  exact ⟨by rw [g _ _ _ (by omega)]; exact h.1, fun t h0 h1 => ⟨by rw [g _ _ _ (by omega)]; exact (h.2 t h0 h1).1, fun i i0 i1 => by rw [g _ _ _ (by omega)]; exact (h.2 t h0 h1).2 i i0 i1⟩⟩
theorem RD.keepD (h : RD X M D) (g : ∀ k a j, fpRD X k a → M' k a j = M k a j) : RD X M' D := by
  unfold fpRD at g
  obtain ⟨h1, h2, h3, h4, h5, h6, h7, h8⟩ := h
  refine ⟨⟨?_, fun k k0 k1 => ⟨?_, ?_⟩⟩, ⟨?_, fun k k0 k1 => ?_⟩, ⟨?_, fun k k0 k1 => ⟨?_, ?_, ?_⟩⟩, ⟨?_, fun k k0 k1 => ⟨?_, ?_, ?_⟩⟩, ⟨?_, fun k k0 k1 => ⟨?_, ?_⟩⟩, ⟨?_, fun k k0 k1 => ⟨?_, ?_, ?_⟩⟩, ⟨?_, fun k k0 k1 => ?_⟩, ?_⟩
  · rw [g _ _ _ (by omega)]; exact h1.1
  · rw [g _ _ _ (by omega)]; exact (h1.2 k k0 k1).1
  · rw [g _ _ _ (by omega)]; exact (h1.2 k k0 k1).2
  · rw [g _ _ _ (by omega)]; exact h2.1
  · rw [g _ _ _ (by omega)]; exact h2.2 k k0 k1
  · rw [g _ _ _ (by omega)]; exact h3.1
  · rw [g _ _ _ (by omega)]; exact (h3.2 k k0 k1).1
  · rw [g _ _ _ (by omega)]; exact (h3.2 k k0 k1).2.1
  · rw [g _ _ _ (by omega)]; exact (h3.2 k k0 k1).2.2
  · rw [g _ _ _ (by omega)]; exact h4.1
  · rw [g _ _ _ (by omega)]; exact (h4.2 k k0 k1).1
  · rw [g _ _ _ (by omega)]; exact (h4.2 k k0 k1).2.1
  · rw [g _ _ _ (by omega)]; exact (h4.2 k k0 k1).2.2
  · rw [g _ _ _ (by omega)]; exact h5.1
  · rw [g _ _ _ (by omega)]; exact (h5.2 k k0 k1).1
  · rw [g _ _ _ (by omega)]; exact (h5.2 k k0 k1).2
  · rw [g _ _ _ (by omega)]; exact h6.1
  · rw [g _ _ _ (by omega)]; exact (h6.2 k k0 k1).1
  · rw [g _ _ _ (by omega)]; exact (h6.2 k k0 k1).2.1
  · rw [g _ _ _ (by omega)]; exact (h6.2 k k0 k1).2.2
  · rw [g _ _ _ (by omega)]; exact h7.1
  · rw [g _ _ _ (by omega)]; exact h7.2 k k0 k1
  · rw [g _ _ _ (by omega)]; exact h8
theorem RD.keep (h : RD X M D) (g : ∀ k a j, fpR X k a → M' k a j = M k a j) : RD X M' D := h.keepD fun k a j q => g k a j (by unfold fpRD at q; unfold fpR; omega)
theorem RI.keep (h : RI X M T K P D) (W : WSt X M') (g : ∀ k a j, fpR X k a → M' k a j = M k a j) : RI X M' T K P D :=
  ⟨W, h.2.1.keep g, h.2.2.1.keep g, h.2.2.2.1.keep g, h.2.2.2.2.keep g⟩
theorem SOk.keep {o r s m : Int} {f : Int → Int} (h : SOk M o r s m f) (g : ∀ a j, (a = o ∨ a = r ∨ a = s) → M' 2 a j = M 2 a j) : SOk M' o r s m f :=
  ⟨fun i i0 i1 => by rw [g _ _ (by omega)]; exact h.1 i i0 i1, fun i i0 i1 => by rw [g _ _ (by omega)]; exact h.2.1 i i0 i1, fun i i0 i1 => by rw [g s _ (by omega), g o _ (by omega)]; exact h.2.2 i i0 i1⟩
theorem SAll.keep {a : Int} (h : SAll M a T) (g : ∀ k b j, a ≤ b → b < a + 11 → (k = 2 ∨ (2810 ≤ k ∧ k ≤ 2812)) → M' k b j = M k b j) : SAll M' a T := by
  obtain ⟨h1, F, h2, h3⟩ := h
  refine ⟨by rw [g _ _ _ (by omega) (by omega) (by omega)]; exact h1, F, fun t t0 t1 => ?_, h3.keep fun b j hb => g _ _ _ (by omega) (by omega) (by omega)⟩
  obtain ⟨c1, c2, c3, c4, c5⟩ := h2 t t0 t1
  exact ⟨by rw [g _ _ _ (by omega) (by omega) (by omega)]; exact c1, by rw [g _ _ _ (by omega) (by omega) (by omega)]; exact c2, c3, by rw [g _ _ _ (by omega) (by omega) (by omega)]; exact c4, fun i i0 i1 => ⟨(c5 i i0 i1).1, by rw [g _ _ _ (by omega) (by omega) (by omega)]; exact (c5 i i0 i1).2⟩⟩
theorem CH.keep (h : CH X M T) (B : CBig X M) (g : ∀ k a j, fpH X M k a → M' k a j = M k a j) : CH X M' T := by
  obtain ⟨⟨h1, h2⟩, h3⟩ := h
  unfold fpH at g
  unfold CH
  rw [g 2812 (X + 144) 0 (by omega), g 2405 (X + 1) 0 (by omega), g 2811 (X + 144) 0 (by omega), g 2810 (X + 144) 0 (by omega), g 1212 X 0 (by omega)]
  refine ⟨⟨h1, fun e t t0 t1 et => ⟨(h2 e t t0 t1 et).1, (h2 e t t0 t1 et).2.keep fun a j ha => g _ _ _ (by omega)⟩⟩, ?_⟩
  rcases B.2.1 with b | b
  · exact Or.inl b
  · refine h3.imp id fun q => ?_
    rw [g 2812 (M 1212 X 0) 0 (by omega), g 2811 (M 1212 X 0) 0 (by omega)]
    exact ⟨q.1, fun e1 e2 => (q.2 e1 e2).keep fun k b j b0 b1 hk => g _ _ _ (by omega)⟩
theorem Stale.keep (h : Stale X M) (B : CBig X M) (g : ∀ k a j, fpH X M k a → M' k a j = M k a j) : Stale X M' := by
  unfold fpH at g
  unfold Stale
  rw [g 2812 (X + 144) 0 (by omega), g 2405 (X + 1) 0 (by omega), g 1212 X 0 (by omega)]
  refine ⟨h.1, ?_⟩
  rcases B.2.1 with b | b
  · exact Or.inl b
  · refine h.2.imp id fun q => ?_
    rw [g 2812 (M 1212 X 0) 0 (by omega)]
    exact q
/-- the component's call leaves the reference's cells be -/
def FrC (X : Int) (M M' : JM) : Prop := ∀ k a j, X + 218 ≤ a → a < X + 258 → M' k a j = M k a j
/-- the reference's call changes its own numbers only -/
def FrR (X : Int) (M M' : JM) : Prop := ∀ k a j, ¬ (X + 218 ≤ a ∧ a < X + 258 ∧ (k = 2 ∨ 3200 ≤ k)) → M' k a j = M k a j
theorem FrC.refl (X : Int) (M : JM) : FrC X M M := fun _ _ _ _ _ => rfl
theorem FrR.refl (X : Int) (M : JM) : FrR X M M := fun _ _ _ _ => rfl
theorem FrC.trans {M'' : JM} (h : FrC X M M') (g : FrC X M' M'') : FrC X M M'' := fun k a j h1 h2 => (g k a j h1 h2).trans (h k a j h1 h2)
theorem FrR.trans {M'' : JM} (h : FrR X M M') (g : FrR X M' M'') : FrR X M M'' := fun k a j h1 => (g k a j h1).trans (h k a j h1)
theorem FrC.RI (h : FrC X M M') (W : WSt X M') (R : RI X M T K P D) : RI X M' T K P D := R.keep W fun k a j g => h k a j (by unfold fpR at g; omega) (by unfold fpR at g; omega)
theorem FrR.CB (h : FrR X M M') (A : AI T K P D) (C : CB X n M T K P D) : CB X n M' T K P D := C.keep A fun k a j g => h k a j (by unfold fpC fpS fpT fpK fpP fpD at g; omega)
theorem FrR.CH (h : FrR X M M') (B : CBig X M) (C : CH X M T) : CH X M' T := C.keep B fun k a j g => h k a j (by unfold fpH at g; omega)
theorem FrR.W (h : FrR X M M') (W : WSt X M) : WSt X M' := W.keep fun k a j h1 h2 hk => h k a j (by omega)
end KEEPS
