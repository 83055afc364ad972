/-! J: a small logic over the machine. All numbers are Ints; a memory is a function of kind, address, place.
kinds: 0 what stands at an address (1 int array, 2 boolean array, 3 and 4 arrays of texts and of kept, 10 + n an object of number n), 1 an array's length, 2 its ints, 3 its references, 4 at 0 0 the next address, 100 and on reference fields, 2000 and on int fields -/
abbrev JM : Type := Nat → Int → Int → Int
abbrev JV : Type := Nat × Int
abbrev JL : Type := List (Nat × JV)
abbrev JG : Type := va_G × (Nat → ClassId) × Nat × Launch × Int × Nat × (Nat → Int32)
/-- the law's number; its script: where, how long, what -/
def jlaw : Nat := 262
def jscr (G : JG) (s : State) : Prop := va_X G.2.2.2.2.1.toNat G.2.2.2.2.2.1 G.2.2.2.2.2.2 s s.heap ∧ G.2.2.2.2.1.toNat < G.2.2.1 ∧ G.2.2.2.2.1 ≠ 0 ∧ G.2.2.2.2.2.1 ≤ 3072
def jR (x : Int) : Prop := -2147483648 ≤ x ∧ x ≤ 2147483647
def jset (M : JM) (k : Nat) (a j v : Int) : JM := fun k' a' j' => if k' = k ∧ a' = a ∧ j' = j then v else M k' a' j'
def jrf (x : Int) : Option Nat := if x = 0 then none else some x.toNat
def jv (v : JV) : Value := match v with
  | (0, x) => .int (Int32.ofInt x)
  | (1, x) => va_rf (jrf x)
  | (5, x) => .int (Int32.ofInt x)
  | (_, x) => .long (Int64.ofInt x)
def jok (v : JV) : Prop := (v.1 = 0 → jR v.2) ∧ (v.1 = 2 → -9223372036854775808 ≤ v.2 ∧ v.2 ≤ 9223372036854775807)
def jokM (M : JM) : Prop := ∀ k a j, (k = 1 ∨ k = 2 ∨ 2000 ≤ k) → jR (M k a j)
def jfs (ci : Nat) (M : JM) (a : Int) : List Value := (jkinds ci).map fun q => jv (q.1, M q.2 a 0)
def jcell (G : JG) (M : JM) (a : Nat) : va_E :=
  if M 0 a 0 = 1 then .inl (G.2.1 0, (M 1 a 0).toNat, .inl (fun j => Int32.ofInt (M 2 a j)))
  else if M 0 a 0 = 2 then .inl (G.2.1 1, (M 1 a 0).toNat, .inl (fun j => Int32.ofInt (M 2 a j)))
  else if M 0 a 0 = 3 then .inl (G.2.1 2, (M 1 a 0).toNat, .inr (.inr (.inr (.inr (fun j => jrf (M 3 a j))))))
  else if M 0 a 0 = 4 then .inl (G.2.1 3, (M 1 a 0).toNat, .inr (.inr (.inr (.inr (fun j => jrf (M 3 a j))))))
  else .inr ((M 0 a 0).toNat - 10, jfs ((M 0 a 0).toNat - 10) M a)
def jtys (G : JG) : List (ClassId × FieldType) := [(G.2.1 0, .int), (G.2.1 1, .boolean), (G.2.1 2, .object "UnitAtlas$Text"), (G.2.1 3, .object "UnitAtlas$Kept")]
def jA (G : JG) : Nat → Prop := fun q => G.2.2.1 ≤ q
/-- the heap holds the memory -/
def JR (G : JG) (M : JM) (H : Heap) : Prop := (∀ a : Nat, G.2.2.1 ≤ a → a < H.size → va_at G.1 vwCl (a, jcell G M a) H) ∧ M 4 0 0 = (H.size : Int) ∧ G.2.2.1 ≤ H.size ∧ 1 ≤ G.2.2.1 ∧ (∀ a : Int, M 0 a 0 ≠ 0 → (G.2.2.1 : Int) ≤ a ∧ a < M 4 0 0) ∧ ∀ a : Int, M 0 a 0 = 1 ∨ M 0 a 0 = 2 ∨ M 0 a 0 = 3 ∨ M 0 a 0 = 4 → 0 ≤ M 1 a 0
def jretv (t : Nat) (r : Int) : Option Value := if t = 3 then none else some (jv (t, r))
/-- a method's end -/
def JQ (G : JG) (t : Nat) (Q : Int → JM → Prop) : Array Value → State → Outcome → State → Prop := fun _ st oc u => ∃ (r : Int) (M : JM), oc = .returned (jretv t r) ∧ Q r M ∧ jok (t, r) ∧ jokM M ∧ JR G M u.heap ∧ va_F (jA G) st u
/-- a method's start -/
def JP (G : JG) (as : List JV) (M : JM) : Array Value → State → Prop := fun v U => v = (as.map jv).toArray ∧ JR G M U.heap ∧ va_K G.1 vwCl (jtys G) U ∧ jNw U
def jroom (y mc ms : Nat) : Room := { frames := jfr y, cells := mc, slots := ms, locals := jlo y }
def jwords (y : Nat) : List Cond := Cond.code (jname y) (jcode y) (jmaxl y) (jret y) :: jgtbl
/-- method y, called with these values over this memory, comes to its end with Q; at most mc cells of ms slots are new -/
def Runs (G : JG) (y mc ms : Nat) (as : List JV) (M : JM) (Q : Int → JM → Prop) : Prop := jokM M → (∀ v ∈ as, jok v) → Met G.2.2.2.1 (jname y) (jwords y) (jroom y mc ms) (JP G as M) (JQ G (jtag y) Q) mc ms (jA G)
def JC (G : JG) (x mc ms : Nat) (p : Program) (e : Env) (R : Room) (s : State) (m : MethodId) (args : Array Value) (below : List Frame) (meth : Method) (c : Code) : Prop :=
  p.tables.exec = Jvm.exec ∧ c.code = jcode x ∧ meth.sig.returnType = jret x ∧ c.maxLocals = jmaxl x ∧ s.vm.findClass (jname x).cls = some m.cls ∧ (∀ w ∈ jtbl, w.before args s = true) ∧ meth.locks = false ∧ meth.name = (jname x).name ∧ va_K G.1 vwCl (jtys G) s ∧ (G.2.2.1 ≤ s.heap.size ∧ (x = jlaw → jscr G s)) ∧ R = jroom x mc ms
def JX (G : JG) (x mc ms : Nat) (lv : JL) (st : List JV) (M : JM) (p : Program) (e : Env) (R : Room) (s : State) (m : MethodId) (args : Array Value) (below : List Frame) (meth : Method) (c : Code) (H : Heap) (locs : List Loc) (ls : Array Slot) : Prop :=
  JC G x mc ms p e R s m args below meth c ∧ lv_has ls (jmaxl x) (lv.map fun q => (q.1, jv q.2)) ∧ JR G M H ∧ va_S (jA G) s.heap H locs ∧ (∀ q ∈ lv, jok q.2) ∧ (∀ v ∈ st, jok v) ∧ jokM M
/-- the machine, in method x at pc with these locals, this stack and this memory, comes to the method's end with Q -/
def J (G : JG) (x mc ms : Nat) (Q : Int → JM → Prop) (cells slots pc : Nat) (lv : JL) (st : List JV) (M : JM) : Prop :=
  cells ≤ mc → slots ≤ ms → ∀ p e R s m args below meth c H locs ls, JX G x mc ms lv st M p e R s m args below meth c H locs ls →
    W p G.2.2.2.1 e R s m args below meth c H locs cells slots (MQ below (JQ G (jtag x) Q) args s mc ms (jA G)) (F0 m pc ls (st.map jv))
theorem jv_cat (v : JV) : (jv v).category = if v.1 = 0 ∨ v.1 = 1 ∨ v.1 = 5 then 1 else 2 := by
  obtain ⟨t, x⟩ := v
  rcases t with _ | _ | _ | _ | _ | _ | t
  · rfl
  · show (va_rf (jrf x)).category = 1
    unfold jrf; split <;> rfl
  · rfl
  · rfl
  · rfl
  · rfl
  · show 2 = if _ then _ else _
    rw [if_neg (by simp)]
theorem jok_i {x : Int} (h : jR x) : jok (0, x) := ⟨fun _ => h, fun h => by cases h⟩
theorem jok_r (x : Int) : jok (1, x) := ⟨fun h => (by cases h), fun h => by cases h⟩
theorem jok_3 (x : Int) : jok (3, x) := ⟨fun h => (by cases h), fun h => by cases h⟩
theorem jok_c {v : JV} {st : List JV} (h : jok v) (hs : ∀ w ∈ st, jok w) : ∀ w ∈ v :: st, jok w := fun w hw => (List.mem_cons.mp hw).elim (fun e => e ▸ h) (hs w)
theorem jok_t {v : JV} {st : List JV} (hs : ∀ w ∈ v :: st, jok w) : ∀ w ∈ st, jok w := fun w hw => hs w (List.mem_cons_of_mem _ hw)
theorem jok_h {v : JV} {st : List JV} (hs : ∀ w ∈ v :: st, jok w) : jok v := hs v List.mem_cons_self
theorem jok_R {x : Int} (h : jok (0, x)) : jR x := h.1 rfl
theorem j32 {x : Int} (h : jR x) : (Int32.ofInt x).toInt = x := Int32.toInt_ofInt_of_le (by unfold jR at h; omega) (by unfold jR at h; omega)
theorem j32_lt {a b : Int} (ha : jR a) (hb : jR b) : Int32.ofInt a < Int32.ofInt b ↔ a < b := by rw [Int32.lt_iff_toInt_lt, j32 ha, j32 hb]
theorem j32_le {a b : Int} (ha : jR a) (hb : jR b) : Int32.ofInt a ≤ Int32.ofInt b ↔ a ≤ b := by rw [Int32.le_iff_toInt_le, j32 ha, j32 hb]
theorem j32_eq {a b : Int} (ha : jR a) (hb : jR b) : Int32.ofInt a = Int32.ofInt b ↔ a = b := by rw [← Int32.toInt_inj, j32 ha, j32 hb]
theorem j32_nat {a : Int} (ha : jR a) (h0 : 0 ≤ a) : (Int32.ofInt a).toNatClampNeg = a.toNat := by
  show (Int32.ofInt a).toInt.toNat = a.toNat
  rw [j32 ha]
theorem jR_0 : jR 0 := by unfold jR; omega
/-- locals -/
def jlg : JL → Nat → Option JV
  | [], _ => none
  | q :: l, i => if q.1 = i then some q.2 else jlg l i
theorem jlg_mem : ∀ {l : JL} {i : Nat} {v : JV}, jlg l i = some v → (i, v) ∈ l
  | [], _, _, h => by cases h
  | q :: l, i, v, h => by
    unfold jlg at h
    split at h
    · rename_i e
      cases h
      rw [← e]
      exact List.mem_cons_self
    · exact List.mem_cons_of_mem _ (jlg_mem h)
def jls (l : JL) (i : Nat) (v : JV) : JL := (i, v) :: l.filter (fun q => !(q.1 == i) && !(q.1 + 1 == i && !(q.2.1 == 0 || q.2.1 == 1 || q.2.1 == 5)))
theorem jls_map (l : JL) (i : Nat) (v : JV) : (i, jv v) :: (l.map fun q => (q.1, jv q.2)).filter (fun q => !(q.1 == i) && !(q.1 + 1 == i && q.2.category == 2)) = (jls l i v).map fun q => (q.1, jv q.2) := by
  unfold jls
  rw [List.map_cons, List.filter_map]
  congr 2
  apply List.filter_congr
  intro q _
  simp only [Function.comp, jv_cat]
  rcases q with ⟨a, t, x⟩
  by_cases h : t = 0 ∨ t = 1 ∨ t = 5
  · rw [if_pos h]
    rcases h with rfl | rfl | rfl <;> simp
  · rw [if_neg h]
    have h0 : ¬ t = 0 := fun e => h (Or.inl e)
    have h1 : ¬ t = 1 := fun e => h (Or.inr (Or.inl e))
    have h5 : ¬ t = 5 := fun e => h (Or.inr (Or.inr e))
    have e0 : (t == 0) = false := by simp [h0]
    have e1 : (t == 1) = false := by simp [h1]
    have e5 : (t == 5) = false := by simp [h5]
    simp [e0, e1, e5]
theorem jls_ok {l : JL} {i : Nat} {v : JV} (h : ∀ q ∈ l, jok q.2) (hv : jok v) : ∀ q ∈ jls l i v, jok q.2 := by
  intro q hq
  unfold jls at hq
  rcases List.mem_cons.mp hq with rfl | hq
  · exact hv
  · exact h q (List.mem_filter.mp hq).1
theorem lv_of {ls : Array Slot} {n : Nat} {lv : JL} {i : Nat} {v : JV} (h : lv_has ls n (lv.map fun q => (q.1, jv q.2))) (hg : jlg lv i = some v) : ls[i]? = some (.val (jv v)) :=
  h.2.2 (i, jv v) (List.mem_map.mpr ⟨(i, v), jlg_mem hg, rfl⟩)
