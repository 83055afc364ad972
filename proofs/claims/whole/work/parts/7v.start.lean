/-! the law's start -/
def R_law : String := "UnitAtlasLaw"
def lw_P (b : Addr) (xs : List Int32) (args : Array Value) (s : State) : Prop := args = #[.ref b] ∧ s.IntsAt b xs ∧ xs.length ≤ 3072 ∧ (Jvm.Cond.and given_1 narrow_1).before args s = true
def lw_Q (_ : Array Value) (s : State) (o : Outcome) (t : State) : Prop := o = .returned (some (.int 1)) ∧ Framed s o t [] 600000 7302250
def lw_Z (below : List Frame) (a : Array Value) (s : State) : State → Prop := fun t => ∃ o, t.status = .running ∧ Ended t below o ∧ lw_Q a s o t
/-- what holds at the law's entry -/
def lw_At (p : Program) (s : State) (m : MethodId) (meth : Method) (c : Code) (b L : Nat) (xs : Nat → Int32) : Prop :=
  p.tables.exec = Jvm.exec ∧ c.code = code ∧ meth.sig.returnType = ret ∧ c.maxLocals = 4 ∧ s.vm.findClass R_law = some m.cls ∧ (∀ w ∈ lw_tbl, w.before #[Value.ref b] s = true) ∧ va_X b L xs s s.heap ∧ b < s.heap.size ∧ meth.locks = false ∧ (Jvm.Cond.and given_1 narrow_1).before #[Value.ref b] s = true ∧ meth.name = "law"
theorem jinst : ∀ (ci : Nat) (q : vw_C), vwCl[ci]? = some q → Cond.instantiable q.1 q.2.2 ∈ lw_tbl
  | 0, _, h => by cases h; decide +kernel
  | 1, _, h => by cases h; decide +kernel
  | 2, _, h => by cases h; decide +kernel
  | 3, _, h => by cases h; decide +kernel
  | 4, _, h => by cases h; decide +kernel
  | 5, _, h => by cases h; decide +kernel
  | 6, _, h => by cases h; decide +kernel
  | 7, _, h => by cases h; decide +kernel
  | 8, _, h => by cases h; decide +kernel
  | 9, _, h => by cases h; decide +kernel
  | 10, _, h => by cases h; decide +kernel
  | 11, _, h => by cases h; decide +kernel
  | 12, _, h => by cases h; decide +kernel
  | n + 13, _, h => by cases h
theorem jarr_i : Cond.arrayClass .int ∈ lw_tbl := by decide +kernel
theorem jarr_b : Cond.arrayClass .boolean ∈ lw_tbl := by decide +kernel
theorem jarr_t : Cond.arrayOver (.object "UnitAtlas$Text") ∈ lw_tbl := by decide +kernel
theorem jarr_k : Cond.arrayOver (.object "UnitAtlas$Kept") ∈ lw_tbl := by decide +kernel
theorem jK_a {s : State} {A : Array Value} {ty : FieldType} (h : (Cond.arrayClass ty).before A s = true) (hp : ∀ cA, s.vm.findClass ("[" ++ ty.toString) = some cA → va_RA s cA ty) : ∃ cA, ArrOfT s cA ty ∧ va_RA s cA ty := by
  obtain ⟨cA, kA, comp, h1, h2, h3⟩ := Cond.arrayClass_spec h
  exact ⟨cA, fun n z => ⟨(fun k h => by cases h), kA, h2, comp, h3⟩, hp cA h1⟩
theorem jK_o {s : State} {A : Array Value} {C : String} (h : (Cond.arrayOver (.object C)).before A s = true) : ∃ cA, ArrOfT s cA (.object C) ∧ va_RA s cA (.object C) := by
  obtain ⟨comp, cA, kA, h1, h2, h3, h4, h5⟩ := Cond.arrayOver_spec h
  exact ⟨cA, fun n z => ⟨(fun k h => by cases h), kA, h3, comp, h4⟩, kA, comp, h3, h4, h1, h5⟩
theorem jK_ex {s : State} {A : Array Value} (hts : ∀ w ∈ lw_tbl, w.before A s = true) : ∃ (D : va_G) (cA : Nat → ClassId), va_K D vwCl [(cA 0, .int), (cA 1, .boolean), (cA 2, .object "UnitAtlas$Text"), (cA 3, .object "UnitAtlas$Kept")] s := by
  have hc : ∀ k : Nat, ∃ (c : ClassId) (i : Nat → Nat), ∀ q : vw_C, vwCl[k]? = some q → u_Kn s q.1 q.2.1 q.2.2 c i := fun k => by
    cases e : vwCl[k]? with
    | none => exact ⟨0, fun _ => 0, fun q hq => by cases hq⟩
    | some q =>
      obtain ⟨c, i, h⟩ := u_known (ws := jtbl) (n := q.2.2) (fun w hw => hts w (List.mem_filter.mp hw).1) (jclass_all k q e).2.1 (hts _ (jinst k q e))
      exact ⟨c, i, fun q' hq => by cases hq; exact h⟩
  obtain ⟨a0, b0⟩ := jK_a (hts _ jarr_i) (fun _ h => h)
  obtain ⟨a1, b1⟩ := jK_a (hts _ jarr_b) (fun _ h => h)
  obtain ⟨a2, b2⟩ := jK_o (hts _ jarr_t)
  obtain ⟨a3, b3⟩ := jK_o (hts _ jarr_k)
  refine ⟨(fun k => Classical.choose (hc k), fun k => Classical.choose (Classical.choose_spec (hc k))), fun k => if k = 0 then a0 else if k = 1 then a1 else if k = 2 then a2 else a3, fun k q hq => Classical.choose_spec (Classical.choose_spec (hc k)) q hq, fun k q hq => ?_⟩
  match k, hq with
  | 0, hq => cases hq; exact b0
  | 1, hq => cases hq; exact b1
  | 2, hq => cases hq; exact b2
  | 3, hq => cases hq; exact b3
  | k + 4, hq => cases hq
/-- nothing is there yet -/
def jM0 (n : Int) : JM := fun k a j => if k = 4 ∧ a = 0 ∧ j = 0 then n else 0
theorem pAtlas_len : (pAtlas [pnew 21 0] 0).length = 218 := by decide +kernel
theorem law_mk {G : JG} {X : Int} (hX : 0 < X) (hL : G.2.2.2.2.2.1 ≤ 3072) : (0 + 1 ≤ 600000 ∧ 0 + 14 ≤ 7302250) ∧ ¬ ((jM0 X 4 0 0) : Int) ≤ 0 ∧ ∃ c1 s1 : Nat, (0 + 1) + c1 ≤ 600000 ∧ (0 + 14) + s1 ≤ 7302250 ∧ Runs G 107 c1 s1 [(1, jM0 X 4 0 0)] (jnew (jM0 X) 21 0) (fun _ M1 => jokM M1 → (((0 + 1) + c1) + 1 ≤ 600000 ∧ ((0 + 14) + s1) + 52 ≤ 7302250) ∧ ¬ ((M1 4 0 0) : Int) ≤ 0 ∧ ∃ c2 s2 : Nat, (((0 + 1) + c1) + 1) + c2 ≤ 600000 ∧ (((0 + 14) + s1) + 52) + s2 ≤ 7302250 ∧ Runs G 169 c2 s2 [(1, M1 4 0 0)] (jnew M1 22 0) (fun _ M2 => jokM M2 → LI (IV X) G X 600000 7302250 ((((0 + 1) + c1) + 1) + c2) ((((0 + 14) + s1) + 52) + s2) G.2.2.2.2.1 (jM0 X 4 0 0) (M1 4 0 0) 0 M2)) := by
  have e4 : jM0 X 4 0 0 = X := if_pos ⟨rfl, rfl, rfl⟩
  rw [e4]
  have h0 : Has (jM0 X) (jM0 X) X [] := ⟨by rw [e4]; exact (Int.add_zero X).symm, hX, fun i c hi => by simp at hi, fun _ _ _ _ _ => rfl⟩
  have h1 : Has (jnew (jM0 X) 21 0) (jM0 X) X [pnew 21 0] := h0.new 21 0
  refine ⟨⟨by omega, by omega⟩, by omega, 217, 30678, by omega, by omega, ?_⟩
  have go := c_initAtlas (G := G) (Q := fun _ M1 => jokM M1 → (((0 + 1) + 217) + 1 ≤ 600000 ∧ ((0 + 14) + 30678) + 52 ≤ 7302250) ∧ ¬ ((M1 4 0 0) : Int) ≤ 0 ∧ ∃ c2 s2 : Nat, (((0 + 1) + 217) + 1) + c2 ≤ 600000 ∧ (((0 + 14) + 30678) + 52) + s2 ≤ 7302250 ∧ Runs G 169 c2 s2 [(1, M1 4 0 0)] (jnew M1 22 0) (fun _ M2 => jokM M2 → LI (IV X) G X 600000 7302250 ((((0 + 1) + 217) + 1) + c2) ((((0 + 14) + 30678) + 52) + s2) G.2.2.2.2.1 X (M1 4 0 0) 0 M2)) (o := 0) h1 rfl (fun M1 g1 _ => ?_)
  · rw [show X + ((0 : Nat) : Int) = X by omega] at go
    exact go
  · have f4 : M1 4 0 0 = X + 218 := by
      have := g1.1
      rw [pAtlas_len] at this
      exact this
    rw [f4]
    refine ⟨⟨by omega, by omega⟩, by omega, 39, 335942, by omega, by omega, ?_⟩
    refine c_initModel (o := 218) (g1.new 22 0) (by rw [List.getElem?_append_right (by rw [pAtlas_len]; omega), pAtlas_len]; rfl) (fun M2 g2 _ => ?_)
    obtain ⟨C, H, R, hX', e12, e13⟩ := CB0 (X := X) (M := M2) g2
    refine ⟨rfl, rfl, rfl, ⟨by omega, by omega⟩, 0, 0, ⟨T0, K0, T0, D0, C, H, R, AI0, hX', e12, e13⟩, ?_, ?_⟩
    · have : potc 0 0 = 15 := by decide
      omega
    · have : pots 0 0 = 130000 := by decide
      omega
set_option maxRecDepth 100000 in
/-- from J to the machine -/
theorem law_run {p : Program} {e : Env} {s : State} {m : MethodId} {below : List Frame} {meth : Method} {c : Code} (l : Launch) {b L : Nat} {xs : Nat → Int32} (hL : L ≤ 3072) (C0 : lw_At p s m meth c b L xs) (h : ∀ G : JG, G.2.2.2.2.2.1 ≤ 3072 → ∀ X, 0 < X → J G 262 600000 7302250 (fun r _ => r = 1) 0 0 0 [(0, 1, G.2.2.2.2.1)] [] (jM0 X)) : W p l e room_1 s m #[Value.ref b] below meth c s.heap [] 0 0 (lw_Z below #[Value.ref b] s) (entryFrame m ([Value.ref b] : List Value).toArray 4) := by
  obtain ⟨hx, hb, hr, hml, hown, hts, hX, hbl, hlocks, hgv, hname⟩ := id C0
  obtain ⟨D, cA, hK⟩ := jK_ex hts
  obtain ⟨bx, hb0, hb1⟩ : ∃ bx : Int, bx ≠ 0 ∧ bx.toNat = b := by
    by_cases z : b = 0
    · exact ⟨-1, by omega, by omega⟩
    · exact ⟨b, by omega, by omega⟩
  have hl := lv_entry ([.ref b]) (n := 4) (Nat.le_of_ble_eq_true rfl)
  rw [lg_entry_eq]
  generalize (lg_sl ([.ref b]) ++ List.replicate (4 - (lg_sl ([.ref b])).length) Slot.unset).toArray = ls at hl ⊢
  have hl : lv_has ls 4 [(0, .ref b)] := hl
  have ev : jv (1, bx) = .ref b := by
    show va_rf (jrf bx) = _
    unfold jrf
    rw [if_neg hb0, hb1]; rfl
  have J0 := h (D, cA, s.heap.size, l, bx, L, xs) hL (s.heap.size : Int) (by omega)
  have k := J0 (Nat.zero_le _) (Nat.zero_le _) p e room_1 s m #[Value.ref b] below meth c s.heap [] ls ⟨⟨hx, hb, hr, hml, hown, fun w hw => hts w (List.mem_filter.mp hw).1, hlocks, hname, hK, ⟨Nat.le_refl _, fun _ => ⟨by show va_X bx.toNat L xs s s.heap; rw [hb1]; exact hX, by show bx.toNat < s.heap.size; rw [hb1]; exact hbl, hb0, hL⟩⟩, rfl⟩, by show lv_has ls 4 [(0, jv (1, bx))]; rw [ev]; exact hl, ⟨fun a h1 h2 => absurd h2 (Nat.not_lt.mpr h1), if_pos ⟨rfl, rfl, rfl⟩, Nat.le_refl _, by show 1 ≤ s.heap.size; omega, fun a hz => absurd (if_neg (by omega)) hz, fun a hz => by rw [show jM0 (s.heap.size : Int) 0 a 0 = 0 from if_neg (by omega)] at hz; omega⟩, va_S.rf, fun q hq => by rw [List.mem_singleton.mp hq]; exact jok_r bx, fun v hv => (by cases hv), fun k a j hk => by rw [show jM0 (s.heap.size : Int) k a j = 0 from if_neg (by omega)]; exact jR_0⟩
  intro T hT X
  obtain ⟨t, st, o, r1, r2, ⟨r, M, e1, e2, -⟩, L', hF, hL'⟩ := k T hT X
  subst e2
  exact ⟨t, st, o, r1, r2, e1, hF.1, hF.2.1, hF.2.2.weaken (fun y hy hlt => absurd hlt (Nat.not_lt.mpr (hL' y hy))) (Nat.le_refl _) (Nat.le_refl _)⟩
