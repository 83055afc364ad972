/-! rules of J: calls -/
theorem jw_oi : Cond.instanceMethod Lib.objectInit ∈ jtbl := jmem (i := 90) (by decide +kernel) rfl
theorem jw_oc : Cond.code Lib.objectInit ⟨#[0xb1]⟩ 1 none ∈ jtbl := jmem (i := 91) (by decide +kernel) rfl
theorem jw_mi : Cond.initialized "java/lang/Math" ∈ jtbl := jmem (i := 72) (by decide +kernel) rfl
theorem jw_xs : Cond.static Lib.Math.max.name ∈ jtbl := jmem (i := 108) (by decide +kernel) rfl
theorem jw_xc : Cond.code Lib.Math.max.name Lib.Math.max.code 2 (some .int) ∈ jtbl := jmem (i := 109) (by decide +kernel) rfl
theorem jw_ns : Cond.static Lib.Math.min.name ∈ jtbl := jmem (i := 665) (by decide +kernel) rfl
theorem jw_nc : Cond.code Lib.Math.min.name Lib.Math.min.code 2 (some .int) ∈ jtbl := jmem (i := 666) (by decide +kernel) rfl
theorem jw_ai : Cond.initialized "java/lang/System" ∈ jtbl := jmem (i := 82) (by decide +kernel) rfl
theorem jw_as : Cond.static arraycopyName ∈ jtbl := jmem (i := 456) (by decide +kernel) rfl
theorem jw_an : Cond.native arraycopyName ∈ jtbl := jmem (i := 457) (by decide +kernel) rfl
theorem jfacts {y : Nat} (h : y ∈ jlist) : Cond.code (jname y) (jcode y) (jmaxl y) (jret y) ∈ jtbl ∧ Cond.initialized (jname y).cls ∈ jtbl ∧ ((jname y).cls ≠ "java/lang/invoke/MethodHandle" ∧ (jname y).cls ≠ "java/lang/invoke/VarHandle") ∧ plainName (jname y).cls = true ∧ jtagok (jtag y) (jret y) = true ∧ (((jmq y).2.2.2 = 0 ∧ Cond.static (jname y) ∈ jtbl) ∨ ((jmq y).2.2.2 ≠ 0 ∧ Cond.instanceMethod (jname y) ∈ jtbl ∧ (((jmq y).2.2.2 = 2000 ∧ (jname y).name = "<init>") ∨ ((jmq y).2.2.2 ≠ 2000 ∧ Cond.selects (jname y).cls (jname y) (jname y) ∈ jtbl)))) := by
  have h := jmok_all y h
  unfold jmok at h
  simp only [Bool.and_eq_true, decide_eq_true_eq] at h
  obtain ⟨⟨⟨⟨⟨⟨h1, h2⟩, h3⟩, h4⟩, h5⟩, h6⟩, h7⟩ := h
  refine ⟨jmem (jcdk_eq h1) rfl, jmem h2 rfl, ⟨h3, h4⟩, h5, h6, ?_⟩
  by_cases e : (jmq y).2.2.2 = 0
  · rw [if_pos e] at h7
    exact Or.inl ⟨e, jmem (of_decide_eq_true h7) rfl⟩
  · rw [if_neg e] at h7
    simp only [Bool.and_eq_true, decide_eq_true_eq] at h7
    refine Or.inr ⟨e, jmem h7.1 rfl, ?_⟩
    by_cases e2 : (jmq y).2.2.2 = 2000
    · rw [if_pos e2] at h7
      exact Or.inl ⟨e2, of_decide_eq_true h7.2⟩
    · rw [if_neg e2] at h7
      exact Or.inr ⟨e2, jmem (of_decide_eq_true h7.2) rfl⟩
theorem jGood {y : Nat} (h : y ∈ jlist) : GoodIn jtbl (jwords y) := by
  intro w hw
  rcases List.mem_cons.mp hw with rfl | hw
  · exact ⟨(jfacts h).1, good_of_word rfl⟩
  · obtain ⟨h1, h2⟩ := List.mem_filter.mp hw
    exact ⟨List.mem_filter.mpr ⟨h1, by unfold jkeepw; rw [h2, Bool.true_or]⟩, good_of_word h2⟩
theorem jblind {G : JG} {as : List JV} {M : JM} : FrameBlind (JP G as M) := fun _ U _ _ h => ⟨h.1, h.2.1, va_K.moved (u := U) (Vm.Alike.refl U.vm) h.2.2.1, jNw.same (s := U) rfl h.2.2.2⟩
def jpush (t : Nat) (r : Int) (st : List JV) : List JV := if t = 3 then st else (t, r) :: st
theorem jpush_eq (t : Nat) (r : Int) (st : List JV) : (jretv t r).toList ++ st.map jv = (jpush t r st).map jv := by
  unfold jretv jpush
  split <;> rfl
theorem jlaw_out : ¬ jlaw ∈ jlist := by decide +kernel
section JCALL
variable {G : JG} {x mc ms : Nat} {Q : Int → JM → Prop} {cells slots pc : Nat} {lv : JL} {st : List JV} {M : JM}
theorem jr_objInit {i : Nat} {a : Int} (hd : decode (jcode x) pc = .ok (.invokespecial i, 3)) (hlk : Cond.methodLink (jname x).cls i Lib.objectInit ∈ jtbl) (hw : jwd st ≤ 8) (hf : 1 ≤ jfr x) (hlo : 20 ≤ jlo x) (ha : ¬ a ≤ 0) (k : J G x mc ms Q cells slots (pc + 3) lv st M) : J G x mc ms Q cells slots pc lv ((1, a) :: st) M := by
  intro hcm hsm p e R s m args below meth c H locs ls X
  obtain ⟨C, hl, hr, hS, ol, os, oM⟩ := X
  have hts := C.2.2.2.2.2.1
  have hR := C.2.2.2.2.2.2.2.2.2.2
  have k := k hcm hsm p e R s m args below meth c H locs ls ⟨C, hl, hr, hS, ol, jok_t os, oM⟩
  rw [List.map_cons, show jv (1, a) = .ref a.toNat from by show va_rf (jrf a) = _; rw [show jrf a = some a.toNat from if_neg (fun z => ha (by omega))]; rfl]
  exact W.objInit C.1 C.2.1 C.2.2.2.2.1 (hts _ hlk) (hts _ jw_oi) (hts _ jw_oc) rfl (hl.1.trans C.2.2.2.1.symm) rfl hd (by rw [hR]; exact hf) (by show 2 * 0 + _ + 12 ≤ _; rw [jwd_eq, hR]; show _ ≤ jlo x; omega) k
theorem jr_max {i : Nat} {a b : Int} (hd : decode (jcode x) pc = .ok (.invokestatic i, 3)) (hlk : Cond.methodLink (jname x).cls i Lib.Math.max.name ∈ jtbl) (hw : jwd st ≤ 8) (hf : 1 ≤ jfr x) (hlo : 21 ≤ jlo x) (k : J G x mc ms Q cells slots (pc + 3) lv ((0, max a b) :: st) M) : J G x mc ms Q cells slots pc lv ((0, b) :: (0, a) :: st) M := by
  intro hcm hsm p e R s m args below meth c H locs ls X
  obtain ⟨C, hl, hr, hS, ol, os, oM⟩ := X
  have hts := C.2.2.2.2.2.1
  have hR := C.2.2.2.2.2.2.2.2.2.2
  have ra := jok_R (jok_h (jok_t os))
  have rb := jok_R (jok_h os)
  have k := k hcm hsm p e R s m args below meth c H locs ls ⟨C, hl, hr, hS, ol, jok_c (jok_i (by unfold jR at ra rb ⊢; omega)) (jok_t (jok_t os)), oM⟩
  refine va_mmax C.1 C.2.1 (C.2.2.2.1.trans hl.1.symm) C.2.2.2.2.1 (hts _ hlk) (hts _ jw_xs) (hts _ jw_mi) (hts _ jw_xc) (by rw [hR]; exact hf) (by rw [jwd_eq, hR]; show _ ≤ jlo x; omega) (by rw [hR]; exact hcm) (by rw [hR]; exact hsm) hd ?_
  have e1 : (if Int32.ofInt a < Int32.ofInt b then Int32.ofInt b else Int32.ofInt a) = Int32.ofInt (max a b) := by
    by_cases h : a < b
    · rw [if_pos ((j32_lt ra rb).mpr h), show max a b = b by omega]
    · rw [if_neg (fun q => h ((j32_lt ra rb).mp q)), show max a b = a by omega]
  rw [e1]
  exact k
theorem jr_min {i : Nat} {a b : Int} (hd : decode (jcode x) pc = .ok (.invokestatic i, 3)) (hlk : Cond.methodLink (jname x).cls i Lib.Math.min.name ∈ jtbl) (hw : jwd st ≤ 8) (hf : 1 ≤ jfr x) (hlo : 21 ≤ jlo x) (k : J G x mc ms Q cells slots (pc + 3) lv ((0, min a b) :: st) M) : J G x mc ms Q cells slots pc lv ((0, b) :: (0, a) :: st) M := by
  intro hcm hsm p e R s m args below meth c H locs ls X
  obtain ⟨C, hl, hr, hS, ol, os, oM⟩ := X
  have hts := C.2.2.2.2.2.1
  have hR := C.2.2.2.2.2.2.2.2.2.2
  have ra := jok_R (jok_h (jok_t os))
  have rb := jok_R (jok_h os)
  have k := k hcm hsm p e R s m args below meth c H locs ls ⟨C, hl, hr, hS, ol, jok_c (jok_i (by unfold jR at ra rb ⊢; omega)) (jok_t (jok_t os)), oM⟩
  have e1 : (if Int32.ofInt b < Int32.ofInt a then Int32.ofInt b else Int32.ofInt a) = Int32.ofInt (min a b) := by
    by_cases h : b < a
    · rw [if_pos ((j32_lt rb ra).mpr h), show min a b = b by omega]
    · rw [if_neg (fun q => h ((j32_lt rb ra).mp q)), show min a b = a by omega]
  refine va_mmin C.1 C.2.1 (C.2.2.2.1.trans hl.1.symm) C.2.2.2.2.1 (hts _ hlk) (hts _ jw_ns) (hts _ jw_mi) (hts _ jw_nc) (by rw [hR]; exact hf) (by rw [jwd_eq, hR]; show _ ≤ jlo x; omega) (by rw [hR]; exact hcm) (by rw [hR]; exact hsm) hd ?_
  first | (rw [e1]; exact k) | (have e2 : (if Int32.ofInt a < Int32.ofInt b then Int32.ofInt a else Int32.ofInt b) = Int32.ofInt (min a b) := by
                                   by_cases h : a < b
                                   · rw [if_pos ((j32_lt ra rb).mpr h), show min a b = a by omega]
                                   · rw [if_neg (fun q => h ((j32_lt ra rb).mp q)), show min a b = b by omega]
                                rw [e2]; exact k)
/-- behind any call -/
theorem jr_back {y mc' ms' : Nat} {as rest : List JV} {p : Program} {e : Env} {R : Room} {s : State} {m : MethodId} {args : Array Value} {below : List Frame} {meth : Method} {c : Code} {H : Heap} {locs : List Loc} {ls : Array Slot} {Q' : Int → JM → Prop} {av : Array Value} {st0 : List Value}
    (C : JC G x mc ms p e R s m args below meth c) (hl : lv_has ls (jmaxl x) (lv.map fun q => (q.1, jv q.2))) (hS : va_S (jA G) s.heap H locs) (ol : ∀ q ∈ lv, jok q.2) (os : ∀ v ∈ rest, jok v) (h1 : cells + mc' ≤ mc) (h2 : slots + ms' ≤ ms)
    (hr : va_Run p G.2.2.2.1 e R s m args below meth c H locs cells slots mc' ms' (F0 m pc ls st0) (rest.map jv) (JQ G (jtag y) Q' av) (jA G))
    (kk : ∀ r M', Q' r M' → jok (jtag y, r) → jokM M' → J G x mc ms Q (cells + mc') (slots + ms') (pc + 3) lv (jpush (jtag y) r rest) M') :
    W p G.2.2.2.1 e R s m args below meth c H locs cells slots (MQ below (JQ G (jtag x) Q) args s mc ms (jA G)) (F0 m pc ls st0) := by
  intro T hT X
  obtain ⟨v, s0, t, T', L, z0, X', hL, z1, z2, hq, go⟩ := hr T hT X
  obtain ⟨r, M', hv, hQ, hok, hoM, hJR, hF⟩ := hq
  cases hv
  have hS' : va_S (jA G) s.heap t.heap (locs ++ L) := by
    refine ⟨?_, fun q g1 g2 => ?_, fun q g => ?_⟩
    · have := hF.1; rw [z0] at this; exact Nat.le_trans hS.1 this
    · rw [hF.2 q (by rw [z0]; exact Nat.lt_of_lt_of_le g1 hS.1) g2, z0]
      exact hS.2.1 q g1 g2
    · rcases List.mem_append.mp g with g | g
      · exact hS.2.2 q g
      · exact hL q g
  have okp : ∀ v ∈ jpush (jtag y) r rest, jok v := by
    unfold jpush
    split
    · exact os
    · exact jok_c hok os
  obtain ⟨t2, a1, b1⟩ := kk r M' hQ hok hoM h1 h2 p e R s m args below meth c t.heap (locs ++ L) ls ⟨C, hl, hJR, hS', ol, okp, hoM⟩ T' z1 X'
  refine ⟨t2, go t2 ?_, b1⟩
  rw [← jpush_eq] at a1
  exact a1
def jsite (x i y : Nat) : Prop := Cond.methodLink (jname x).cls i (jname y) ∈ jtbl ∨ Cond.methodLinkNest (jname x).cls i (jname y) "UnitAtlas" ∈ jtbl
theorem jr_callv {i y ci mc' ms' n : Nat} {a : Int} {as : List JV} {C0 : String} {T : u_T} {N : Nat} {Q' : Int → JM → Prop} (hd : decode (jcode x) pc = .ok (.invokevirtual i, 3)) (hy : y ∈ jlist) (hk : (jmq y).2.2.2 ≠ 0 ∧ (jmq y).2.2.2 ≠ 2000) (hc : jclass ci C0 T N) (hn : C0 = (jname y).cls) (hs : jsite x i y) (hp : (parseMethodDescriptor (jname y).desc).map (fun d => d.parameters.length) = some n) (hlen : as.length = n) (hfr : jfr y + 1 ≤ jfr x) (hlo : 8 + (jmaxl y + 11) + jlo y ≤ jlo x) (hw : jwd st ≤ 8) (ha : M 0 a 0 = 10 + (ci : Int)) (h1 : cells + mc' ≤ mc) (h2 : slots + ms' ≤ ms)
    (hm : Runs G y mc' ms' ((1, a) :: as) M Q') (kk : ∀ r M', Q' r M' → jok (jtag y, r) → jokM M' → J G x mc ms Q (cells + mc') (slots + ms') (pc + 3) lv (jpush (jtag y) r st) M') : J G x mc ms Q cells slots pc lv (as.reverse ++ (1, a) :: st) M := by
  intro hcm hsm p e R s m args below meth c H locs ls X
  obtain ⟨C, hl, hr, hS, ol, os, oM⟩ := X
  have hts := C.2.2.2.2.2.1
  have hK := C.2.2.2.2.2.2.2.2.1
  have hR := C.2.2.2.2.2.2.2.2.2.2
  obtain ⟨f1, f2, f3, f4, f5, f6⟩ := jfacts hy
  obtain ⟨f7, f8⟩ : Cond.instanceMethod (jname y) ∈ jtbl ∧ Cond.selects (jname y).cls (jname y) (jname y) ∈ jtbl := by
    rcases f6 with ⟨g, -⟩ | ⟨-, g1, ⟨g, -⟩ | ⟨-, g2⟩⟩
    · exact absurd g hk.1
    · exact absurd g hk.2
    · exact ⟨g1, g2⟩
  have oas : ∀ v ∈ (1, a) :: as, jok v := jok_c (jok_r a) (fun v hv => os v (List.mem_append_left _ (List.mem_reverse.mpr hv)))
  have ost : ∀ v ∈ st, jok v := fun v hv => os v (List.mem_append_right _ (List.mem_cons_of_mem _ hv))
  have hm := hm oM oas
  obtain ⟨q, rfl, hqb, hqs, hq0, hat⟩ := hr.at (a := a) (by omega)
  rw [jcell_obj ha] at hat
  have hrecv := va_recv (D := G.1) hK (va_P1 hat) hc.1 (q0 := 0) rfl
  rw [show (C0, T, N).1 = (jname y).cls from hn] at hrecv
  have hpre : PreV s H (jname y).cls q (JP G ((1, (q : Int)) :: as) M) (as.map jv) := ⟨jblind, hrecv, fun U hU hW => ⟨by rw [List.map_cons, jv_ref hq0], by rw [hU]; exact hr, va_K.moved hW.alike hK, (jNw.of hts).warm hW⟩⟩
  have hwd : 2 * (F0 m pc ls ((as.map jv).reverse ++ .ref q :: st.map jv)).monitorRoom + ((st.map jv).map fun v => v.category).sum ≤ 8 := lv_room (by rw [jwd_eq]; exact hw)
  have hst : (as.reverse ++ (1, (q : Int)) :: st).map jv = (as.map jv).reverse ++ .ref q :: st.map jv := by
    rw [List.map_append, List.map_reverse, List.map_cons, jv_ref hq0]
  rw [hst]
  rcases hs with hs | hs
  · have cw : CallW R s args (jname x).cls (jname y).cls i (jname y) (jcode y) (jmaxl y) (jret y) (jwords y) (jroom y mc' ms') mc' ms' n := ⟨callB_of n hts (jGood hy) rfl rfl rfl (hts _ f2) (hts _ hs) ⟨f3.1, f3.2, hp⟩ (by rw [hR]; exact ⟨hfr, hlo⟩), hts _ f7, hts _ f8⟩
    exact jr_back (y := y) (as := as) C hl hS ol ost h1 h2 (va_runV (As := as.map jv) (rest := st.map jv) (cc := jcode x) (nL := jmaxl x) ⟨C.1, C.2.1, C.2.2.2.1, C.2.2.2.2.1, hts⟩ hm cw hpre rfl (by rw [List.length_map]; exact hlen) hl.1 rfl hwd hd (by rw [hR]; exact ⟨h1, h2⟩)) kk
  · have cw := va_cnB (R := R) (args := args) (s := s) n hts (jGood hy) rfl rfl rfl (va_Nw.of rfl (hts _ hs)) (hts _ f2) ⟨f3.1, f3.2, hp⟩ (rm := jroom y mc' ms') (by rw [hR]; exact ⟨hfr, hlo⟩)
    exact jr_back (y := y) (as := as) C hl hS ol ost h1 h2 (va_runVN (As := as.map jv) (rest := st.map jv) (cc := jcode x) (nL := jmaxl x) (C := (jname y).cls) ⟨C.1, C.2.1, C.2.2.2.1, C.2.2.2.2.1, hts⟩ hm ⟨cw, hts _ f7, hts _ f8⟩ hpre rfl (by rw [List.length_map]; exact hlen) hl.1 rfl hwd hd (by rw [hR]; exact ⟨h1, h2⟩)) kk
theorem jr_callI {i y mc' ms' n : Nat} {a : Int} {as : List JV} {Q' : Int → JM → Prop} (hd : decode (jcode x) pc = .ok (.invokespecial i, 3)) (hy : y ∈ jlist) (hk : (jmq y).2.2.2 = 2000) (hrv : jret y = none) (hs : jsite x i y) (hp : (parseMethodDescriptor (jname y).desc).map (fun d => d.parameters.length) = some n) (hlen : as.length = n) (hfr : jfr y + 1 ≤ jfr x) (hlo : 8 + (jmaxl y + 11) + jlo y ≤ jlo x) (hw : jwd st ≤ 8) (ha : ¬ a ≤ 0) (h1 : cells + mc' ≤ mc) (h2 : slots + ms' ≤ ms)
    (hm : Runs G y mc' ms' ((1, a) :: as) M Q') (kk : ∀ r M', Q' r M' → jok (jtag y, r) → jokM M' → J G x mc ms Q (cells + mc') (slots + ms') (pc + 3) lv (jpush (jtag y) r st) M') : J G x mc ms Q cells slots pc lv (as.reverse ++ (1, a) :: st) M := by
  intro hcm hsm p e R s m args below meth c H locs ls X
  obtain ⟨C, hl, hr, hS, ol, os, oM⟩ := X
  have hts := C.2.2.2.2.2.1
  have hK := C.2.2.2.2.2.2.2.2.1
  have hR := C.2.2.2.2.2.2.2.2.2.2
  obtain ⟨f1, f2, f3, f4, f5, f6⟩ := jfacts hy
  obtain ⟨f7, f8⟩ : Cond.instanceMethod (jname y) ∈ jtbl ∧ (jname y).name = "<init>" := by
    rcases f6 with ⟨g, -⟩ | ⟨-, g1, ⟨-, g⟩ | ⟨g2, -⟩⟩
    · omega
    · exact ⟨g1, g⟩
    · exact absurd hk g2
  have oas : ∀ v ∈ (1, a) :: as, jok v := jok_c (jok_r a) (fun v hv => os v (List.mem_append_left _ (List.mem_reverse.mpr hv)))
  have ost : ∀ v ∈ st, jok v := fun v hv => os v (List.mem_append_right _ (List.mem_cons_of_mem _ hv))
  have hm := hm oM oas
  obtain ⟨q, rfl⟩ : ∃ q : Nat, a = q := ⟨a.toNat, by omega⟩
  have hq0 : 0 < q := by omega
  have hpre : PreS s H (JP G ((1, (q : Int)) :: as) M) (.ref q :: as.map jv) := ⟨jblind, fun U hU hW => ⟨by rw [List.map_cons, jv_ref hq0], by rw [hU]; exact hr, va_K.moved hW.alike hK, (jNw.of hts).warm hW⟩⟩
  have hwd : 2 * (F0 m pc ls ((as.map jv).reverse ++ .ref q :: st.map jv)).monitorRoom + ((st.map jv).map fun v => v.category).sum ≤ 8 := lv_room (by rw [jwd_eq]; exact hw)
  have hst : (as.reverse ++ (1, (q : Int)) :: st).map jv = (as.map jv).reverse ++ .ref q :: st.map jv := by
    rw [List.map_append, List.map_reverse, List.map_cons, jv_ref hq0]
  rw [hst]
  have hcd : jwords y = Cond.code (jname y) (jcode y) (jmaxl y) none :: jgtbl := by unfold jwords; rw [hrv]
  rcases hs with hs | hs
  · have cw : CallB R s args (jname x).cls i (jname y) (jcode y) (jmaxl y) none (jwords y) (jroom y mc' ms') mc' ms' n := callB_of n hts (jGood hy) hcd rfl rfl (hts _ f2) (hts _ hs) ⟨f3.1, f3.2, hp⟩ (by rw [hR]; exact ⟨hfr, hlo⟩)
    exact jr_back (y := y) (as := as) C hl hS ol ost h1 h2 (va_runI (As := as.map jv) (rest := st.map jv) (cc := jcode x) (nL := jmaxl x) ⟨C.1, C.2.1, C.2.2.2.1, C.2.2.2.2.1, hts⟩ hm ⟨cw, f8, hts _ f7⟩ hpre rfl (by rw [List.length_map]; exact hlen) hl.1 rfl hwd hd (by rw [hR]; exact ⟨h1, h2⟩)) kk
  · have cw := va_cnB (R := R) (args := args) (s := s) n hts (jGood hy) hcd rfl rfl (va_Nw.of rfl (hts _ hs)) (hts _ f2) ⟨f3.1, f3.2, hp⟩ (rm := jroom y mc' ms') (by rw [hR]; exact ⟨hfr, hlo⟩)
    exact jr_back (y := y) (as := as) C hl hS ol ost h1 h2 (va_runIN (As := as.map jv) (rest := st.map jv) (cc := jcode x) (nL := jmaxl x) ⟨C.1, C.2.1, C.2.2.2.1, C.2.2.2.2.1, hts⟩ hm ⟨cw, f8, hts _ f7⟩ hpre rfl (by rw [List.length_map]; exact hlen) hl.1 rfl hwd hd (by rw [hR]; exact ⟨h1, h2⟩)) kk
theorem jr_callS {i y mc' ms' n : Nat} {as : List JV} {Q' : Int → JM → Prop} (hd : decode (jcode x) pc = .ok (.invokestatic i, 3)) (hy : y ∈ jlist) (hk : (jmq y).2.2.2 = 0) (hs : jsite x i y) (hp : (parseMethodDescriptor (jname y).desc).map (fun d => d.parameters.length) = some n) (hlen : as.length = n) (hfr : jfr y + 1 ≤ jfr x) (hlo : 8 + (jmaxl y + 11) + jlo y ≤ jlo x) (hw : jwd st ≤ 8) (h1 : cells + mc' ≤ mc) (h2 : slots + ms' ≤ ms)
    (hm : Runs G y mc' ms' as M Q') (kk : ∀ r M', Q' r M' → jok (jtag y, r) → jokM M' → J G x mc ms Q (cells + mc') (slots + ms') (pc + 3) lv (jpush (jtag y) r st) M') : J G x mc ms Q cells slots pc lv (as.reverse ++ st) M := by
  intro hcm hsm p e R s m args below meth c H locs ls X
  obtain ⟨C, hl, hr, hS, ol, os, oM⟩ := X
  have hts := C.2.2.2.2.2.1
  have hK := C.2.2.2.2.2.2.2.2.1
  have hR := C.2.2.2.2.2.2.2.2.2.2
  obtain ⟨f1, f2, f3, f4, f5, f6⟩ := jfacts hy
  have f7 : Cond.static (jname y) ∈ jtbl := by
    rcases f6 with ⟨-, g⟩ | ⟨g, -⟩
    · exact g
    · exact absurd hk g
  have oas : ∀ v ∈ as, jok v := fun v hv => os v (List.mem_append_left _ (List.mem_reverse.mpr hv))
  have ost : ∀ v ∈ st, jok v := fun v hv => os v (List.mem_append_right _ hv)
  have hm := hm oM oas
  have hpre : PreS s H (JP G as M) (as.map jv) := ⟨jblind, fun U hU hW => ⟨rfl, by rw [hU]; exact hr, va_K.moved hW.alike hK, (jNw.of hts).warm hW⟩⟩
  have hwd : 2 * (F0 m pc ls ((as.map jv).reverse ++ st.map jv)).monitorRoom + ((st.map jv).map fun v => v.category).sum ≤ 8 := lv_room (by rw [jwd_eq]; exact hw)
  have hst : (as.reverse ++ st).map jv = (as.map jv).reverse ++ st.map jv := by rw [List.map_append, List.map_reverse]
  rw [hst]
  rcases hs with hs | hs
  · have cw : CallB R s args (jname x).cls i (jname y) (jcode y) (jmaxl y) (jret y) (jwords y) (jroom y mc' ms') mc' ms' n := callB_of n hts (jGood hy) rfl rfl rfl (hts _ f2) (hts _ hs) ⟨f3.1, f3.2, hp⟩ (by rw [hR]; exact ⟨hfr, hlo⟩)
    exact jr_back (y := y) (as := as) C hl hS ol ost h1 h2 (va_runS (As := as.map jv) (rest := st.map jv) (cc := jcode x) (nL := jmaxl x) ⟨C.1, C.2.1, C.2.2.2.1, C.2.2.2.2.1, hts⟩ hm ⟨cw, hts _ f7⟩ hpre rfl (by rw [List.length_map]; exact hlen) hl.1 rfl hwd hd (by rw [hR]; exact ⟨h1, h2⟩)) kk
  · have cw := va_cnB (R := R) (args := args) (s := s) n hts (jGood hy) rfl rfl rfl (va_Nw.of rfl (hts _ hs)) (hts _ f2) ⟨f3.1, f3.2, hp⟩ (rm := jroom y mc' ms') (by rw [hR]; exact ⟨hfr, hlo⟩)
    exact jr_back (y := y) (as := as) C hl hS ol ost h1 h2 (va_runSN (As := as.map jv) (rest := st.map jv) (cc := jcode x) (nL := jmaxl x) ⟨C.1, C.2.1, C.2.2.2.1, C.2.2.2.2.1, hts⟩ hm ⟨cw, hts _ f7, trivial⟩ hpre rfl (by rw [List.length_map]; exact hlen) hl.1 rfl hwd hd (by rw [hR]; exact ⟨h1, h2⟩)) kk
/-- fewer locals -/
theorem J.less {lv' : JL} (h : ∀ q ∈ lv', q ∈ lv) (k : J G x mc ms Q cells slots pc lv' st M) : J G x mc ms Q cells slots pc lv st M := by
  intro hcm hsm p e R s m args below meth c H locs ls X
  obtain ⟨C, hl, hr, hS, ol, os, oM⟩ := X
  refine k hcm hsm p e R s m args below meth c H locs ls ⟨C, ⟨hl.1, hl.2.1, fun q hq => ?_⟩, hr, hS, fun q hq => ol q (h q hq), os, oM⟩
  obtain ⟨z, hz, rfl⟩ := List.mem_map.mp hq
  exact hl.2.2 _ (List.mem_map.mpr ⟨z, h z hz, rfl⟩)
def jentry : Nat → List JV → JL
  | _, [] => []
  | i, v :: vs => (i, v) :: jentry (if v.1 = 0 ∨ v.1 = 1 ∨ v.1 = 5 then i + 1 else i + 2) vs
theorem jentry_eq : ∀ (i : Nat) (as : List JV), lv_args i (as.map jv) = (jentry i as).map fun q => (q.1, jv q.2)
  | _, [] => rfl
  | i, v :: vs => by
    show (i, jv v) :: lv_args (if (jv v).category = 2 then i + 2 else i + 1) (vs.map jv) = (i, jv v) :: (jentry _ vs).map _
    rw [jv_cat]
    by_cases h : v.1 = 0 ∨ v.1 = 1 ∨ v.1 = 5
    · rw [if_pos h, if_neg (by omega), if_pos h, jentry_eq]
    · rw [if_neg h, if_pos rfl, if_neg h, jentry_eq]
theorem jentry_ok : ∀ (i : Nat) (as : List JV), (∀ v ∈ as, jok v) → ∀ q ∈ jentry i as, jok q.2
  | _, [], _, _, h => by cases h
  | i, v :: vs, h, q, hq => by
    rcases List.mem_cons.mp hq with rfl | hq
    · exact h _ List.mem_cons_self
    · exact jentry_ok _ vs (fun w hw => h w (List.mem_cons_of_mem _ hw)) q hq
/-- a method's contract out of its walk -/
theorem Runs.of {y : Nat} {as : List JV} (hy : y ∈ jlist) (hlen : (lg_sl (as.map jv)).length ≤ jmaxl y) (h : J G y mc ms Q 0 0 0 (jentry 0 as) [] M) : Runs G y mc ms as M Q := by
  intro oM oas
  refine Met.ofW (cc := jcode y) (maxL := jmaxl y) (ret := jret y) (jfacts hy).2.2.2.1 rfl ?_
  intro p e s m args below meth c s₁ B hml hv
  obtain ⟨rfl, hr, hK, hNw⟩ := hv
  have hts := atoms_spec (ws := jwords y) B.pre
  have hl := lv_entry (as.map jv) (n := jmaxl y) hlen
  rw [lg_entry_eq]
  rw [jentry_eq] at hl
  have k := h (Nat.zero_le _) (Nat.zero_le _) p e (jroom y mc ms) s m (as.map jv).toArray below meth c s.heap [] _ ⟨⟨B.exec, B.bytes, B.returns, hml, findClass_of_methodNamed B.named, jtbl_of (fun w hw => hts w (List.mem_cons_of_mem _ hw)) hNw, B.notSynchronized, (name_of_methodNamed B.named B.method).1, hK, ⟨hr.2.2.1, fun e => absurd hy (e ▸ jlaw_out)⟩, rfl⟩, hl, hr, va_S.rf, jentry_ok 0 as oas, fun v hv => (by cases hv), oM⟩
  exact k
/-- a loop: an invariant with a number that falls -/
theorem J.loop {α : Type} {lvf : α → JL} {Mf : α → JM} (I : Nat → α → Prop) (h : ∀ n z, I n z → (∀ k z', k < n → I k z' → J G x mc ms Q cells slots pc (lvf z') [] (Mf z')) → J G x mc ms Q cells slots pc (lvf z) [] (Mf z)) : ∀ n z, I n z → J G x mc ms Q cells slots pc (lvf z) [] (Mf z) := by
  intro n
  induction n using Nat.strongRecOn with
  | ind n ih => exact fun z hz => h n z hz (fun k z' hk hz' => ih k hk z' hz')
end JCALL
