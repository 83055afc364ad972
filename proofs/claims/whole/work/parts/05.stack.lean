/-! rules of J, an instruction each -/
def jand (a b : Int) : Int := (Int32.ofInt a &&& Int32.ofInt b).toInt
def jshl (a b : Int) : Int := (Int32.ofInt a <<< (Int32.ofInt b &&& 31)).toInt
def jshr (a b : Int) : Int := (Int32.ofInt a >>> (Int32.ofInt b &&& 31)).toInt
def jland (a b : Int) : Int := (Int64.ofInt a &&& Int64.ofInt b).toInt
def jlor (a b : Int) : Int := (Int64.ofInt a ||| Int64.ofInt b).toInt
def jlshl (a b : Int) : Int := (Int64.ofInt a <<< ((Int32.ofInt b).toInt64 &&& 63)).toInt
def jlshr (a b : Int) : Int := (Int64.ofInt a >>> ((Int32.ofInt b).toInt64 &&& 63)).toInt
def jlushr (a b : Int) : Int := ((Int64.ofInt a).toUInt64 >>> ((Int32.ofInt b).toInt64.toUInt64 &&& Int64.toUInt64 63)).toInt64.toInt
def jl2i (a : Int) : Int := (Int64.ofInt a).toInt32.toInt
def jlcmp (a b : Int) : Int := if b < a then 1 else if a = b then 0 else -1
theorem jR_32 (z : Int32) : jR z.toInt := by
  have h1 := Int32.le_toInt z
  have h2 := Int32.toInt_lt z
  unfold jR; omega
theorem jok_64 (z : Int64) : jok (2, z.toInt) := by
  have h1 := Int64.le_toInt z
  have h2 := Int64.toInt_lt z
  exact ⟨fun h => (by cases h), fun _ => (by show _ ≤ z.toInt ∧ z.toInt ≤ _; omega)⟩
theorem j64 {x : Int} (h : jok (2, x)) : (Int64.ofInt x).toInt = x := by
  have := h.2 rfl
  exact Int64.toInt_ofInt_of_le (by simp at this; omega) (by simp at this; omega)
theorem jn8 {n : Int} (h : -128 ≤ n ∧ n ≤ 127) : (Int8.ofInt n).toInt32 = Int32.ofInt n := by
  rw [← Int32.toInt_inj, Int8.toInt_toInt32, Int8.toInt_ofInt_of_le (by omega) (by omega), j32 (by unfold jR; omega)]
theorem jn16 {n : Int} (h : -32768 ≤ n ∧ n ≤ 32767) : (Int16.ofInt n).toInt32 = Int32.ofInt n := by
  rw [← Int32.toInt_inj, Int16.toInt_toInt32, Int16.toInt_ofInt_of_le (by omega) (by omega), j32 (by unfold jR; omega)]
theorem ji2l {a : Int} (h : jR a) : (Int32.ofInt a).toInt64 = Int64.ofInt a := by
  rw [← Int64.toInt_inj, Int32.toInt_toInt64, j32 h, Int64.toInt_ofInt_of_le (by unfold jR at h; omega) (by unfold jR at h; omega)]
theorem jnI (n : Nat) : Int32.ofInt (n : Int) = nI n := by
  unfold nI
  first | rfl | exact Int32.ofInt_natCast n | simp
theorem jdiv {a b : Int} (ha : jR a) (hb : jR b) (h0 : 0 ≤ a) (h1 : 0 < b) : Int32.ofInt a / Int32.ofInt b = Int32.ofInt (a / b) := by
  obtain ⟨n, rfl⟩ := Int.eq_ofNat_of_zero_le h0
  obtain ⟨d, rfl⟩ := Int.eq_ofNat_of_zero_le (Int.le_of_lt h1)
  unfold jR at ha hb
  rw [jnI, jnI, pk_div (by omega) (by omega) (by omega), ← Int.natCast_ediv, jnI]
theorem jrem {a b : Int} (ha : jR a) (hb : jR b) (h0 : 0 ≤ a) (h1 : 0 < b) : Int32.ofInt a - Int32.ofInt a / Int32.ofInt b * Int32.ofInt b = Int32.ofInt (a % b) := by
  obtain ⟨n, rfl⟩ := Int.eq_ofNat_of_zero_le h0
  obtain ⟨d, rfl⟩ := Int.eq_ofNat_of_zero_le (Int.le_of_lt h1)
  unfold jR at ha hb
  rw [jnI, jnI, pk_rem (by omega) (by omega) (by omega), ← Int.natCast_emod, jnI]
theorem jlc {a b : Int} (ha : jok (2, a)) (hb : jok (2, b)) : lg_cmp (Int64.ofInt a) (Int64.ofInt b) = Int32.ofInt (jlcmp a b) := by
  unfold lg_cmp jlcmp
  have e1 : (Int64.ofInt a > Int64.ofInt b) ↔ b < a := by rw [gt_iff_lt, Int64.lt_iff_toInt_lt, j64 ha, j64 hb]
  have e2 : (Int64.ofInt a = Int64.ofInt b) ↔ a = b := by rw [← Int64.toInt_inj, j64 ha, j64 hb]
  by_cases h1 : b < a
  · rw [if_pos (e1.mpr h1), if_pos h1]; rfl
  · rw [if_neg (fun h => h1 (e1.mp h)), if_neg h1]
    by_cases h2 : a = b
    · rw [if_pos (e2.mpr h2), if_pos h2]; rfl
    · rw [if_neg (fun h => h2 (e2.mp h)), if_neg h2]; rfl
def jcmp (c : ClassFile.Cond) (a b : Int) : Prop := match c with
  | .eq => a = b
  | .ne => ¬ a = b
  | .lt => a < b
  | .ge => b ≤ a
  | .gt => b < a
  | .le => a ≤ b
section JRULES
variable {G : JG} {x mc ms : Nat} {Q : Int → JM → Prop} {cells slots pc : Nat} {lv : JL} {st : List JV} {M : JM}

theorem jr_iconst {n : Int} (hd : decode (jcode x) pc = .ok (.iconst n, 1)) (hn : jR n) (k : J G x mc ms Q cells slots (pc + 1) (lv) ((0, n) :: st) M) : J G x mc ms Q cells slots (pc) (lv) (st) M := by
  intro hcm hsm p e R s m args below meth c H locs ls X
  obtain ⟨C, hl, hr, hS, ol, os, oM⟩ := X
  exact lv_iconst C.1 C.2.1 hd rfl (k hcm hsm p e R s m args below meth c H locs ls ⟨C, hl, hr, hS, ol, jok_c (jok_i hn) os, oM⟩)
theorem jr_bipush {n : Int} (hd : decode (jcode x) pc = .ok (.bipush n, 2)) (hn : -128 ≤ n ∧ n ≤ 127) (k : J G x mc ms Q cells slots (pc + 2) (lv) ((0, n) :: st) M) : J G x mc ms Q cells slots (pc) (lv) (st) M := by
  intro hcm hsm p e R s m args below meth c H locs ls X
  obtain ⟨C, hl, hr, hS, ol, os, oM⟩ := X
  exact lv_bipush C.1 C.2.1 hd (jn8 hn) (k hcm hsm p e R s m args below meth c H locs ls ⟨C, hl, hr, hS, ol, jok_c (jok_i (by unfold jR; omega)) os, oM⟩)
theorem jr_sipush {n : Int} (hd : decode (jcode x) pc = .ok (.sipush n, 3)) (hn : -32768 ≤ n ∧ n ≤ 32767) (k : J G x mc ms Q cells slots (pc + 3) (lv) ((0, n) :: st) M) : J G x mc ms Q cells slots (pc) (lv) (st) M := by
  intro hcm hsm p e R s m args below meth c H locs ls X
  obtain ⟨C, hl, hr, hS, ol, os, oM⟩ := X
  exact lv_sipush C.1 C.2.1 hd (jn16 hn) (k hcm hsm p e R s m args below meth c H locs ls ⟨C, hl, hr, hS, ol, jok_c (jok_i (by unfold jR; omega)) os, oM⟩)
theorem jr_ldc {i : Nat} {n : Int} (hd : decode (jcode x) pc = .ok (.ldc i, 2)) (hn : jR n) (hc : Cond.constant (jname x).cls i (Int32.ofInt n) ∈ jtbl) (k : J G x mc ms Q cells slots (pc + 2) (lv) ((0, n) :: st) M) : J G x mc ms Q cells slots (pc) (lv) (st) M := by
  intro hcm hsm p e R s m args below meth c H locs ls X
  obtain ⟨C, hl, hr, hS, ol, os, oM⟩ := X
  exact lv_ldc C.1 C.2.1 C.2.2.2.2.1 (C.2.2.2.2.2.1 _ hc) hd (k hcm hsm p e R s m args below meth c H locs ls ⟨C, hl, hr, hS, ol, jok_c (jok_i hn) os, oM⟩)
theorem jr_ldc2 {i : Nat} {n : Int} (hd : decode (jcode x) pc = .ok (.ldc2_w i, 3)) (hn : jok (2, n)) (hc : Cond.constantLong (jname x).cls i (Int64.ofInt n) ∈ jtbl) (k : J G x mc ms Q cells slots (pc + 3) (lv) ((2, n) :: st) M) : J G x mc ms Q cells slots (pc) (lv) (st) M := by
  intro hcm hsm p e R s m args below meth c H locs ls X
  obtain ⟨C, hl, hr, hS, ol, os, oM⟩ := X
  exact lv_ldc2 C.1 C.2.1 C.2.2.2.2.1 (C.2.2.2.2.2.1 _ hc) hd (k hcm hsm p e R s m args below meth c H locs ls ⟨C, hl, hr, hS, ol, jok_c hn os, oM⟩)
theorem jr_lconst {n : Fin 2} (hd : decode (jcode x) pc = .ok (.lconst n, 1)) (k : J G x mc ms Q cells slots (pc + 1) (lv) ((2, ((n : Nat) : Int)) :: st) M) : J G x mc ms Q cells slots (pc) (lv) (st) M := by
  intro hcm hsm p e R s m args below meth c H locs ls X
  obtain ⟨C, hl, hr, hS, ol, os, oM⟩ := X
  exact lv_lconst C.1 C.2.1 hd (by rw [← Int64.toInt_inj]; have := n.isLt; have h : (n : Nat) = 0 ∨ (n : Nat) = 1 := by omega
                                   rcases h with h | h <;> rw [h] <;> rfl) (k hcm hsm p e R s m args below meth c H locs ls ⟨C, hl, hr, hS, ol, jok_c ⟨fun h => (by cases h), fun _ => (by have := n.isLt; simp; omega)⟩ os, oM⟩)
theorem jr_null (hd : decode (jcode x) pc = .ok (.aconst_null, 1)) (k : J G x mc ms Q cells slots (pc + 1) (lv) ((1, 0) :: st) M) : J G x mc ms Q cells slots (pc) (lv) (st) M := by
  intro hcm hsm p e R s m args below meth c H locs ls X
  obtain ⟨C, hl, hr, hS, ol, os, oM⟩ := X
  exact lv_null C.1 C.2.1 hd (k hcm hsm p e R s m args below meth c H locs ls ⟨C, hl, hr, hS, ol, jok_c (jok_r 0) os, oM⟩)
theorem jr_iload {i : Nat} {v : Int} (hd : decode (jcode x) pc = .ok (.iload i, 2)) (hg : jlg lv i = some (0, v)) (k : J G x mc ms Q cells slots (pc + 2) (lv) ((0, v) :: st) M) : J G x mc ms Q cells slots (pc) (lv) (st) M := by
  intro hcm hsm p e R s m args below meth c H locs ls X
  obtain ⟨C, hl, hr, hS, ol, os, oM⟩ := X
  exact lv_iload C.1 C.2.1 hd (lv_of hl hg) (k hcm hsm p e R s m args below meth c H locs ls ⟨C, hl, hr, hS, ol, jok_c (ol _ (jlg_mem hg)) os, oM⟩)
theorem jr_iload_n {i : Fin 4} {v : Int} (hd : decode (jcode x) pc = .ok (.iload_n i, 1)) (hg : jlg lv i = some (0, v)) (k : J G x mc ms Q cells slots (pc + 1) (lv) ((0, v) :: st) M) : J G x mc ms Q cells slots (pc) (lv) (st) M := by
  intro hcm hsm p e R s m args below meth c H locs ls X
  obtain ⟨C, hl, hr, hS, ol, os, oM⟩ := X
  exact lv_iload_n C.1 C.2.1 hd rfl (lv_of hl hg) (k hcm hsm p e R s m args below meth c H locs ls ⟨C, hl, hr, hS, ol, jok_c (ol _ (jlg_mem hg)) os, oM⟩)
theorem jr_lload {i : Nat} {v : Int} (hd : decode (jcode x) pc = .ok (.lload i, 2)) (hg : jlg lv i = some (2, v)) (k : J G x mc ms Q cells slots (pc + 2) (lv) ((2, v) :: st) M) : J G x mc ms Q cells slots (pc) (lv) (st) M := by
  intro hcm hsm p e R s m args below meth c H locs ls X
  obtain ⟨C, hl, hr, hS, ol, os, oM⟩ := X
  exact lv_lload C.1 C.2.1 hd (lv_of hl hg) (k hcm hsm p e R s m args below meth c H locs ls ⟨C, hl, hr, hS, ol, jok_c (ol _ (jlg_mem hg)) os, oM⟩)
theorem jr_lload_n {i : Fin 4} {v : Int} (hd : decode (jcode x) pc = .ok (.lload_n i, 1)) (hg : jlg lv i = some (2, v)) (k : J G x mc ms Q cells slots (pc + 1) (lv) ((2, v) :: st) M) : J G x mc ms Q cells slots (pc) (lv) (st) M := by
  intro hcm hsm p e R s m args below meth c H locs ls X
  obtain ⟨C, hl, hr, hS, ol, os, oM⟩ := X
  exact lv_lload_n C.1 C.2.1 hd rfl (lv_of hl hg) (k hcm hsm p e R s m args below meth c H locs ls ⟨C, hl, hr, hS, ol, jok_c (ol _ (jlg_mem hg)) os, oM⟩)
theorem jr_aload {i : Nat} {v : Int} (hd : decode (jcode x) pc = .ok (.aload i, 2)) (hg : jlg lv i = some (1, v)) (k : J G x mc ms Q cells slots (pc + 2) (lv) ((1, v) :: st) M) : J G x mc ms Q cells slots (pc) (lv) (st) M := by
  intro hcm hsm p e R s m args below meth c H locs ls X
  obtain ⟨C, hl, hr, hS, ol, os, oM⟩ := X
  have k := k hcm hsm p e R s m args below meth c H locs ls ⟨C, hl, hr, hS, ol, jok_c (jok_r v) os, oM⟩
  have hg := lv_of hl hg
  have e : ∀ r : Option Nat, jv (1, v) = va_rf r → W p G.2.2.2.1 e R s m args below meth c H locs cells slots (MQ below (JQ G (jtag x) Q) args s mc ms (jA G)) (F0 m pc ls (st.map jv)) := by
    intro r hv
    rw [hv] at hg
    have k2 : W p G.2.2.2.1 e R s m args below meth c H locs cells slots (MQ below (JQ G (jtag x) Q) args s mc ms (jA G)) (F0 m (pc + 2) ls (va_rf r :: st.map jv)) := by rw [← hv]; exact k
    cases r with
    | none => exact lv_aloadN C.1 C.2.1 hd hg k2
    | some q => exact lv_aload C.1 C.2.1 hd hg k2
  exact e _ rfl
theorem jr_istore {i : Nat} {v : Int} (hd : decode (jcode x) pc = .ok (.istore i, 2)) (hi : (i : Nat) < jmaxl x) (k : J G x mc ms Q cells slots (pc + 2) (jls lv i (0, v)) (st) M) : J G x mc ms Q cells slots (pc) (lv) ((0, v) :: st) M := by
  intro hcm hsm p e R s m args below meth c H locs ls X
  obtain ⟨C, hl, hr, hS, ol, os, oM⟩ := X
  exact lv_istore C.1 C.2.1 hd hl hi (jls_map lv i (0, v)) (fun ls' hl' => k hcm hsm p e R s m args below meth c H locs ls' ⟨C, hl', hr, hS, jls_ok ol (jok_h os), jok_t os, oM⟩)
theorem jr_astore {i : Nat} {v : Int} (hd : decode (jcode x) pc = .ok (.astore i, 2)) (hi : (i : Nat) < jmaxl x) (k : J G x mc ms Q cells slots (pc + 2) (jls lv i (1, v)) (st) M) : J G x mc ms Q cells slots (pc) (lv) ((1, v) :: st) M := by
  intro hcm hsm p e R s m args below meth c H locs ls X
  obtain ⟨C, hl, hr, hS, ol, os, oM⟩ := X
  have k : ∀ ls', lv_has ls' (jmaxl x) ((jls lv i (1, v)).map fun q => (q.1, jv q.2)) → _ := fun ls' hl' => k hcm hsm p e R s m args below meth c H locs ls' ⟨C, hl', hr, hS, jls_ok ol (jok_h os), jok_t os, oM⟩
  rw [← jls_map] at k
  show W p G.2.2.2.1 e R s m args below meth c H locs cells slots _ (F0 m pc ls (jv (1, v) :: st.map jv))
  revert k
  show (∀ ls', lv_has ls' (jmaxl x) (((i : Nat), va_rf (jrf v)) :: _) → _) → W p G.2.2.2.1 e R s m args below meth c H locs cells slots _ (F0 m pc ls (va_rf (jrf v) :: st.map jv))
  cases jrf v with
  | none => exact fun k => lv_astoreN C.1 C.2.1 hd hl hi rfl k
  | some q => exact fun k => lv_astore C.1 C.2.1 hd hl hi rfl k
theorem jr_aload_n {i : Fin 4} {v : Int} (hd : decode (jcode x) pc = .ok (.aload_n i, 1)) (hg : jlg lv i = some (1, v)) (k : J G x mc ms Q cells slots (pc + 1) (lv) ((1, v) :: st) M) : J G x mc ms Q cells slots (pc) (lv) (st) M := by
  intro hcm hsm p e R s m args below meth c H locs ls X
  obtain ⟨C, hl, hr, hS, ol, os, oM⟩ := X
  have k := k hcm hsm p e R s m args below meth c H locs ls ⟨C, hl, hr, hS, ol, jok_c (jok_r v) os, oM⟩
  have hg := lv_of hl hg
  have e : ∀ r : Option Nat, jv (1, v) = va_rf r → W p G.2.2.2.1 e R s m args below meth c H locs cells slots (MQ below (JQ G (jtag x) Q) args s mc ms (jA G)) (F0 m pc ls (st.map jv)) := by
    intro r hv
    rw [hv] at hg
    have k2 : W p G.2.2.2.1 e R s m args below meth c H locs cells slots (MQ below (JQ G (jtag x) Q) args s mc ms (jA G)) (F0 m (pc + 1) ls (va_rf r :: st.map jv)) := by rw [← hv]; exact k
    cases r with
    | none => exact lv_aload_nN C.1 C.2.1 hd rfl hg k2
    | some q => exact lv_aload_n C.1 C.2.1 hd rfl hg k2
  exact e _ rfl
theorem jr_istore_n {i : Fin 4} {v : Int} (hd : decode (jcode x) pc = .ok (.istore_n i, 1)) (hi : (i : Nat) < jmaxl x) (k : J G x mc ms Q cells slots (pc + 1) (jls lv i (0, v)) (st) M) : J G x mc ms Q cells slots (pc) (lv) ((0, v) :: st) M := by
  intro hcm hsm p e R s m args below meth c H locs ls X
  obtain ⟨C, hl, hr, hS, ol, os, oM⟩ := X
  exact lv_istore_n C.1 C.2.1 hd rfl hl hi (jls_map lv i (0, v)) (fun ls' hl' => k hcm hsm p e R s m args below meth c H locs ls' ⟨C, hl', hr, hS, jls_ok ol (jok_h os), jok_t os, oM⟩)
theorem jr_astore_n {i : Fin 4} {v : Int} (hd : decode (jcode x) pc = .ok (.astore_n i, 1)) (hi : (i : Nat) < jmaxl x) (k : J G x mc ms Q cells slots (pc + 1) (jls lv i (1, v)) (st) M) : J G x mc ms Q cells slots (pc) (lv) ((1, v) :: st) M := by
  intro hcm hsm p e R s m args below meth c H locs ls X
  obtain ⟨C, hl, hr, hS, ol, os, oM⟩ := X
  have k : ∀ ls', lv_has ls' (jmaxl x) ((jls lv i (1, v)).map fun q => (q.1, jv q.2)) → _ := fun ls' hl' => k hcm hsm p e R s m args below meth c H locs ls' ⟨C, hl', hr, hS, jls_ok ol (jok_h os), jok_t os, oM⟩
  rw [← jls_map] at k
  show W p G.2.2.2.1 e R s m args below meth c H locs cells slots _ (F0 m pc ls (jv (1, v) :: st.map jv))
  revert k
  show (∀ ls', lv_has ls' (jmaxl x) (((i : Nat), va_rf (jrf v)) :: _) → _) → W p G.2.2.2.1 e R s m args below meth c H locs cells slots _ (F0 m pc ls (va_rf (jrf v) :: st.map jv))
  cases jrf v with
  | none => exact fun k => lv_astore_nN C.1 C.2.1 hd rfl hl hi rfl k
  | some q => exact fun k => lv_astore_n C.1 C.2.1 hd rfl hl hi rfl k
theorem jr_iinc {i : Nat} {n v : Int} (hd : decode (jcode x) pc = .ok (.iinc i n, 3)) (hg : jlg lv i = some (0, v)) (hi : i < jmaxl x) (hR : jR (v + n)) (k : J G x mc ms Q cells slots (pc + 3) (jls lv i (0, v + n)) (st) M) : J G x mc ms Q cells slots (pc) (lv) (st) M := by
  intro hcm hsm p e R s m args below meth c H locs ls X
  obtain ⟨C, hl, hr, hS, ol, os, oM⟩ := X
  obtain ⟨j, hj⟩ := List.getElem?_of_mem (List.mem_map.mpr ⟨(i, (0, v)), jlg_mem hg, rfl⟩ : (i, jv (0, v)) ∈ lv.map fun q => (q.1, jv q.2))
  exact lv_iinc C.1 C.2.1 hd hl hj (show _ = Int32.ofInt (v + n) from (Int32.ofInt_add v n).symm) hi (jls_map lv i (0, v + n)) (fun ls' hl' => k hcm hsm p e R s m args below meth c H locs ls' ⟨C, hl', hr, hS, jls_ok ol (jok_i hR), os, oM⟩)
theorem jr_iadd {a b : Int} (hd : decode (jcode x) pc = .ok (.iadd, 1)) (hR : jR (a + b)) (k : J G x mc ms Q cells slots (pc + 1) (lv) ((0, a + b) :: st) M) : J G x mc ms Q cells slots (pc) (lv) ((0, b) :: (0, a) :: st) M := by
  intro hcm hsm p e R s m args below meth c H locs ls X
  obtain ⟨C, hl, hr, hS, ol, os, oM⟩ := X
  have k := k hcm hsm p e R s m args below meth c H locs ls ⟨C, hl, hr, hS, ol, jok_c (jok_i hR) (jok_t (jok_t os)), oM⟩
  refine lv_iadd C.1 C.2.1 hd ?_
  rw [← Int32.ofInt_add]
  exact k
theorem jr_isub {a b : Int} (hd : decode (jcode x) pc = .ok (.isub, 1)) (hR : jR (a - b)) (k : J G x mc ms Q cells slots (pc + 1) (lv) ((0, a - b) :: st) M) : J G x mc ms Q cells slots (pc) (lv) ((0, b) :: (0, a) :: st) M := by
  intro hcm hsm p e R s m args below meth c H locs ls X
  obtain ⟨C, hl, hr, hS, ol, os, oM⟩ := X
  have k := k hcm hsm p e R s m args below meth c H locs ls ⟨C, hl, hr, hS, ol, jok_c (jok_i hR) (jok_t (jok_t os)), oM⟩
  refine lv_isub C.1 C.2.1 hd ?_
  rw [← Int32.ofInt_sub]
  exact k
theorem jr_imul {a b : Int} (hd : decode (jcode x) pc = .ok (.imul, 1)) (hR : jR (a * b)) (k : J G x mc ms Q cells slots (pc + 1) (lv) ((0, a * b) :: st) M) : J G x mc ms Q cells slots (pc) (lv) ((0, b) :: (0, a) :: st) M := by
  intro hcm hsm p e R s m args below meth c H locs ls X
  obtain ⟨C, hl, hr, hS, ol, os, oM⟩ := X
  have k := k hcm hsm p e R s m args below meth c H locs ls ⟨C, hl, hr, hS, ol, jok_c (jok_i hR) (jok_t (jok_t os)), oM⟩
  refine lv_imul C.1 C.2.1 hd ?_
  rw [← Int32.ofInt_mul]
  exact k
theorem jr_idiv {a b : Int} (hd : decode (jcode x) pc = .ok (.idiv, 1)) (h0 : 0 ≤ a) (h1 : 0 < b) (k : J G x mc ms Q cells slots (pc + 1) (lv) ((0, a / b) :: st) M) : J G x mc ms Q cells slots (pc) (lv) ((0, b) :: (0, a) :: st) M := by
  intro hcm hsm p e R s m args below meth c H locs ls X
  obtain ⟨C, hl, hr, hS, ol, os, oM⟩ := X
  have ra := jok_R (jok_h (jok_t os))
  have rb := jok_R (jok_h os)
  have hq : 0 ≤ a / b ∧ a / b ≤ a := ⟨Int.ediv_nonneg h0 (by omega), Int.ediv_le_self b h0⟩
  have hm : 0 ≤ a % b ∧ a % b < b := ⟨Int.emod_nonneg a (by omega), Int.emod_lt_of_pos a h1⟩
  have hR : jR (a / b) := by unfold jR at ra rb ⊢; omega
  have k := k hcm hsm p e R s m args below meth c H locs ls ⟨C, hl, hr, hS, ol, jok_c (jok_i hR) (jok_t (jok_t os)), oM⟩
  refine lv_idiv C.1 C.2.1 hd (fun h => ?_) ?_
  · rw [show (0 : Int32) = Int32.ofInt 0 from rfl, j32_eq rb jR_0] at h; omega
  rw [jdiv ra rb h0 h1]
  exact k
theorem jr_irem {a b : Int} (hd : decode (jcode x) pc = .ok (.irem, 1)) (h0 : 0 ≤ a) (h1 : 0 < b) (k : J G x mc ms Q cells slots (pc + 1) (lv) ((0, a % b) :: st) M) : J G x mc ms Q cells slots (pc) (lv) ((0, b) :: (0, a) :: st) M := by
  intro hcm hsm p e R s m args below meth c H locs ls X
  obtain ⟨C, hl, hr, hS, ol, os, oM⟩ := X
  have ra := jok_R (jok_h (jok_t os))
  have rb := jok_R (jok_h os)
  have hq : 0 ≤ a / b ∧ a / b ≤ a := ⟨Int.ediv_nonneg h0 (by omega), Int.ediv_le_self b h0⟩
  have hm : 0 ≤ a % b ∧ a % b < b := ⟨Int.emod_nonneg a (by omega), Int.emod_lt_of_pos a h1⟩
  have hR : jR (a % b) := by unfold jR at ra rb ⊢; omega
  have k := k hcm hsm p e R s m args below meth c H locs ls ⟨C, hl, hr, hS, ol, jok_c (jok_i hR) (jok_t (jok_t os)), oM⟩
  refine lv_irem C.1 C.2.1 hd (fun h => ?_) ?_
  · rw [show (0 : Int32) = Int32.ofInt 0 from rfl, j32_eq rb jR_0] at h; omega
  rw [jrem ra rb h0 h1]
  exact k
theorem jr_iand {a b : Int} (hd : decode (jcode x) pc = .ok (.iand, 1)) (k : J G x mc ms Q cells slots (pc + 1) (lv) ((0, jand a b) :: st) M) : J G x mc ms Q cells slots (pc) (lv) ((0, b) :: (0, a) :: st) M := by
  intro hcm hsm p e R s m args below meth c H locs ls X
  obtain ⟨C, hl, hr, hS, ol, os, oM⟩ := X
  have k := k hcm hsm p e R s m args below meth c H locs ls ⟨C, hl, hr, hS, ol, jok_c (jok_i (jR_32 _)) (jok_t (jok_t os)), oM⟩
  refine lv_iand C.1 C.2.1 hd ?_
  have e1 : jv (0, jand a b) = .int _ := congrArg Value.int (Int32.ofInt_toInt _)
  rw [List.map_cons, e1] at k
  exact k
theorem jr_ishl {a b : Int} (hd : decode (jcode x) pc = .ok (.ishl, 1)) (k : J G x mc ms Q cells slots (pc + 1) (lv) ((0, jshl a b) :: st) M) : J G x mc ms Q cells slots (pc) (lv) ((0, b) :: (0, a) :: st) M := by
  intro hcm hsm p e R s m args below meth c H locs ls X
  obtain ⟨C, hl, hr, hS, ol, os, oM⟩ := X
  have k := k hcm hsm p e R s m args below meth c H locs ls ⟨C, hl, hr, hS, ol, jok_c (jok_i (jR_32 _)) (jok_t (jok_t os)), oM⟩
  refine lv_ishl C.1 C.2.1 hd ?_
  have e1 : jv (0, jshl a b) = .int _ := congrArg Value.int (Int32.ofInt_toInt _)
  rw [List.map_cons, e1] at k
  exact k
theorem jr_ishr {a b : Int} (hd : decode (jcode x) pc = .ok (.ishr, 1)) (k : J G x mc ms Q cells slots (pc + 1) (lv) ((0, jshr a b) :: st) M) : J G x mc ms Q cells slots (pc) (lv) ((0, b) :: (0, a) :: st) M := by
  intro hcm hsm p e R s m args below meth c H locs ls X
  obtain ⟨C, hl, hr, hS, ol, os, oM⟩ := X
  have k := k hcm hsm p e R s m args below meth c H locs ls ⟨C, hl, hr, hS, ol, jok_c (jok_i (jR_32 _)) (jok_t (jok_t os)), oM⟩
  refine lv_ishr C.1 C.2.1 hd ?_
  have e1 : jv (0, jshr a b) = .int _ := congrArg Value.int (Int32.ofInt_toInt _)
  rw [List.map_cons, e1] at k
  exact k
theorem jr_land {a b : Int} (hd : decode (jcode x) pc = .ok (.land, 1)) (k : J G x mc ms Q cells slots (pc + 1) (lv) ((2, jland a b) :: st) M) : J G x mc ms Q cells slots (pc) (lv) ((2, b) :: (2, a) :: st) M := by
  intro hcm hsm p e R s m args below meth c H locs ls X
  obtain ⟨C, hl, hr, hS, ol, os, oM⟩ := X
  have k := k hcm hsm p e R s m args below meth c H locs ls ⟨C, hl, hr, hS, ol, jok_c (jok_64 _) (jok_t (jok_t os)), oM⟩
  have e1 : jv (2, jland a b) = .long _ := congrArg Value.long (Int64.ofInt_toInt _)
  rw [List.map_cons, e1] at k
  exact lv_land C.1 C.2.1 hd k
theorem jr_lor {a b : Int} (hd : decode (jcode x) pc = .ok (.lor, 1)) (k : J G x mc ms Q cells slots (pc + 1) (lv) ((2, jlor a b) :: st) M) : J G x mc ms Q cells slots (pc) (lv) ((2, b) :: (2, a) :: st) M := by
  intro hcm hsm p e R s m args below meth c H locs ls X
  obtain ⟨C, hl, hr, hS, ol, os, oM⟩ := X
  have k := k hcm hsm p e R s m args below meth c H locs ls ⟨C, hl, hr, hS, ol, jok_c (jok_64 _) (jok_t (jok_t os)), oM⟩
  have e1 : jv (2, jlor a b) = .long _ := congrArg Value.long (Int64.ofInt_toInt _)
  rw [List.map_cons, e1] at k
  exact lv_lor C.1 C.2.1 hd k
theorem jr_lshl {a b : Int} (hd : decode (jcode x) pc = .ok (.lshl, 1)) (k : J G x mc ms Q cells slots (pc + 1) (lv) ((2, jlshl a b) :: st) M) : J G x mc ms Q cells slots (pc) (lv) ((0, b) :: (2, a) :: st) M := by
  intro hcm hsm p e R s m args below meth c H locs ls X
  obtain ⟨C, hl, hr, hS, ol, os, oM⟩ := X
  have k := k hcm hsm p e R s m args below meth c H locs ls ⟨C, hl, hr, hS, ol, jok_c (jok_64 _) (jok_t (jok_t os)), oM⟩
  have e1 : jv (2, jlshl a b) = .long _ := congrArg Value.long (Int64.ofInt_toInt _)
  rw [List.map_cons, e1] at k
  exact lv_lshl C.1 C.2.1 hd rfl k
theorem jr_lshr {a b : Int} (hd : decode (jcode x) pc = .ok (.lshr, 1)) (k : J G x mc ms Q cells slots (pc + 1) (lv) ((2, jlshr a b) :: st) M) : J G x mc ms Q cells slots (pc) (lv) ((0, b) :: (2, a) :: st) M := by
  intro hcm hsm p e R s m args below meth c H locs ls X
  obtain ⟨C, hl, hr, hS, ol, os, oM⟩ := X
  have k := k hcm hsm p e R s m args below meth c H locs ls ⟨C, hl, hr, hS, ol, jok_c (jok_64 _) (jok_t (jok_t os)), oM⟩
  have e1 : jv (2, jlshr a b) = .long _ := congrArg Value.long (Int64.ofInt_toInt _)
  rw [List.map_cons, e1] at k
  exact lv_lshr C.1 C.2.1 hd rfl k
theorem jr_lushr {a b : Int} (hd : decode (jcode x) pc = .ok (.lushr, 1)) (k : J G x mc ms Q cells slots (pc + 1) (lv) ((2, jlushr a b) :: st) M) : J G x mc ms Q cells slots (pc) (lv) ((0, b) :: (2, a) :: st) M := by
  intro hcm hsm p e R s m args below meth c H locs ls X
  obtain ⟨C, hl, hr, hS, ol, os, oM⟩ := X
  have k := k hcm hsm p e R s m args below meth c H locs ls ⟨C, hl, hr, hS, ol, jok_c (jok_64 _) (jok_t (jok_t os)), oM⟩
  have e1 : jv (2, jlushr a b) = .long _ := congrArg Value.long (Int64.ofInt_toInt _)
  rw [List.map_cons, e1] at k
  exact lv_lushr C.1 C.2.1 hd rfl k
theorem jr_i2l {a : Int} (hd : decode (jcode x) pc = .ok (.i2l, 1)) (k : J G x mc ms Q cells slots (pc + 1) (lv) ((2, a) :: st) M) : J G x mc ms Q cells slots (pc) (lv) ((0, a) :: st) M := by
  intro hcm hsm p e R s m args below meth c H locs ls X
  obtain ⟨C, hl, hr, hS, ol, os, oM⟩ := X
  have ra := jok_R (jok_h os)
  exact lv_i2l C.1 C.2.1 hd (ji2l ra) (k hcm hsm p e R s m args below meth c H locs ls ⟨C, hl, hr, hS, ol, jok_c ⟨fun h => (by cases h), fun _ => (by unfold jR at ra; simp; omega)⟩ (jok_t os), oM⟩)
theorem jr_l2i {a : Int} (hd : decode (jcode x) pc = .ok (.l2i, 1)) (k : J G x mc ms Q cells slots (pc + 1) (lv) ((0, jl2i a) :: st) M) : J G x mc ms Q cells slots (pc) (lv) ((2, a) :: st) M := by
  intro hcm hsm p e R s m args below meth c H locs ls X
  obtain ⟨C, hl, hr, hS, ol, os, oM⟩ := X
  have k := k hcm hsm p e R s m args below meth c H locs ls ⟨C, hl, hr, hS, ol, jok_c (jok_i (jR_32 _)) (jok_t os), oM⟩
  have e1 : jv (0, jl2i a) = .int _ := congrArg Value.int (Int32.ofInt_toInt _)
  rw [List.map_cons, e1] at k
  exact lv_l2i C.1 C.2.1 hd rfl k
theorem jr_lcmp {a b : Int} (hd : decode (jcode x) pc = .ok (.lcmp, 1)) (k : J G x mc ms Q cells slots (pc + 1) (lv) ((0, jlcmp a b) :: st) M) : J G x mc ms Q cells slots (pc) (lv) ((2, b) :: (2, a) :: st) M := by
  intro hcm hsm p e R s m args below meth c H locs ls X
  obtain ⟨C, hl, hr, hS, ol, os, oM⟩ := X
  have k := k hcm hsm p e R s m args below meth c H locs ls ⟨C, hl, hr, hS, ol, jok_c (jok_i (by unfold jlcmp jR; split; omega; split <;> omega)) (jok_t (jok_t os)), oM⟩
  refine W.lcmp C.1 C.2.1 hd ?_
  rw [jlc (jok_h (jok_t os)) (jok_h os)]
  exact k
theorem jr_dup {v : JV} (hd : decode (jcode x) pc = .ok (.dup, 1)) (hv : v.1 = 0 ∨ v.1 = 1 ∨ v.1 = 5) (k : J G x mc ms Q cells slots (pc + 1) (lv) (v :: v :: st) M) : J G x mc ms Q cells slots (pc) (lv) (v :: st) M := by
  intro hcm hsm p e R s m args below meth c H locs ls X
  obtain ⟨C, hl, hr, hS, ol, os, oM⟩ := X
  exact lv_dup C.1 C.2.1 hd (by rw [jv_cat, if_pos hv]) (k hcm hsm p e R s m args below meth c H locs ls ⟨C, hl, hr, hS, ol, jok_c (jok_h os) os, oM⟩)
theorem jr_dup2 {v u : JV} (hd : decode (jcode x) pc = .ok (.dup2, 1)) (hv : v.1 = 0 ∨ v.1 = 1 ∨ v.1 = 5) (hu : u.1 = 0 ∨ u.1 = 1 ∨ u.1 = 5) (k : J G x mc ms Q cells slots (pc + 1) (lv) (v :: u :: v :: u :: st) M) : J G x mc ms Q cells slots (pc) (lv) (v :: u :: st) M := by
  intro hcm hsm p e R s m args below meth c H locs ls X
  obtain ⟨C, hl, hr, hS, ol, os, oM⟩ := X
  exact lv_dup2_11 C.1 C.2.1 hd (by rw [jv_cat, if_pos hv]) (by rw [jv_cat, if_pos hu]) (k hcm hsm p e R s m args below meth c H locs ls ⟨C, hl, hr, hS, ol, jok_c (jok_h os) (jok_c (jok_h (jok_t os)) os), oM⟩)
theorem jr_pop {v : JV} (hd : decode (jcode x) pc = .ok (.pop, 1)) (hv : v.1 = 0 ∨ v.1 = 1 ∨ v.1 = 5) (k : J G x mc ms Q cells slots (pc + 1) (lv) (st) M) : J G x mc ms Q cells slots (pc) (lv) (v :: st) M := by
  intro hcm hsm p e R s m args below meth c H locs ls X
  obtain ⟨C, hl, hr, hS, ol, os, oM⟩ := X
  exact lv_pop C.1 C.2.1 hd (by rw [jv_cat, if_pos hv]) (k hcm hsm p e R s m args below meth c H locs ls ⟨C, hl, hr, hS, ol, jok_t os, oM⟩)
theorem jr_goto {off : Int} {t : Nat} (hd : decode (jcode x) pc = .ok (.goto off, 3)) (ht : (pc : Int) + off = t) (k : J G x mc ms Q cells slots (t) (lv) (st) M) : J G x mc ms Q cells slots (pc) (lv) (st) M := by
  intro hcm hsm p e R s m args below meth c H locs ls X
  obtain ⟨C, hl, hr, hS, ol, os, oM⟩ := X
  exact lv_goto C.1 C.2.1 hd ht (k hcm hsm p e R s m args below meth c H locs ls ⟨C, hl, hr, hS, ol, os, oM⟩)

theorem jr_icmp {cd : ClassFile.Cond} {off : Int} {t : Nat} {a b : Int} (hd : decode (jcode x) pc = .ok (.if_icmp cd off, 3)) (ht : (pc : Int) + off = t) (kt : jcmp cd a b → J G x mc ms Q cells slots (t) (lv) (st) M) (kf : ¬ jcmp cd a b → J G x mc ms Q cells slots (pc + 3) (lv) (st) M) : J G x mc ms Q cells slots (pc) (lv) ((0, b) :: (0, a) :: st) M := by
  intro hcm hsm p e R s m args below meth c H locs ls X
  obtain ⟨C, hl, hr, hS, ol, os, oM⟩ := X
  have ra := jok_R (jok_h (jok_t os))
  have rb := jok_R (jok_h os)
  have os' := jok_t (jok_t os)
  cases cd with
  | eq => exact lv_icmp_eq C.1 C.2.1 hd ht (fun h => kt ((j32_eq ra rb).mp h) hcm hsm p e R s m args below meth c H locs ls ⟨C, hl, hr, hS, ol, os', oM⟩) (fun h => kf (fun q => h ((j32_eq ra rb).mpr q)) hcm hsm p e R s m args below meth c H locs ls ⟨C, hl, hr, hS, ol, os', oM⟩)
  | ne => exact lv_icmp_ne C.1 C.2.1 hd ht (fun h => kt (fun q => h ((j32_eq ra rb).mpr q)) hcm hsm p e R s m args below meth c H locs ls ⟨C, hl, hr, hS, ol, os', oM⟩) (fun h => kf (fun q => q ((j32_eq ra rb).mp h)) hcm hsm p e R s m args below meth c H locs ls ⟨C, hl, hr, hS, ol, os', oM⟩)
  | lt => exact lv_icmp_lt C.1 C.2.1 hd ht (fun h => kt ((j32_lt ra rb).mp h) hcm hsm p e R s m args below meth c H locs ls ⟨C, hl, hr, hS, ol, os', oM⟩) (fun h => kf (fun q => h ((j32_lt ra rb).mpr q)) hcm hsm p e R s m args below meth c H locs ls ⟨C, hl, hr, hS, ol, os', oM⟩)
  | ge => exact lv_icmp_ge C.1 C.2.1 hd ht (fun h => kt ((j32_le rb ra).mp h) hcm hsm p e R s m args below meth c H locs ls ⟨C, hl, hr, hS, ol, os', oM⟩) (fun h => kf (fun q => h ((j32_le rb ra).mpr q)) hcm hsm p e R s m args below meth c H locs ls ⟨C, hl, hr, hS, ol, os', oM⟩)
  | gt => exact lv_icmp_gt C.1 C.2.1 hd ht (fun h => kt ((j32_lt rb ra).mp h) hcm hsm p e R s m args below meth c H locs ls ⟨C, hl, hr, hS, ol, os', oM⟩) (fun h => kf (fun q => h ((j32_lt rb ra).mpr q)) hcm hsm p e R s m args below meth c H locs ls ⟨C, hl, hr, hS, ol, os', oM⟩)
  | le => exact lv_icmp_le C.1 C.2.1 hd ht (fun h => kt ((j32_le ra rb).mp h) hcm hsm p e R s m args below meth c H locs ls ⟨C, hl, hr, hS, ol, os', oM⟩) (fun h => kf (fun q => h ((j32_le ra rb).mpr q)) hcm hsm p e R s m args below meth c H locs ls ⟨C, hl, hr, hS, ol, os', oM⟩)
theorem jr_ifc {cd : ClassFile.Cond} {off : Int} {t : Nat} {a : Int} (hd : decode (jcode x) pc = .ok (.ifCond cd off, 3)) (ht : (pc : Int) + off = t) (kt : jcmp cd a 0 → J G x mc ms Q cells slots (t) (lv) (st) M) (kf : ¬ jcmp cd a 0 → J G x mc ms Q cells slots (pc + 3) (lv) (st) M) : J G x mc ms Q cells slots (pc) (lv) ((0, a) :: st) M := by
  intro hcm hsm p e R s m args below meth c H locs ls X
  obtain ⟨C, hl, hr, hS, ol, os, oM⟩ := X
  have ra := jok_R (jok_h os)
  have rb := jR_0
  have os' := jok_t os
  cases cd with
  | eq => exact lv_if_eq C.1 C.2.1 hd ht (fun h => kt ((j32_eq ra rb).mp h) hcm hsm p e R s m args below meth c H locs ls ⟨C, hl, hr, hS, ol, os', oM⟩) (fun h => kf (fun q => h ((j32_eq ra rb).mpr q)) hcm hsm p e R s m args below meth c H locs ls ⟨C, hl, hr, hS, ol, os', oM⟩)
  | ne => exact lv_if_ne C.1 C.2.1 hd ht (fun h => kt (fun q => h ((j32_eq ra rb).mpr q)) hcm hsm p e R s m args below meth c H locs ls ⟨C, hl, hr, hS, ol, os', oM⟩) (fun h => kf (fun q => q ((j32_eq ra rb).mp h)) hcm hsm p e R s m args below meth c H locs ls ⟨C, hl, hr, hS, ol, os', oM⟩)
  | lt => exact lv_if_lt C.1 C.2.1 hd ht (fun h => kt ((j32_lt ra rb).mp h) hcm hsm p e R s m args below meth c H locs ls ⟨C, hl, hr, hS, ol, os', oM⟩) (fun h => kf (fun q => h ((j32_lt ra rb).mpr q)) hcm hsm p e R s m args below meth c H locs ls ⟨C, hl, hr, hS, ol, os', oM⟩)
  | ge => exact lv_if_ge C.1 C.2.1 hd ht (fun h => kt ((j32_le rb ra).mp h) hcm hsm p e R s m args below meth c H locs ls ⟨C, hl, hr, hS, ol, os', oM⟩) (fun h => kf (fun q => h ((j32_le rb ra).mpr q)) hcm hsm p e R s m args below meth c H locs ls ⟨C, hl, hr, hS, ol, os', oM⟩)
  | gt => exact lv_if_gt C.1 C.2.1 hd ht (fun h => kt ((j32_lt rb ra).mp h) hcm hsm p e R s m args below meth c H locs ls ⟨C, hl, hr, hS, ol, os', oM⟩) (fun h => kf (fun q => h ((j32_lt rb ra).mpr q)) hcm hsm p e R s m args below meth c H locs ls ⟨C, hl, hr, hS, ol, os', oM⟩)
  | le => exact lv_if_le C.1 C.2.1 hd ht (fun h => kt ((j32_le ra rb).mp h) hcm hsm p e R s m args below meth c H locs ls ⟨C, hl, hr, hS, ol, os', oM⟩) (fun h => kf (fun q => h ((j32_le ra rb).mpr q)) hcm hsm p e R s m args below meth c H locs ls ⟨C, hl, hr, hS, ol, os', oM⟩)
theorem jr_ifnull {off : Int} {t : Nat} {a : Int} (hd : decode (jcode x) pc = .ok (.ifnull off, 3)) (ht : (pc : Int) + off = t) (kt : a = 0 → J G x mc ms Q cells slots (t) (lv) (st) M) (kf : ¬ a = 0 → J G x mc ms Q cells slots (pc + 3) (lv) (st) M) : J G x mc ms Q cells slots (pc) (lv) ((1, a) :: st) M := by
  intro hcm hsm p e R s m args below meth c H locs ls X
  obtain ⟨C, hl, hr, hS, ol, os, oM⟩ := X
  have os' := jok_t os
  show W p G.2.2.2.1 e R s m args below meth c H locs cells slots _ (F0 m pc ls (va_rf (jrf a) :: st.map jv))
  by_cases h : a = 0
  · rw [show jrf a = none from if_pos h]
    exact lv_ifnullN C.1 C.2.1 hd ht (kt h hcm hsm p e R s m args below meth c H locs ls ⟨C, hl, hr, hS, ol, os', oM⟩)
  · rw [show jrf a = some a.toNat from if_neg h]
    exact lv_ifnull C.1 C.2.1 hd (kf h hcm hsm p e R s m args below meth c H locs ls ⟨C, hl, hr, hS, ol, os', oM⟩)
theorem jr_ifnonnull {off : Int} {t : Nat} {a : Int} (hd : decode (jcode x) pc = .ok (.ifnonnull off, 3)) (ht : (pc : Int) + off = t) (kt : a = 0 → J G x mc ms Q cells slots (pc + 3) (lv) (st) M) (kf : ¬ a = 0 → J G x mc ms Q cells slots (t) (lv) (st) M) : J G x mc ms Q cells slots (pc) (lv) ((1, a) :: st) M := by
  intro hcm hsm p e R s m args below meth c H locs ls X
  obtain ⟨C, hl, hr, hS, ol, os, oM⟩ := X
  have os' := jok_t os
  show W p G.2.2.2.1 e R s m args below meth c H locs cells slots _ (F0 m pc ls (va_rf (jrf a) :: st.map jv))
  by_cases h : a = 0
  · rw [show jrf a = none from if_pos h]
    exact lv_ifnonnullN C.1 C.2.1 hd (kt h hcm hsm p e R s m args below meth c H locs ls ⟨C, hl, hr, hS, ol, os', oM⟩)
  · rw [show jrf a = some a.toNat from if_neg h]
    exact lv_ifnonnull C.1 C.2.1 hd ht (kf h hcm hsm p e R s m args below meth c H locs ls ⟨C, hl, hr, hS, ol, os', oM⟩)
end JRULES
