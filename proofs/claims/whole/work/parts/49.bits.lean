/-! units of a long -/
theorem u_sm : ∀ k : Nat, k < 4 → ((Int32.ofInt ((16 * k : Nat) : Int)).toInt64 &&& 63).toBitVec.smod 64 = BitVec.ofNat 64 (16 * k) := by decide +kernel
theorem u_um : ∀ k : Nat, k < 4 → ((Int32.ofInt ((16 * k : Nat) : Int)).toInt64.toUInt64 &&& Int64.toUInt64 63).toBitVec % 64 = BitVec.ofNat 64 (16 * k) := by decide +kernel
theorem u_tn4 : ∀ k : Nat, k < 4 → (BitVec.ofNat 64 (16 * k)).toNat = 16 * k := by decide +kernel
theorem u_m32 : ∀ i : Nat, i < 32 → (Int32.ofInt 65535).toBitVec.getLsbD i = decide (i < 16) := by decide +kernel
theorem u_m64 : ∀ i : Nat, i < 32 → (Int64.ofInt 65535).toBitVec.getLsbD i = decide (i < 16) := by decide +kernel
theorem ub_same (w : Int64) {k : Nat} (hk : k < 4) : ((w >>> ((Int32.ofInt ((16 * k : Nat) : Int)).toInt64 &&& 63)) &&& Int64.ofInt 65535).toInt32 = ((w.toUInt64 >>> ((Int32.ofInt ((16 * k : Nat) : Int)).toInt64.toUInt64 &&& Int64.toUInt64 63)).toInt64.toInt32) &&& Int32.ofInt 65535 := by
  apply Int32.toBitVec_inj.mp
  apply BitVec.eq_of_getLsbD_eq
  intro i hi
  rw [Int64.toBitVec_toInt32, BitVec.getLsbD_signExtend, if_pos (show i < 64 by omega), Int64.toBitVec_and, BitVec.getLsbD_and, u_m64 i hi, Int32.toBitVec_and, BitVec.getLsbD_and, u_m32 i hi, Int64.toBitVec_toInt32, BitVec.getLsbD_signExtend, if_pos (show i < 64 by omega)]
  by_cases h : i < 16
  · rw [Int64.toBitVec_shiftRight, u_sm k hk, BitVec.sshiftRight_eq', BitVec.getLsbD_sshiftRight, u_tn4 k hk, UInt64.toBitVec_toInt64, UInt64.toBitVec_shiftRight, u_um k hk]
    rw [BitVec.ushiftRight_eq', BitVec.getLsbD_ushiftRight, u_tn4 k hk]
    simp [h, hi, show 16 * k + i < 64 by omega, show ¬ 64 ≤ i by omega]
  · simp [h]
/-- unit k of the long w -/
def uw (w k : Int) : Int := jand (jl2i (jlushr w (16 * k))) 65535
theorem j64r (x : Int64) : Int64.ofInt x.toInt = x := Int64.ofInt_toInt x
theorem j32r (x : Int32) : Int32.ofInt x.toInt = x := Int32.ofInt_toInt x
theorem uw_ref {w k : Int} (h0 : 0 ≤ k) (h1 : k ≤ 3) : jl2i (jland (jlshr w (16 * k)) 65535) = uw w k := by
  obtain ⟨m, rfl⟩ := Int.eq_ofNat_of_zero_le h0
  unfold uw jl2i jland jlshr jand jlushr
  rw [j64r, j64r, j64r, j32r, show (16 * (m : Int)) = ((16 * m : Nat) : Int) by omega]
  exact congrArg Int32.toInt (ub_same (Int64.ofInt w) (by omega))
theorem uw_r (w k : Int) : 0 ≤ uw w k ∧ uw w k ≤ 65535 := by
  unfold uw
  rw [jand_65535]
  omega
