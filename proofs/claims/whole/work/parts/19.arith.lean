/-! bits as numbers -/
theorem jnat32 (a : Int) : (Int32.ofInt a).toBitVec.toNat = (a % 4294967296).toNat := by
  show (BitVec.ofInt 32 a).toNat = _
  rw [BitVec.toNat_ofInt]; rfl
theorem jnI_int {n : Nat} (h : n < 2147483648) : (nI n).toInt = (n : Int) := nI_toInt (by omega)
theorem jand_of (a m : Int) (k : Nat) (p : Int) (hm : (Int32.ofInt m).toBitVec.toNat = 2 ^ k - 1) (hp : ((2 ^ k : Nat) : Int) = p) (h0 : 0 < p) (h31 : p ≤ 2147483648) (hd : 4294967296 % p = 0) : jand a m = a % p := by
  unfold jand
  rw [pk_and _ k hm, jnat32]
  have h1 : ((a % 4294967296).toNat % 2 ^ k : Nat) < 2147483648 := by
    have : (a % 4294967296).toNat % 2 ^ k < 2 ^ k := Nat.mod_lt _ (by omega)
    omega
  rw [jnI_int h1, Int.natCast_emod, hp]
  have h2 : 0 ≤ a % 4294967296 := Int.emod_nonneg _ (by decide)
  rw [Int.toNat_of_nonneg h2]
  exact Int.emod_emod_of_dvd a (Int.dvd_of_emod_eq_zero hd)
theorem jand_63 (a : Int) : jand a 63 = a % 64 := jand_of a 63 6 64 (by decide) (by decide) (by decide) (by decide) (by decide)
theorem jand_255 (a : Int) : jand a 255 = a % 256 := jand_of a 255 8 256 (by decide) (by decide) (by decide) (by decide) (by decide)
theorem jand_511 (a : Int) : jand a 511 = a % 512 := jand_of a 511 9 512 (by decide) (by decide) (by decide) (by decide) (by decide)
theorem jand_1023 (a : Int) : jand a 1023 = a % 1024 := jand_of a 1023 10 1024 (by decide) (by decide) (by decide) (by decide) (by decide)
theorem jand_65535 (a : Int) : jand a 65535 = a % 65536 := jand_of a 65535 16 65536 (by decide) (by decide) (by decide) (by decide) (by decide)
theorem jand_m1 {a : Int} (h : jR a) : jand a (-1) = a := by
  unfold jand
  have e : Int32.ofInt a &&& Int32.ofInt (-1) = Int32.ofInt a := by
    rw [show Int32.ofInt (-1) = (-1 : Int32) from rfl]
    exact Int32.and_neg_one
  rw [e, j32 h]
theorem jshr_of {a b : Int} (k : Nat) (p : Int) (hb : ((Int32.ofInt b &&& 31).toBitVec.smod 32).toNat = k) (hp : ((2 ^ k : Nat) : Int) = p) (h0 : 0 ≤ a) (h1 : jR a) : jshr a b = a / p := by
  unfold jshr
  obtain ⟨n, rfl⟩ := Int.eq_ofNat_of_zero_le h0
  unfold jR at h1
  rw [jnI, pk_shrN (by omega) _ k hb, jnI_int (by have := Nat.div_le_self n (2 ^ k); omega), Int.natCast_ediv, hp]
theorem jshr_10 {a : Int} (h0 : 0 ≤ a) (h1 : jR a) : jshr a 10 = a / 1024 := jshr_of 10 1024 (by decide) (by decide) h0 h1
theorem jshr_8 {a : Int} (h0 : 0 ≤ a) (h1 : jR a) : jshr a 8 = a / 256 := jshr_of 8 256 (by decide) (by decide) h0 h1
theorem jshr_0 {a : Int} (h0 : 0 ≤ a) (h1 : jR a) : jshr a 0 = a := by
  rw [jshr_of 0 1 (by decide) (by decide) h0 h1]; omega
theorem jshl_of {a b : Int} (k : Nat) (p : Int) (hb : ((Int32.ofInt b &&& 31).toBitVec.smod 32).toNat = k) (hp : ((2 ^ k : Nat) : Int) = p) (h0 : 0 ≤ a) (h1 : a * p < 2147483648) : jshl a b = a * p := by
  unfold jshl
  obtain ⟨n, rfl⟩ := Int.eq_ofNat_of_zero_le h0
  have e : ((n * 2 ^ k : Nat) : Int) = n * p := by rw [Int.natCast_mul, hp]
  rw [jnI, pk_shlN _ k hb (by omega), jnI_int (by omega), e]
theorem jshl_10 {a : Int} (h0 : 0 ≤ a) (h1 : a * 1024 < 2147483648) : jshl a 10 = a * 1024 := jshl_of 10 1024 (by decide) (by decide) h0 h1
