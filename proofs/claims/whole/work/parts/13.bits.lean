/-- byte k of a long -/
def bt (x : Int64) (k : Nat) : Nat := x.toBitVec.toNat / 2 ^ (8 * k) % 256
theorem bt_lt (x : Int64) (k : Nat) : bt x k < 256 := Nat.mod_lt _ (by decide)
theorem bt_s1 : ∀ k, k < 8 → ((8 : Int32) * nI k).toInt64.toUInt64 &&& Int64.toUInt64 63 = UInt64.ofNat (8 * k) := by decide +kernel
theorem bt_s2 : ∀ k, k < 8 → ((8 : Int32) * nI k).toInt64 &&& 63 = Int64.ofNat (8 * k) := by decide +kernel
theorem bt_u (x : Int64) {k : Nat} (hk : k < 8) : (x.toUInt64 >>> (((8 : Int32) * nI k).toInt64.toUInt64 &&& Int64.toUInt64 63)).toInt64.toInt32 &&& 255 = nI (bt x k) := by
  rw [bt_s1 k hk, pk_and _ 8 (by decide)]
  congr 1
  have e : (x.toUInt64 >>> UInt64.ofNat (8 * k)).toInt64.toInt32.toBitVec.toNat = x.toBitVec.toNat / 2 ^ (8 * k) % 2 ^ 32 := by
    have h8 : 8 * k < 64 := by omega
    have e1 : (x.toUInt64 >>> UInt64.ofNat (8 * k)).toBitVec = x.toBitVec >>> (8 * k) := by
      rw [UInt64.toBitVec_shiftRight]
      apply BitVec.eq_of_toNat_eq
      simp [BitVec.toNat_ushiftRight, Nat.mod_eq_of_lt (show 8 * k < 18446744073709551616 by omega), Nat.mod_eq_of_lt h8]
    show ((x.toUInt64 >>> UInt64.ofNat (8 * k)).toBitVec.signExtend 32).toNat = _
    rw [e1, BitVec.signExtend_eq_setWidth_of_le _ (by decide)]
    simp [BitVec.toNat_ushiftRight, Nat.shiftRight_eq_div_pow]
  rw [e]
  unfold bt
  omega
theorem bt_m (x : Int64) {k : Nat} (hk : k < 8) : (x >>> (((8 : Int32) * nI k).toInt64 &&& 63)) &&& 255 = lN (bt x k) := by
  rw [bt_s2 k hk]
  have h8 : 8 * k < 64 := by omega
  apply Int64.toBitVec_inj.mp
  rw [Int64.toBitVec_and, Int64.toBitVec_shiftRight]
  apply BitVec.eq_of_getLsbD_eq
  intro i hi
  have e2 : ((Int64.ofNat (8 * k)).toBitVec.smod 64).toNat = 8 * k := by
    have : ∀ k, k < 8 → ((Int64.ofNat (8 * k)).toBitVec.smod 64).toNat = 8 * k := by decide +kernel
    exact this k hk
  have e3 : (lN (bt x k)).toBitVec = BitVec.ofNat 64 (bt x k) := rfl
  have e4 : ∀ i, i < 64 → (255 : Int64).toBitVec.getLsbD i = decide (i < 8) := by decide +kernel
  rw [e3, BitVec.getLsbD_and, e4 i hi, BitVec.sshiftRight_eq', e2, BitVec.getLsbD_sshiftRight, BitVec.getLsbD_ofNat]
  unfold bt
  rw [show (256 : Nat) = 2 ^ 8 from rfl, Nat.testBit_mod_two_pow, Nat.testBit_div_two_pow, ← BitVec.testBit_toNat]
  by_cases h : i < 8
  · have h2 : i + 8 * k < 64 := by omega
    have h3 : ¬ 64 ≤ i := by omega
    simp [h, hi, h2, h3, Nat.add_comm]
  · simp [h]
