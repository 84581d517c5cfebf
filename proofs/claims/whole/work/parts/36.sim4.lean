/-! write -/
/-- the k-th byte of the written word -/
def wb (x : Int64) (k : Nat) : Nat := x.toBitVec.toNat / 2 ^ (8 * k) % 256
theorem wb_c0 (x : Int64) : ∀ k, k < 8 → ((x.toUInt64 >>> (((8 : Int32) * nI k).toInt64.toUInt64 &&& Int64.toUInt64 63)).toInt64).toInt32 &&& (255 : Int32) = nI (wb x k) := by
  intro k hk
  have hs : (((8 : Int32) * nI k).toInt64.toUInt64 &&& Int64.toUInt64 63).toNat % 64 = 8 * k := (by decide +kernel : ∀ k, k < 8 → (((8 : Int32) * nI k).toInt64.toUInt64 &&& Int64.toUInt64 63).toNat % 64 = 8 * k) k hk
  generalize hz : (((8 : Int32) * nI k).toInt64.toUInt64 &&& Int64.toUInt64 63) = z at hs
  rw [pk_and _ (m := 255) 8 (by decide)]
  congr 1
  have e1 : (x.toUInt64 >>> z).toInt64.toInt32.toBitVec.toNat = (x.toUInt64 >>> z).toNat % 2 ^ 32 := by
    rw [Int64.toBitVec_toInt32, BitVec.signExtend_eq_setWidth_of_le _ (by omega), BitVec.toNat_setWidth]
    rfl
  rw [e1, UInt64.toNat_shiftRight, hs, Nat.shiftRight_eq_div_pow]
  show x.toBitVec.toNat / 2 ^ (8 * k) % 2 ^ 32 % 2 ^ 8 = _
  unfold wb
  omega
theorem wb_m0 (x : Int64) : ∀ k, k < 8 → ((x >>> (((8 : Int32) * nI k).toInt64 &&& 63)) &&& ((255 : Int64))).toInt32 = nI (wb x k) := by
  intro k hk
  have hs : (((8 : Int32) * nI k).toInt64 &&& 63).toBitVec.smod 64 = BitVec.ofNat 64 (8 * k) := (by decide +kernel : ∀ k, k < 8 → (((8 : Int32) * nI k).toInt64 &&& 63).toBitVec.smod 64 = BitVec.ofNat 64 (8 * k)) k hk
  apply Int32.toBitVec_inj.mp
  apply BitVec.eq_of_getLsbD_eq
  intro i hi
  rw [Int64.toBitVec_toInt32, BitVec.signExtend_eq_setWidth_of_le _ (by omega)]
  show _ = (BitVec.ofNat 32 (wb x k)).getLsbD i
  rw [BitVec.getLsbD_setWidth, Int64.toBitVec_and, BitVec.getLsbD_and, Int64.toBitVec_shiftRight]
  show (decide (i < 32) && ((x.toBitVec.sshiftRight ((((8 : Int32) * nI k).toInt64 &&& 63).toBitVec.smod 64).toNat).getLsbD i && _)) = _
  rw [hs, BitVec.getLsbD_sshiftRight, BitVec.getLsbD_ofNat]
  have hk64 : (BitVec.ofNat 64 (8 * k)).toNat = 8 * k := by
    rw [BitVec.toNat_ofNat]
    omega
  rw [hk64]
  have h255 : (255 : Int64).toBitVec.getLsbD i = decide (i < 8) := (by decide +kernel : ∀ i, i < 32 → (255 : Int64).toBitVec.getLsbD i = decide (i < 8)) i hi
  rw [h255]
  unfold wb
  by_cases h8 : i < 8
  · have e2 : 8 * k + i < 64 := by omega
    simp only [hi, h8, decide_true, Bool.true_and, Bool.and_true, e2, if_true]
    rw [BitVec.getLsbD, Nat.testBit_mod_two_pow (x := x.toBitVec.toNat / 2 ^ (8 * k)) (j := 8), Nat.testBit_div_two_pow]
    simp [h8, show ¬ 64 ≤ i by omega]
    rw [Nat.add_comm]
  · rw [show (256 : Nat) = 2 ^ 8 from rfl, Nat.testBit_mod_two_pow]
    simp [h8]
