/-! ===== bytes of a long ===== -/
section ByteP
def byt (l : Int64) (k : Nat) : Nat := l.toBitVec.toNat / 2 ^ (8 * k) % 256
theorem byt_lt {l : Int64} {k : Nat} : byt l k < 256 := Nat.mod_lt _ (by omega)
theorem ss_255 (x : BitVec 64) (s : Nat) (hs : s ≤ 56) : x.sshiftRight s &&& 255#64 = (x >>> s) &&& 255#64 := by
  apply BitVec.eq_of_getLsbD_eq
  intro i hi
  rw [BitVec.getLsbD_and, BitVec.getLsbD_and, BitVec.getLsbD_sshiftRight, BitVec.getLsbD_ushiftRight]
  by_cases c : i < 8
  · rw [if_pos (by omega)]
    simp [show ¬ 64 ≤ i by omega]
  · have : (255#64).getLsbD i = false := by
      rw [BitVec.getLsbD_ofNat]
      rw [Nat.testBit_lt_two_pow (Nat.lt_of_lt_of_le (show 255 < 2 ^ 8 by decide) (Nat.pow_le_pow_right (by omega) (by omega)))]
      simp
    rw [this]
    simp
theorem byt_bv (l : Int64) (k : Nat) : (((l.toBitVec >>> (8 * k)) &&& 255#64).setWidth 32) = BitVec.ofNat 32 (byt l k) := by
  apply BitVec.eq_of_toNat_eq
  rw [BitVec.toNat_setWidth, BitVec.toNat_and, BitVec.toNat_ushiftRight, BitVec.toNat_ofNat, BitVec.toNat_ofNat, Nat.shiftRight_eq_div_pow, show (255 % 2 ^ 64 : Nat) = 2 ^ 8 - 1 by decide, Nat.and_two_pow_sub_one_eq_mod]
  rfl
theorem byt_bv2 (l : Int64) (k : Nat) : ((l.toBitVec >>> (8 * k)).setWidth 32 &&& 255#32) = BitVec.ofNat 32 (byt l k) := by
  apply BitVec.eq_of_toNat_eq
  rw [BitVec.toNat_and, BitVec.toNat_setWidth, BitVec.toNat_ushiftRight, BitVec.toNat_ofNat, BitVec.toNat_ofNat, Nat.shiftRight_eq_div_pow, show (255 % 2 ^ 32 : Nat) = 2 ^ 8 - 1 by decide, Nat.and_two_pow_sub_one_eq_mod]
  have := byt_lt (l := l) (k := k)
  rw [Nat.mod_eq_of_lt (a := byt l k) (by omega)]
  unfold byt
  omega
theorem by_s : ∀ k, k < 8 → (((8 * nI k).toInt64 &&& 63).toBitVec.smod 64).toNat = 8 * k := by decide +kernel
theorem by_u : ∀ k, k < 8 → ((((8 * nI k).toInt64.toUInt64 &&& Int64.toUInt64 63).toBitVec) % 64).toNat = 8 * k := by decide +kernel
theorem by_r (l : Int64) {k : Nat} (hk : k < 8) : ((l >>> ((8 * nI k).toInt64 &&& 63)) &&& 255).toInt32 = nI (byt l k) := by
  apply Int32.toBitVec_inj.mp
  show ((l.toBitVec.sshiftRight (((8 * nI k).toInt64 &&& 63).toBitVec.smod 64).toNat) &&& 255#64).signExtend 32 = _
  rw [BitVec.signExtend_eq_setWidth_of_le _ (by omega), by_s k hk, ss_255 _ _ (by omega), byt_bv]
  rfl
theorem by_c (l : Int64) {k : Nat} (hk : k < 8) : (((l.toUInt64 >>> ((8 * nI k).toInt64.toUInt64 &&& Int64.toUInt64 63)).toInt64).toInt32 &&& 255) = nI (byt l k) := by
  apply Int32.toBitVec_inj.mp
  show (l.toBitVec >>> ((((8 * nI k).toInt64.toUInt64 &&& Int64.toUInt64 63).toBitVec) % 64)).signExtend 32 &&& 255#32 = _
  rw [BitVec.signExtend_eq_setWidth_of_le _ (by omega), BitVec.ushiftRight_eq', by_u k hk, byt_bv2]
  rfl
end ByteP
