/-! PURE: bytes -/
theorem m255 (i : Nat) : (255#64).getLsbD i = decide (i < 8) := by
  rw [BitVec.getLsbD_ofNat, show 255 = 2 ^ 8 - 1 from rfl, Nat.testBit_two_pow_sub_one]
  by_cases h : i < 8
  · simp [h]
    omega
  · simp [h]
theorem byte_and (x : BitVec 64) (s : Nat) (hs : s ≤ 56) : x.sshiftRight s &&& 255#64 = x >>> s &&& 255#64 := by
  apply BitVec.eq_of_getLsbD_eq
  intro i hi
  rw [BitVec.getLsbD_and, BitVec.getLsbD_and, m255]
  by_cases h : i < 8
  · have h2 : s + i < 64 := by omega
    have h3 : ¬ 64 ≤ i := by omega
    simp [BitVec.getLsbD_sshiftRight, h, h2, h3]
  · simp [h]
/-- the byte of a long at a shift -/
def by9 (x : Int64) (s : Nat) : Int32 := ((x.toUInt64 >>> (UInt64.ofNat s)).toInt64 &&& (255 : Int64)).toInt32
theorem by9_M (x : Int64) : ∀ k, k < 8 → ((x.toUInt64 >>> (((56 : Int32) - ((8 : Int32) * (ii k &&& (7 : Int32)))).toInt64.toUInt64 &&& Int64.toUInt64 63)).toInt64 &&& (255 : Int64)).toInt32 = by9 x (56 - 8 * k) := by
  intro k hk
  have e : ∀ k, k < 8 → (((56 : Int32) - ((8 : Int32) * (ii k &&& (7 : Int32)))).toInt64.toUInt64 &&& Int64.toUInt64 63) = UInt64.ofNat (56 - 8 * k) := by decide +kernel
  rw [e k hk]
  rfl
theorem by9_X (x : Int64) : ∀ k, k < 8 → ((x >>> ((ii (56 - 8 * k)).toInt64 &&& 63)) &&& (255 : Int64)).toInt32 = by9 x (56 - 8 * k) := by
  intro k hk
  have e : ∀ k, k < 8 → ((ii (56 - 8 * k)).toInt64 &&& 63) = Int64.ofNat (56 - 8 * k) := by decide +kernel
  rw [e k hk]
  unfold by9
  congr 1
  apply Int64.toBitVec_inj.mp
  have e2 : ∀ k, k < 8 → (Int64.ofNat (56 - 8 * k)).toBitVec.smod 64 = BitVec.ofNat 64 (56 - 8 * k) := by decide +kernel
  have e3 : ∀ k, k < 8 → ((UInt64.ofNat (56 - 8 * k)).toBitVec % 64) = BitVec.ofNat 64 (56 - 8 * k) := by decide +kernel
  have e4 : (BitVec.ofNat 64 (56 - 8 * k)).toNat = 56 - 8 * k := by rw [BitVec.toNat_ofNat]; omega
  show (x.toBitVec.sshiftRight' ((Int64.ofNat (56 - 8 * k)).toBitVec.smod 64)) &&& 255#64 = (x.toBitVec >>> ((UInt64.ofNat (56 - 8 * k)).toBitVec % 64)) &&& 255#64
  rw [e2 k hk, e3 k hk]
  show (x.toBitVec.sshiftRight (BitVec.ofNat 64 (56 - 8 * k)).toNat) &&& 255#64 = (x.toBitVec >>> (BitVec.ofNat 64 (56 - 8 * k)).toNat) &&& 255#64
  rw [e4]
  exact byte_and _ _ (by omega)
def byN (x : Int64) (s : Nat) : Nat := ((x.toUInt64 >>> (UInt64.ofNat s)).toInt64 &&& (255 : Int64)).toBitVec.toNat
theorem byN_lt (x : Int64) (s : Nat) : byN x s < 256 := by
  unfold byN
  have e : ((x.toUInt64 >>> (UInt64.ofNat s)).toInt64 &&& (255 : Int64)).toBitVec = (x.toUInt64 >>> (UInt64.ofNat s)).toInt64.toBitVec &&& 255#64 := rfl
  rw [e, BitVec.toNat_and]
  have h := Nat.and_le_right (n := (x.toUInt64 >>> (UInt64.ofNat s)).toInt64.toBitVec.toNat) (m := (255#64).toNat)
  have h2 : (255#64).toNat = 255 := rfl
  omega
theorem by9_ii (x : Int64) (s : Nat) : by9 x s = ii (byN x s) := by
  unfold by9 byN ii
  apply Int32.toBitVec_inj.mp
  show ((x.toUInt64 >>> (UInt64.ofNat s)).toInt64 &&& (255 : Int64)).toBitVec.signExtend 32 = BitVec.ofNat 32 _
  rw [BitVec.signExtend_eq_setWidth_of_le _ (by decide)]
  apply BitVec.eq_of_toNat_eq
  rw [BitVec.toNat_setWidth, BitVec.toNat_ofNat]
