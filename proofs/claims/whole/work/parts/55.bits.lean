/-! long numbers as rows of bits -/
theorem i64_bv {n : Nat} : (Int64.ofInt (n : Int)).toBitVec = BitVec.ofNat 64 n := by
  rw [Int64.toBitVec_ofInt]
  exact BitVec.ofInt_natCast 64 n
theorem bv_int {n : Nat} (h : n < 9223372036854775808) : (BitVec.ofNat 64 n).toInt = n := by
  rw [BitVec.toInt_eq_toNat_of_lt]
  · rw [BitVec.toNat_ofNat]
    rw [Nat.mod_eq_of_lt (by omega)]
  · rw [BitVec.toNat_ofNat, Nat.mod_eq_of_lt (by omega)]
    omega
theorem and64_nat {a b : Nat} (ha : a < 9223372036854775808) : and64 a b = ((a &&& b : Nat) : Int) := by
  unfold and64
  show ((Int64.ofInt (a : Int) &&& Int64.ofInt (b : Int)).toBitVec).toInt = _
  rw [Int64.toBitVec_and, i64_bv, i64_bv, ← BitVec.ofNat_and]
  exact bv_int (Nat.lt_of_le_of_lt Nat.and_le_left ha)
theorem or64_nat {a b : Nat} (ha : a < 9223372036854775808) (hb : b < 9223372036854775808) : or64 a b = ((a ||| b : Nat) : Int) := by
  unfold or64
  show ((Int64.ofInt (a : Int) ||| Int64.ofInt (b : Int)).toBitVec).toInt = _
  rw [Int64.toBitVec_or, i64_bv, i64_bv, ← BitVec.ofNat_or]
  exact bv_int (Nat.or_lt_two_pow (n := 63) ha hb)
theorem xor64_nat {a b : Nat} (ha : a < 9223372036854775808) (hb : b < 9223372036854775808) : xor64 a b = ((a ^^^ b : Nat) : Int) := by
  unfold xor64
  show ((Int64.ofInt (a : Int) ^^^ Int64.ofInt (b : Int)).toBitVec).toInt = _
  rw [Int64.toBitVec_xor, i64_bv, i64_bv, ← BitVec.ofNat_xor]
  exact bv_int (Nat.xor_lt_two_pow (n := 63) ha hb)
theorem shl64_one {a : Nat} (ha : a < 4611686018427387904) : shl64 a 1 = ((2 * a : Nat) : Int) := by
  unfold shl64
  have e : ((Int32.ofInt 1).toInt64 &&& 63) = Int64.ofInt 1 := by decide
  rw [e]
  show ((Int64.ofInt (a : Int) <<< Int64.ofInt 1).toBitVec).toInt = _
  rw [Int64.toBitVec_shiftLeft, i64_bv]
  have e2 : ((Int64.ofInt 1).toBitVec.smod 64) = 1#64 := by decide
  rw [e2]
  have e3 : BitVec.ofNat 64 a <<< 1#64 = BitVec.ofNat 64 (2 * a) := by
    apply BitVec.eq_of_toNat_eq
    rw [BitVec.shiftLeft_eq', BitVec.toNat_shiftLeft, BitVec.toNat_ofNat, BitVec.toNat_ofNat]
    rw [Nat.mod_eq_of_lt (show a < 2 ^ 64 by omega)]
    show a <<< 1 % _ = _
    rw [Nat.shiftLeft_eq, Nat.mul_comm, BitVec.toNat_ofNat]
  rw [e3]
  exact bv_int (by omega)
theorem shr64_one {a : Nat} (ha : a < 9223372036854775808) : shr64 a 1 = ((a / 2 : Nat) : Int) := by
  unfold shr64
  have e : ((Int32.ofInt 1).toInt64 &&& 63) = Int64.ofInt 1 := by decide
  rw [e]
  show ((Int64.ofInt (a : Int) >>> Int64.ofInt 1).toBitVec).toInt = _
  rw [Int64.toBitVec_shiftRight, i64_bv]
  have e2 : ((Int64.ofInt 1).toBitVec.smod 64) = 1#64 := by decide
  rw [e2]
  have hm : (BitVec.ofNat 64 a).msb = false := by
    rw [BitVec.msb_eq_false_iff_two_mul_lt, BitVec.toNat_ofNat, Nat.mod_eq_of_lt (show a < 2 ^ 64 by omega)]
    omega
  have e3 : (BitVec.ofNat 64 a).sshiftRight' 1#64 = BitVec.ofNat 64 (a / 2) := by
    apply BitVec.eq_of_toNat_eq
    rw [BitVec.sshiftRight_eq', BitVec.sshiftRight_eq_of_msb_false hm, BitVec.toNat_ushiftRight, BitVec.toNat_ofNat, BitVec.toNat_ofNat]
    rw [Nat.mod_eq_of_lt (show a < 2 ^ 64 by omega), BitVec.toNat_ofNat, Nat.mod_eq_of_lt (show a / 2 < 2 ^ 64 by omega)]
    show a >>> 1 = _
    rw [Nat.shiftRight_eq_div_pow]
  rw [e3]
  exact bv_int (by omega)
