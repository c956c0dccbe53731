/-! long numbers as rows of bits -/
theorem i64_bv {n : Nat} : (Int64.ofInt (n : Int)).toBitVec = BitVec.ofNat 64 n := by
  rw [Int64.toBitVec_ofInt]
  exact BitVec.ofInt_natCast 64 n
theorem bv_int {n : Nat} (h : n < 9223372036854775808) : (BitVec.ofNat 64 n).toInt = n := by
  rw [BitVec.toInt_eq_toNat_of_lt]
  · rw [BitVec.toNat_ofNat]
    rw [Nat.mod_eq_of_lt (by omega)]
  · rw [BitVec.toNat_ofNat, Nat.mod_eq_of_lt (by omega)]
    omega
theorem and64_nat {a b : Nat} (ha : a < 9223372036854775808) : and64 a b = ((a &&& b : Nat) : Int) := by
  unfold and64
  show ((Int64.ofInt (a : Int) &&& Int64.ofInt (b : Int)).toBitVec).toInt = _
  rw [Int64.toBitVec_and, i64_bv, i64_bv, ← BitVec.ofNat_and]
  exact bv_int (Nat.lt_of_le_of_lt Nat.and_le_left ha)
theorem or64_nat {a b : Nat} (ha : a < 9223372036854775808) (hb : b < 9223372036854775808) : or64 a b = ((a ||| b : Nat) : Int) := by
  unfold or64
  show ((Int64.ofInt (a : Int) ||| Int64.ofInt (b : Int)).toBitVec).toInt = _
  rw [Int64.toBitVec_or, i64_bv, i64_bv, ← BitVec.ofNat_or]
  exact bv_int (Nat.or_lt_two_pow (n := 63) ha hb)
theorem xor64_nat {a b : Nat} (ha : a < 9223372036854775808) (hb : b < 9223372036854775808) : xor64 a b = ((a ^^^ b : Nat) : Int) := by
  unfold xor64
  show ((Int64.ofInt (a : Int) ^^^ Int64.ofInt (b : Int)).toBitVec).toInt = _
  rw [Int64.toBitVec_xor, i64_bv, i64_bv, ← BitVec.ofNat_xor]
  exact bv_int (Nat.xor_lt_two_pow (n := 63) ha hb)
theorem shl64_one {a : Nat} (ha : a < 4611686018427387904) : shl64 a 1 = ((2 * a : Nat) : Int) := by
  unfold shl64
  have e : ((Int32.ofInt 1).toInt64 &&& 63) = Int64.ofInt 1 := by decide
  rw [e]
  show ((Int64.ofInt (a : Int) <<< Int64.ofInt 1).toBitVec).toInt = _
  rw [Int64.toBitVec_shiftLeft, i64_bv]
  have e2 : ((Int64.ofInt 1).toBitVec.smod 64) = 1#64 := by decide
  rw [e2]
  have e3 : BitVec.ofNat 64 a <<< 1#64 = BitVec.ofNat 64 (2 * a) := by
    apply BitVec.eq_of_toNat_eq
    rw [BitVec.shiftLeft_eq', BitVec.toNat_shiftLeft, BitVec.toNat_ofNat, BitVec.toNat_ofNat]
    rw [Nat.mod_eq_of_lt (show a < 2 ^ 64 by omega)]
    show a <<< 1 % _ = _
    rw [Nat.shiftLeft_eq, Nat.mul_comm, BitVec.toNat_ofNat]
  rw [e3]
  exact bv_int (by omega)
theorem shr64_one {a : Nat} (ha : a < 9223372036854775808) : shr64 a 1 = ((a / 2 : Nat) : Int) := by
  unfold shr64
  have e : ((Int32.ofInt 1).toInt64 &&& 63) = Int64.ofInt 1 := by decide
  rw [e]
  show ((Int64.ofInt (a : Int) >>> Int64.ofInt 1).toBitVec).toInt = _
  rw [Int64.toBitVec_shiftRight, i64_bv]
  have e2 : ((Int64.ofInt 1).toBitVec.smod 64) = 1#64 := by decide
  rw [e2]
  have hm : (BitVec.ofNat 64 a).msb = false := by
    rw [BitVec.msb_eq_false_iff_two_mul_lt, BitVec.toNat_ofNat, Nat.mod_eq_of_lt (show a < 2 ^ 64 by omega)]
    omega
  have e3 : (BitVec.ofNat 64 a).sshiftRight' 1#64 = BitVec.ofNat 64 (a / 2) := by
    apply BitVec.eq_of_toNat_eq
    rw [BitVec.sshiftRight_eq', BitVec.sshiftRight_eq_of_msb_false hm, BitVec.toNat_ushiftRight, BitVec.toNat_ofNat, BitVec.toNat_ofNat]
    rw [Nat.mod_eq_of_lt (show a < 2 ^ 64 by omega), BitVec.toNat_ofNat, Nat.mod_eq_of_lt (show a / 2 < 2 ^ 64 by omega)]
    show a >>> 1 = _
    rw [Nat.shiftRight_eq_div_pow]
  rw [e3]
  exact bv_int (by omega)
theorem or64_m2 : or64 0 (-2) = -2 ∧ or64 1 (-2) = -1 := by decide
theorem and64_comm (a b : Int) : and64 a b = and64 b a := by
  unfold and64
  show ((Int64.ofInt a &&& Int64.ofInt b).toBitVec).toInt = ((Int64.ofInt b &&& Int64.ofInt a).toBitVec).toInt
  rw [Int64.toBitVec_and, Int64.toBitVec_and, BitVec.and_comm]
theorem and64_m1 {a : Nat} (ha : a < 9223372036854775808) : and64 a (-1) = a := by
  unfold and64
  show ((Int64.ofInt (a : Int) &&& Int64.ofInt (-1)).toBitVec).toInt = _
  rw [Int64.toBitVec_and, i64_bv]
  have e : (Int64.ofInt (-1)).toBitVec = BitVec.allOnes 64 := by decide
  rw [e, BitVec.and_allOnes]
  exact bv_int ha
theorem and64_m2 {a : Nat} (ha : a < 9223372036854775808) : and64 a (-2) = ((2 * (a / 2) : Nat) : Int) := by
  unfold and64
  show ((Int64.ofInt (a : Int) &&& Int64.ofInt (-2)).toBitVec).toInt = _
  rw [Int64.toBitVec_and, i64_bv]
  have e : (Int64.ofInt (-2)).toBitVec = BitVec.ofNat 64 18446744073709551614 := by decide
  rw [e, ← BitVec.ofNat_and]
  have e2 : a &&& 18446744073709551614 = 2 * (a / 2) := by
    apply Nat.eq_of_testBit_eq
    intro i
    rw [Nat.testBit_and]
    cases i with
    | zero => simp [Nat.testBit_zero]
    | succ i =>
      rw [Nat.testBit_succ, Nat.testBit_succ (x := 2 * (a / 2)), Nat.testBit_succ, show 2 * (a / 2) / 2 = a / 2 by omega, show (18446744073709551614 : Nat) / 2 = 2 ^ 63 - 1 by decide, Nat.testBit_two_pow_sub_one]
      by_cases g : i < 63
      · simp [g]
      · rw [Nat.testBit_lt_two_pow (x := a / 2)]
        · simp
        · have : 2 ^ 63 ≤ 2 ^ i := Nat.pow_le_pow_right (by decide) (by omega)
          omega
  rw [e2]
  exact bv_int (by omega)
