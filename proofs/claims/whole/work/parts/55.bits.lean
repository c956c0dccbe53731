/-! long numbers as rows of bits -/
theorem i64_bv {n : Nat} : (Int64.ofInt (n : Int)).toBitVec = BitVec.ofNat 64 n := by
  rw [Int64.toBitVec_ofInt]
  exact BitVec.ofInt_natCast 64 n
theorem bv_int {n : Nat} (h : n < 9223372036854775808) : (BitVec.ofNat 64 n).toInt = n := by
  rw [BitVec.toInt_eq_toNat_of_lt]
  · rw [BitVec.toNat_ofNat]
    rw [Nat.mod_eq_of_lt (by omega)]
  · rw [BitVec.toNat_ofNat, Nat.mod_eq_of_lt (by omega)]
    omega
theorem and64_nat {a b : Nat} (ha : a < 9223372036854775808) : and64 a b = ((a &&& b : Nat) : Int) := by
  unfold and64
  show ((Int64.ofInt (a : Int) &&& Int64.ofInt (b : Int)).toBitVec).toInt = _
  rw [Int64.toBitVec_and, i64_bv, i64_bv, ← BitVec.ofNat_and]
  exact bv_int (Nat.lt_of_le_of_lt Nat.and_le_left ha)
