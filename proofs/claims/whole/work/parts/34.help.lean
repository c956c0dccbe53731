/-! small methods -/
section HELP
variable {d : Nat} {I L : Fn}
theorem isB1 {a : Int} (h : 0 ≤ a ∧ a < 8) : CallD (d + 1) 13 [vi a] (S I L) = some (some (vi 1), S I L) := by
  exact (e13_3 (by omega) (by omega))
theorem isB0 {a : Int} (h : ¬ (0 ≤ a ∧ a < 8)) : CallD (d + 1) 13 [vi a] (S I L) = some (some (vi 0), S I L) := by
  by_cases q : a < 0
  · exact (e13_1 (by omega))
  · exact (e13_2 (by omega) (by omega))
theorem isK1 {a : Int} (h : 0 ≤ a ∧ a < 7) : CallD (d + 1) 18 [vi a] (S I L) = some (some (vi 1), S I L) := by
  exact (e18_3 (by omega) (by omega))
theorem isK0 {a : Int} (h : ¬ (0 ≤ a ∧ a < 7)) : CallD (d + 1) 18 [vi a] (S I L) = some (some (vi 0), S I L) := by
  by_cases q : a < 0
  · exact (e18_1 (by omega))
  · exact (e18_2 (by omega) (by omega))
theorem isM1 {a : Int} (h : 0 ≤ a ∧ a ≤ 999) : CallD (d + 1) 19 [vi a] (S I L) = some (some (vi 1), S I L) := by
  exact (e19_3 (by omega) (by omega))
theorem isM0 {a : Int} (h : ¬ (0 ≤ a ∧ a ≤ 999)) : CallD (d + 1) 19 [vi a] (S I L) = some (some (vi 0), S I L) := by
  by_cases q : a < 0
  · exact (e19_1 (by omega))
  · exact (e19_2 (by omega) (by omega))
theorem isP1 {a : Int} (h : a = 0 ∨ a = 1) : CallD (d + 1) 67 [vi a] (S I L) = some (some (vi 1), S I L) := by
  by_cases q : a = 0
  · exact (e67_1 (by omega))
  · exact (e67_3 (by omega) (by omega))
theorem isP0 {a : Int} (h : ¬ (a = 0 ∨ a = 1)) : CallD (d + 1) 67 [vi a] (S I L) = some (some (vi 0), S I L) := by
  exact (e67_2 (by omega) (by omega))
theorem isO1 {a : Int} (h : 0 ≤ a ∧ a < I 10 6) : CallD (d + 1) 83 [vr 9, vi a] (S I L) = some (some (vi 1), S I L) := by
  exact (e83_3 (by omega) rfl (by omega))
theorem isO0 {a : Int} (h : ¬ (0 ≤ a ∧ a < I 10 6)) : CallD (d + 1) 83 [vr 9, vi a] (S I L) = some (some (vi 0), S I L) := by
  by_cases q : a < 0
  · exact (e83_1 (by omega))
  · exact (e83_2 (by omega) rfl (by omega))
theorem isT1 {a : Int} (h : 0 ≤ a ∧ a < 6) : CallD (d + 1) 114 [vr 88, vi a] (S I L) = some (some (vi 1), S I L) := by
  exact (e114_3 (by omega) (by omega))
theorem isT0 {a : Int} (h : ¬ (0 ≤ a ∧ a < 6)) : CallD (d + 1) 114 [vr 88, vi a] (S I L) = some (some (vi 0), S I L) := by
  by_cases q : a < 0
  · exact (e114_1 (by omega))
  · exact (e114_2 (by omega) (by omega))
theorem mI1 {a b c : Int} (h : b ≤ a ∧ a ≤ c) : CallD (d + 1) 143 [vr 92, vi a, vi b, vi c] (S I L) = some (some (vi 1), S I L) := by
  exact (e143_3 (by omega) (by omega))
theorem mI0 {a b c : Int} (h : ¬ (b ≤ a ∧ a ≤ c)) : CallD (d + 1) 143 [vr 92, vi a, vi b, vi c] (S I L) = some (some (vi 0), S I L) := by
  by_cases q : a < b
  · exact (e143_1 (by omega))
  · exact (e143_2 (by omega) (by omega))
theorem mB1 {a : Int} (h : 0 ≤ a ∧ a < 8) : CallD (d + 2) 142 [vr 92, vi a] (S I L) = some (some (vi 1), S I L) := by
  exact (e142_1 (mI1 (by omega)) (by decide))
theorem mB0 {a : Int} (h : ¬ (0 ≤ a ∧ a < 8)) : CallD (d + 2) 142 [vr 92, vi a] (S I L) = some (some (vi 0), S I L) := by
  exact (e142_1 (mI0 (by omega)) (by decide))
theorem mM1 {a : Int} (h : 0 ≤ a ∧ a ≤ 999) : CallD (d + 2) 147 [vr 92, vi a] (S I L) = some (some (vi 1), S I L) := by
  exact (e147_1 (mI1 (by omega)) (by decide))
theorem mM0 {a : Int} (h : ¬ (0 ≤ a ∧ a ≤ 999)) : CallD (d + 2) 147 [vr 92, vi a] (S I L) = some (some (vi 0), S I L) := by
  exact (e147_1 (mI0 (by omega)) (by decide))
theorem mT1 {a : Int} (h : 0 ≤ a ∧ a < 6) : CallD (d + 2) 214 [vr 92, vi a] (S I L) = some (some (vi 1), S I L) := by
  exact (e214_1 (mI1 (by omega)) (by decide))
theorem mT0 {a : Int} (h : ¬ (0 ≤ a ∧ a < 6)) : CallD (d + 2) 214 [vr 92, vi a] (S I L) = some (some (vi 0), S I L) := by
  exact (e214_1 (mI0 (by omega)) (by decide))
theorem mC1 {a n : Int} (hn : I 92 2 = n) (hr : rng 0 6 n) (h : 0 ≤ a ∧ a < n) : CallD (d + 2) 149 [vr 92, vi a] (S I L) = some (some (vi 1), S I L) := by
  unfold rng at hr
  exact (e149_1 hn (w32_id (by omega) (by omega)) (mI1 (by omega)) (by decide))
theorem mC0 {a n : Int} (hn : I 92 2 = n) (hr : rng 0 6 n) (h : ¬ (0 ≤ a ∧ a < n)) : CallD (d + 2) 149 [vr 92, vi a] (S I L) = some (some (vi 0), S I L) := by
  unfold rng at hr
  exact (e149_1 hn (w32_id (by omega) (by omega)) (mI0 (by omega)) (by decide))
theorem R0bag {c : Nat} (h : c < 6) : R0 13 c = some (17 + c) := by
  match c, h with
  | 0, _ => rfl
  | 1, _ => rfl
  | 2, _ => rfl
  | 3, _ => rfl
  | 4, _ => rfl
  | 5, _ => rfl
  | n + 6, h => omega
theorem K0bag {c : Nat} (h : c < 6) : nth K0 (17 + c) = some (2, 9) := by
  match c, h with
  | 0, _ => rfl
  | 1, _ => rfl
  | 2, _ => rfl
  | 3, _ => rfl
  | 4, _ => rfl
  | 5, _ => rfl
  | n + 6, h => omega
/-- the case of a number: its cell -/
theorem bagAt1 {a : Int} (h : 0 ≤ a ∧ a < I 10 3) (hr : rng 0 6 (I 10 3)) : CallD (d + 1) 22 [vr 9, vi a] (S I L) = some (some (vr (17 + a.toNat)), S I L) := by
  unfold rng at hr
  exact (e22_4 (by omega) rfl (by omega) (by omega) (by omega) (R0bag (by omega)))
theorem bagAt0 {a : Int} (h : ¬ (0 ≤ a ∧ a < I 10 3)) (hr : rng 0 6 (I 10 3)) : CallD (d + 1) 22 [vr 9, vi a] (S I L) = some (some vn, S I L) := by
  unfold rng at hr
  by_cases q : a < 0
  · exact (e22_1 (by omega))
  · exact (e22_2 (by omega) rfl (by omega))
theorem there1 {k : Nat} (hk : nth K0 k = some (2, 9)) (h : I k 3 = I k 4) : CallD (d + 1) 30 [vr k] (S I L) = some (some (vi 1), S I L) := by
  exact (e30_2 (by assumption) rfl rfl (by omega))
theorem there0 {k : Nat} (hk : nth K0 k = some (2, 9)) (h : ¬ I k 3 = I k 4) : CallD (d + 1) 30 [vr k] (S I L) = some (some (vi 0), S I L) := by
  exact (e30_1 (by assumption) rfl rfl (by omega))
end HELP
theorem up_pair {f g : Fn} {k k' j : Nat} {v : Int} {x : Nat} (h : f k x = g k' x) : up f k j v k x = up g k' j v k' x := by
  have e1 := up_eq f k j v k x
  have e2 := up_eq g k' j v k' x
  rw [e1, e2]
  by_cases z : x = j
  · rw [if_pos ⟨rfl, z⟩, if_pos ⟨rfl, z⟩]
  · rw [if_neg (fun w => z w.2), if_neg (fun w => z w.2)]; exact h
/-- the same call on both: an int -/
def SameI (c m : Nat) (as : List AV) (I L : Fn) : Prop := ∃ (v : Int) (I1 L1 I2 L2 : Fn), CallD 60 c (vr 9 :: as) (S I L) = some (some (vi v), S I1 L1) ∧ (CallD 60 m (vr 92 :: as) (S I1 L1) = some (some (vi v), S I2 L2) ∧ Rel I2 L2)
def SameL (c m : Nat) (as : List AV) (I L : Fn) : Prop := ∃ (v : Int) (I1 L1 I2 L2 : Fn), CallD 60 c (vr 9 :: as) (S I L) = some (some (vl v), S I1 L1) ∧ (CallD 60 m (vr 92 :: as) (S I1 L1) = some (some (vl v), S I2 L2) ∧ Rel I2 L2)
