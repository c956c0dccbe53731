/-! a stack of truths as bits of one number -/
def bN (b : Bool) : Nat := bif b then 1 else 0
def enc : List Bool → Nat
  | [] => 0
  | b :: r => 2 * enc r + bN b
theorem bN_lt (b : Bool) : bN b < 2 := by cases b <;> decide
theorem enc_lt : ∀ l : List Bool, enc l < 2 ^ l.length
  | [] => by decide
  | b :: r => by
    have h1 := enc_lt r
    have h2 := bN_lt b
    show 2 * enc r + bN b < 2 ^ (r.length + 1)
    rw [Nat.pow_succ]
    omega
theorem enc_lt60 {l : List Bool} (h : l.length ≤ 61) : enc l < 2305843009213693952 := Nat.lt_of_lt_of_le (enc_lt l) (Nat.pow_le_pow_right (n := 2) (by decide) h)
theorem bI_N (b : Bool) : bI b = (bN b : Nat) := by cases b <;> rfl
theorem dbl_or (a : Nat) (b : Bool) : 2 * a ||| bN b = 2 * a + bN b := by
  cases b
  · simp [bN]
  · show 2 * a ||| 1 = 2 * a + 1
    apply Nat.eq_of_testBit_eq
    intro i
    rw [Nat.testBit_or]
    cases i with
    | zero => simp [Nat.testBit_zero]
    | succ i => simp [Nat.testBit_succ, show (2 * a + 1) / 2 = a by omega]
theorem enc_push {r : List Bool} {b : Bool} (h : r.length ≤ 60) : or64 (shl64 (enc r) 1) (bI b) = (enc (b :: r) : Nat) := by
  have h1 := enc_lt60 (l := r) (by omega)
  have h2 := bN_lt b
  rw [shl64_one (by omega), bI_N, or64_nat (by omega) (by omega), dbl_or]
  rfl
