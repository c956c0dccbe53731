/-! a stack of truths as bits of one number -/
def bN (b : Bool) : Nat := bif b then 1 else 0
def enc : List Bool → Nat
  | [] => 0
  | b :: r => 2 * enc r + bN b
theorem bN_lt (b : Bool) : bN b < 2 := by cases b <;> decide
theorem enc_lt : ∀ l : List Bool, enc l < 2 ^ l.length
  | [] => by decide
  | b :: r => by
    have h1 := enc_lt r
    have h2 := bN_lt b
    show 2 * enc r + bN b < 2 ^ (r.length + 1)
    rw [Nat.pow_succ]
    omega
theorem enc_lt60 {l : List Bool} (h : l.length ≤ 61) : enc l < 2305843009213693952 := Nat.lt_of_lt_of_le (enc_lt l) (Nat.pow_le_pow_right (n := 2) (by decide) h)
theorem bI_N (b : Bool) : bI b = (bN b : Nat) := by cases b <;> rfl
theorem dbl_or (a : Nat) (b : Bool) : 2 * a ||| bN b = 2 * a + bN b := by
  cases b
  · simp [bN]
  · show 2 * a ||| 1 = 2 * a + 1
    apply Nat.eq_of_testBit_eq
    intro i
    rw [Nat.testBit_or]
    cases i with
    | zero => simp [Nat.testBit_zero]
    | succ i => simp [Nat.testBit_succ, show (2 * a + 1) / 2 = a by omega]
theorem enc_push {r : List Bool} {b : Bool} (h : r.length ≤ 60) : or64 (shl64 (enc r) 1) (bI b) = (enc (b :: r) : Nat) := by
  have h1 := enc_lt60 (l := r) (by omega)
  have h2 := bN_lt b
  rw [shl64_one (by omega), bI_N, or64_nat (by omega) (by omega), dbl_or]
  rfl
theorem enc_top {r : List Bool} {b : Bool} (h : r.length ≤ 60) : and64 (enc (b :: r)) 1 = bI b := by
  have h1 := enc_lt60 (l := b :: r) (by simp only [List.length_cons]; omega)
  have h2 := bN_lt b
  have := and64_nat (a := enc (b :: r)) (b := 1) (by omega)
  rw [show ((1 : Nat) : Int) = 1 from rfl] at this
  rw [this, Nat.and_one_is_mod, bI_N]
  show (((2 * enc r + bN b) % 2 : Nat) : Int) = _
  congr 1
  omega
theorem enc_pop {r : List Bool} {b : Bool} (h : r.length ≤ 60) : shr64 (enc (b :: r)) 1 = (enc r : Nat) := by
  have h1 := enc_lt60 (l := b :: r) (by simp only [List.length_cons]; omega)
  have h2 := bN_lt b
  rw [shr64_one (by omega)]
  congr 1
  show (2 * enc r + bN b) / 2 = enc r
  omega
theorem enc_not {r : List Bool} {b : Bool} (h : r.length ≤ 60) : xor64 (enc (b :: r)) 1 = (enc ((!b) :: r) : Nat) := by
  have h1 := enc_lt60 (l := b :: r) (by simp only [List.length_cons]; omega)
  have := xor64_nat (a := enc (b :: r)) (b := 1) (by omega) (by omega)
  rw [show ((1 : Nat) : Int) = 1 from rfl] at this
  rw [this]
  congr 1
  show (2 * enc r + bN b) ^^^ 1 = 2 * enc r + bN (!b)
  apply Nat.eq_of_testBit_eq
  intro i
  rw [Nat.testBit_xor]
  cases i with
  | zero => cases b <;> simp [Nat.testBit_zero, bN]
  | succ i => cases b <;> simp [Nat.testBit_succ, bN, show (2 * enc r + 1) / 2 = enc r by omega]
theorem enc_or {r : List Bool} {t u : Bool} (h : r.length ≤ 59) : or64 (shr64 (enc (t :: u :: r)) 1) (bI t) = (enc ((u || t) :: r) : Nat) := by
  rw [enc_pop (by simp only [List.length_cons]; omega)]
  have h1 := enc_lt60 (l := u :: r) (by simp only [List.length_cons]; omega)
  have h2 := bN_lt t
  rw [bI_N, or64_nat (by omega) (by omega)]
  congr 1
  show (2 * enc r + bN u) ||| bN t = 2 * enc r + bN (u || t)
  rw [← dbl_or, ← dbl_or, Nat.or_assoc]
  congr 1
  cases u <;> cases t <;> rfl
theorem enc_and {r : List Bool} {t u : Bool} (h : r.length ≤ 59) : and64 (shr64 (enc (t :: u :: r)) 1) (or64 (bI t) (-2)) = (enc ((u && t) :: r) : Nat) := by
  rw [enc_pop (by simp only [List.length_cons]; omega)]
  have h1 := enc_lt60 (l := u :: r) (by simp only [List.length_cons]; omega)
  cases t
  · rw [show or64 (bI false) (-2) = -2 from or64_m2.1, and64_m2 (by omega)]
    congr 1
    have h2 := bN_lt u
    show 2 * ((2 * enc r + bN u) / 2) = 2 * enc r + bN (u && false)
    rw [Bool.and_false]
    show _ = 2 * enc r + 0
    omega
  · rw [show or64 (bI true) (-2) = -1 from or64_m2.2, and64_m1 (by omega), Bool.and_true]
