/-! a test of an E -/
theorem dvp {a b : Int} (h : 0 ≤ a ∧ a < 2147483648) (hb : 0 < b) : div32 a b = a / b := by
  unfold div32
  rw [Int.tdiv_eq_ediv_of_nonneg h.1]
  have h1 := Int.ediv_nonneg h.1 (Int.le_of_lt hb)
  have h2 := Int.ediv_le_self b h.1
  exact w32_id (by omega) (by omega)
theorem mdp {a b : Int} (h : 0 ≤ a) : Int.tmod a b = a % b := Int.tmod_eq_emod_of_nonneg h
def fct (I : Fn) (c : Nat) (b g l : Int) : Int := if l = 0 then b else if l = 1 then I (17 + c) 4 else if l = 2 then I (17 + c) 1 else if l = 3 then I (17 + c) 5 else if l = 4 then Int.tmod g 60 else c
def tst (v s n : Int) : Bool := if s = 0 then decide (v < n) else if s = 1 then decide (v = n) else decide (n < v)
def bI (b : Bool) : Int := bif b then 1 else 0
theorem c_passes {d : Nat} {I L : Fn} {c : Nat} {b g l s n : Int} (hc : c < 6) (hb : BagC I c) (hl : 0 ≤ l ∧ l < 6) (hs : 0 ≤ s ∧ s < 3) (hn : 0 ≤ n ∧ n < 100) : CallD (d + 1) 28 [vi ((l * 3 + s) * 100 + n), vr (17 + c), vi b, vi g] (S I L) = some (some (vi (bI (tst (fct I c b g l) s n))), S I L) := by
  have hk := K0bag hc
  have d3 : div32 ((l * 3 + s) * 100 + n) 300 = l := by rw [dvp (by omega) (by omega)]; omega
  have d1 : div32 ((l * 3 + s) * 100 + n) 100 = l * 3 + s := by rw [dvp (by omega) (by omega)]; omega
  have m1 : Int.tmod ((l * 3 + s) * 100 + n) 100 = n := by rw [mdp (by omega)]; omega
  have m3 : Int.tmod (l * 3 + s) 3 = s := by rw [mdp (by omega)]; omega
  have h0 := hb.1
  unfold fct tst
  rcases (by omega : l = 0 ∨ l = 1 ∨ l = 2 ∨ l = 3 ∨ l = 4 ∨ l = 5) with z | z | z | z | z | z <;> rcases (by omega : s = 0 ∨ s = 1 ∨ s = 2) with y | y | y <;> subst z <;> subst y
  · show _ = some (some (vi (bI (decide (b < n)))), _)
    by_cases q : b < n
    · rw [show bI (decide (b < n)) = 1 by rw [decide_eq_true q]; rfl]
      exact (e28_2 d3 (by omega) m1 d1 m3 (by omega) (by omega))
    · rw [show bI (decide (b < n)) = 0 by rw [decide_eq_false q]; rfl]
      exact (e28_1 d3 (by omega) m1 d1 m3 (by omega) (by omega))
  · show _ = some (some (vi (bI (decide (b = n)))), _)
    by_cases q : b = n
    · rw [show bI (decide (b = n)) = 1 by rw [decide_eq_true q]; rfl]
      exact (e28_4 d3 (by omega) m1 d1 m3 (by omega) (by omega))
    · rw [show bI (decide (b = n)) = 0 by rw [decide_eq_false q]; rfl]
      exact (e28_3 d3 (by omega) m1 d1 m3 (by omega) (by omega))
  · show _ = some (some (vi (bI (decide (n < b)))), _)
    by_cases q : n < b
    · rw [show bI (decide (n < b)) = 1 by rw [decide_eq_true q]; rfl]
      exact (e28_6 d3 (by omega) m1 d1 m3 (by omega) (by omega) (by omega))
    · rw [show bI (decide (n < b)) = 0 by rw [decide_eq_false q]; rfl]
      exact (e28_5 d3 (by omega) m1 d1 m3 (by omega) (by omega) (by omega))
  · show _ = some (some (vi (bI (decide ((I (17 + c) 4) < n)))), _)
    by_cases q : (I (17 + c) 4) < n
    · rw [show bI (decide ((I (17 + c) 4) < n)) = 1 by rw [decide_eq_true q]; rfl]
      exact (e28_8 d3 (by omega) (by assumption) rfl m1 d1 m3 (by omega) (by omega))
    · rw [show bI (decide ((I (17 + c) 4) < n)) = 0 by rw [decide_eq_false q]; rfl]
      exact (e28_7 d3 (by omega) (by assumption) rfl m1 d1 m3 (by omega) (by omega))
  · show _ = some (some (vi (bI (decide ((I (17 + c) 4) = n)))), _)
    by_cases q : (I (17 + c) 4) = n
    · rw [show bI (decide ((I (17 + c) 4) = n)) = 1 by rw [decide_eq_true q]; rfl]
      exact (e28_10 d3 (by omega) (by assumption) rfl m1 d1 m3 (by omega) (by omega))
    · rw [show bI (decide ((I (17 + c) 4) = n)) = 0 by rw [decide_eq_false q]; rfl]
      exact (e28_9 d3 (by omega) (by assumption) rfl m1 d1 m3 (by omega) (by omega))
  · show _ = some (some (vi (bI (decide (n < (I (17 + c) 4))))), _)
    by_cases q : n < (I (17 + c) 4)
    · rw [show bI (decide (n < (I (17 + c) 4))) = 1 by rw [decide_eq_true q]; rfl]
      exact (e28_12 d3 (by omega) (by assumption) rfl m1 d1 m3 (by omega) (by omega) (by omega))
    · rw [show bI (decide (n < (I (17 + c) 4))) = 0 by rw [decide_eq_false q]; rfl]
      exact (e28_11 d3 (by omega) (by assumption) rfl m1 d1 m3 (by omega) (by omega) (by omega))
  · show _ = some (some (vi (bI (decide ((I (17 + c) 1) < n)))), _)
    by_cases q : (I (17 + c) 1) < n
    · rw [show bI (decide ((I (17 + c) 1) < n)) = 1 by rw [decide_eq_true q]; rfl]
      exact (e28_14 d3 (by omega) (by assumption) rfl m1 d1 m3 (by omega) (by omega))
    · rw [show bI (decide ((I (17 + c) 1) < n)) = 0 by rw [decide_eq_false q]; rfl]
      exact (e28_13 d3 (by omega) (by assumption) rfl m1 d1 m3 (by omega) (by omega))
  · show _ = some (some (vi (bI (decide ((I (17 + c) 1) = n)))), _)
    by_cases q : (I (17 + c) 1) = n
    · rw [show bI (decide ((I (17 + c) 1) = n)) = 1 by rw [decide_eq_true q]; rfl]
      exact (e28_16 d3 (by omega) (by assumption) rfl m1 d1 m3 (by omega) (by omega))
    · rw [show bI (decide ((I (17 + c) 1) = n)) = 0 by rw [decide_eq_false q]; rfl]
      exact (e28_15 d3 (by omega) (by assumption) rfl m1 d1 m3 (by omega) (by omega))
  · show _ = some (some (vi (bI (decide (n < (I (17 + c) 1))))), _)
    by_cases q : n < (I (17 + c) 1)
    · rw [show bI (decide (n < (I (17 + c) 1))) = 1 by rw [decide_eq_true q]; rfl]
      exact (e28_18 d3 (by omega) (by assumption) rfl m1 d1 m3 (by omega) (by omega) (by omega))
    · rw [show bI (decide (n < (I (17 + c) 1))) = 0 by rw [decide_eq_false q]; rfl]
      exact (e28_17 d3 (by omega) (by assumption) rfl m1 d1 m3 (by omega) (by omega) (by omega))
  · show _ = some (some (vi (bI (decide ((I (17 + c) 5) < n)))), _)
    by_cases q : (I (17 + c) 5) < n
    · rw [show bI (decide ((I (17 + c) 5) < n)) = 1 by rw [decide_eq_true q]; rfl]
      exact (e28_20 d3 (by omega) (by assumption) rfl m1 d1 m3 (by omega) (by omega))
    · rw [show bI (decide ((I (17 + c) 5) < n)) = 0 by rw [decide_eq_false q]; rfl]
      exact (e28_19 d3 (by omega) (by assumption) rfl m1 d1 m3 (by omega) (by omega))
  · show _ = some (some (vi (bI (decide ((I (17 + c) 5) = n)))), _)
    by_cases q : (I (17 + c) 5) = n
    · rw [show bI (decide ((I (17 + c) 5) = n)) = 1 by rw [decide_eq_true q]; rfl]
      exact (e28_22 d3 (by omega) (by assumption) rfl m1 d1 m3 (by omega) (by omega))
    · rw [show bI (decide ((I (17 + c) 5) = n)) = 0 by rw [decide_eq_false q]; rfl]
      exact (e28_21 d3 (by omega) (by assumption) rfl m1 d1 m3 (by omega) (by omega))
  · show _ = some (some (vi (bI (decide (n < (I (17 + c) 5))))), _)
    by_cases q : n < (I (17 + c) 5)
    · rw [show bI (decide (n < (I (17 + c) 5))) = 1 by rw [decide_eq_true q]; rfl]
      exact (e28_24 d3 (by omega) (by assumption) rfl m1 d1 m3 (by omega) (by omega) (by omega))
    · rw [show bI (decide (n < (I (17 + c) 5))) = 0 by rw [decide_eq_false q]; rfl]
      exact (e28_23 d3 (by omega) (by assumption) rfl m1 d1 m3 (by omega) (by omega) (by omega))
  · show _ = some (some (vi (bI (decide ((Int.tmod g 60) < n)))), _)
    by_cases q : (Int.tmod g 60) < n
    · rw [show bI (decide ((Int.tmod g 60) < n)) = 1 by rw [decide_eq_true q]; rfl]
      exact (e28_26 d3 (by omega) rfl m1 d1 m3 (by omega) (by omega))
    · rw [show bI (decide ((Int.tmod g 60) < n)) = 0 by rw [decide_eq_false q]; rfl]
      exact (e28_25 d3 (by omega) rfl m1 d1 m3 (by omega) (by omega))
  · show _ = some (some (vi (bI (decide ((Int.tmod g 60) = n)))), _)
    by_cases q : (Int.tmod g 60) = n
    · rw [show bI (decide ((Int.tmod g 60) = n)) = 1 by rw [decide_eq_true q]; rfl]
      exact (e28_28 d3 (by omega) rfl m1 d1 m3 (by omega) (by omega))
    · rw [show bI (decide ((Int.tmod g 60) = n)) = 0 by rw [decide_eq_false q]; rfl]
      exact (e28_27 d3 (by omega) rfl m1 d1 m3 (by omega) (by omega))
  · show _ = some (some (vi (bI (decide (n < (Int.tmod g 60))))), _)
    by_cases q : n < (Int.tmod g 60)
    · rw [show bI (decide (n < (Int.tmod g 60))) = 1 by rw [decide_eq_true q]; rfl]
      exact (e28_30 d3 (by omega) rfl m1 d1 m3 (by omega) (by omega) (by omega))
    · rw [show bI (decide (n < (Int.tmod g 60))) = 0 by rw [decide_eq_false q]; rfl]
      exact (e28_29 d3 (by omega) rfl m1 d1 m3 (by omega) (by omega) (by omega))
  · show _ = some (some (vi (bI (decide ((c : Int) < n)))), _)
    by_cases q : (c : Int) < n
    · rw [show bI (decide ((c : Int) < n)) = 1 by rw [decide_eq_true q]; rfl]
      exact (e28_32 d3 (by omega) (by omega) (by omega) (by omega) (by omega) (by assumption) h0 m1 d1 m3 (by omega) (by omega))
    · rw [show bI (decide ((c : Int) < n)) = 0 by rw [decide_eq_false q]; rfl]
      exact (e28_31 d3 (by omega) (by omega) (by omega) (by omega) (by omega) (by assumption) h0 m1 d1 m3 (by omega) (by omega))
  · show _ = some (some (vi (bI (decide ((c : Int) = n)))), _)
    by_cases q : (c : Int) = n
    · rw [show bI (decide ((c : Int) = n)) = 1 by rw [decide_eq_true q]; rfl]
      exact (e28_34 d3 (by omega) (by omega) (by omega) (by omega) (by omega) (by assumption) h0 m1 d1 m3 (by omega) (by omega))
    · rw [show bI (decide ((c : Int) = n)) = 0 by rw [decide_eq_false q]; rfl]
      exact (e28_33 d3 (by omega) (by omega) (by omega) (by omega) (by omega) (by assumption) h0 m1 d1 m3 (by omega) (by omega))
  · show _ = some (some (vi (bI (decide (n < (c : Int))))), _)
    by_cases q : n < (c : Int)
    · rw [show bI (decide (n < (c : Int))) = 1 by rw [decide_eq_true q]; rfl]
      exact (e28_36 d3 (by omega) (by omega) (by omega) (by omega) (by omega) (by assumption) h0 m1 d1 m3 (by omega) (by omega) (by omega))
    · rw [show bI (decide (n < (c : Int))) = 0 by rw [decide_eq_false q]; rfl]
      exact (e28_35 d3 (by omega) (by omega) (by omega) (by omega) (by omega) (by assumption) h0 m1 d1 m3 (by omega) (by omega) (by omega))
