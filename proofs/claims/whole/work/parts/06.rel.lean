/-! the abstract machine beside the machine: values, stacks, locals, cells -/
def VR (ad : Nat → Nat) : AV → Value → Prop
  | .inl x, .int y => y.toInt = x
  | .inr (.inl x), .long y => y.toInt = x
  | .inr (.inr (.inl k)), .ref a => a = ad k
  | .inr (.inr (.inr 0)), .null => True
  | .inr (.inr (.inr 1)), .null => True
  | .inr (.inr (.inr 1)), .ref _ => True
  | _, _ => False
def SR (ad : Nat → Nat) : List AV → List Value → Prop
  | [], [] => True
  | a :: r, v :: s => VR ad a v ∧ SR ad r s
  | _, _ => False
theorem VR_i {ad : Nat → Nat} {x : Int} {v : Value} (h : VR ad (.inl x) v) : ∃ y : Int32, v = .int y ∧ x = y.toInt := by
  cases v <;> first | exact ⟨_, rfl, h.symm⟩ | exact absurd h id
theorem VR_l {ad : Nat → Nat} {x : Int} {v : Value} (h : VR ad (.inr (.inl x)) v) : ∃ y : Int64, v = .long y ∧ x = y.toInt := by
  cases v <;> first | exact ⟨_, rfl, h.symm⟩ | exact absurd h id
theorem VR_r {ad : Nat → Nat} {k : Nat} {v : Value} (h : VR ad (.inr (.inr (.inl k))) v) : v = .ref (ad k) := by
  cases v <;> first | exact congrArg _ h | exact absurd h id
theorem VR_n {ad : Nat → Nat} {v : Value} (h : VR ad (.inr (.inr (.inr 0))) v) : v = .null := by
  cases v <;> first | rfl | exact absurd h id
theorem VR_o {ad : Nat → Nat} {v : Value} (h : VR ad (.inr (.inr (.inr 1))) v) : v = .null ∨ ∃ a, v = .ref a := by
  cases v <;> first | exact Or.inl rfl | exact Or.inr ⟨_, rfl⟩ | exact absurd h id
theorem VR_cat1 {ad : Nat → Nat} {a : AV} {v : Value} (h : VR ad a v) (ha : ∀ x, a ≠ .inr (.inl x)) : v.category = 1 := by
  rcases a with x | x | k | k
  · obtain ⟨y, rfl, -⟩ := VR_i h; rfl
  · exact absurd rfl (ha x)
  · rw [VR_r h]; rfl
  · cases v <;> first | rfl | (match k, h with
      | 0, h => exact absurd h id
      | 1, h => exact absurd h id
      | k + 2, h => exact absurd h id)
theorem SR_c {ad : Nat → Nat} {a : AV} {r : List AV} {st : List Value} (h : SR ad (a :: r) st) : ∃ v st', st = v :: st' ∧ VR ad a v ∧ SR ad r st' := by
  cases st with
  | nil => exact absurd h id
  | cons v s => exact ⟨v, s, rfl, h.1, h.2⟩
theorem SR_nil {ad : Nat → Nat} {st : List Value} (h : SR ad [] st) : st = [] := by
  cases st with
  | nil => rfl
  | cons v s => exact absurd h id
theorem SR_i {ad : Nat → Nat} {x : Int} {r : List AV} {st : List Value} (h : SR ad (.inl x :: r) st) : ∃ (y : Int32) (st' : List Value), st = .int y :: st' ∧ x = y.toInt ∧ SR ad r st' := by
  obtain ⟨v, s, rfl, h1, h2⟩ := SR_c h
  obtain ⟨y, rfl, e⟩ := VR_i h1
  exact ⟨y, s, rfl, e, h2⟩
theorem SR_l {ad : Nat → Nat} {x : Int} {r : List AV} {st : List Value} (h : SR ad (.inr (.inl x) :: r) st) : ∃ (y : Int64) (st' : List Value), st = .long y :: st' ∧ x = y.toInt ∧ SR ad r st' := by
  obtain ⟨v, s, rfl, h1, h2⟩ := SR_c h
  obtain ⟨y, rfl, e⟩ := VR_l h1
  exact ⟨y, s, rfl, e, h2⟩
theorem SR_r {ad : Nat → Nat} {k : Nat} {r : List AV} {st : List Value} (h : SR ad (.inr (.inr (.inl k)) :: r) st) : ∃ (st' : List Value), st = .ref (ad k) :: st' ∧ SR ad r st' := by
  obtain ⟨v, s, rfl, h1, h2⟩ := SR_c h
  exact ⟨s, by rw [VR_r h1], h2⟩
theorem SR_n {ad : Nat → Nat} {r : List AV} {st : List Value} (h : SR ad (.inr (.inr (.inr 0)) :: r) st) : ∃ (st' : List Value), st = .null :: st' ∧ SR ad r st' := by
  obtain ⟨v, s, rfl, h1, h2⟩ := SR_c h
  exact ⟨s, by rw [VR_n h1], h2⟩
theorem SR_app {ad : Nat → Nat} : ∀ {a b : List AV} {s t : List Value}, SR ad a s → SR ad b t → SR ad (a ++ b) (s ++ t)
  | [], b, [], t, _, h => h
  | x :: a, b, v :: s, t, h1, h2 => ⟨h1.1, SR_app h1.2 h2⟩
  | [], _, _ :: _, _, h, _ => absurd h id
  | _ :: _, _, [], _, h, _ => absurd h id
theorem SR_len {ad : Nat → Nat} : ∀ {a : List AV} {s : List Value}, SR ad a s → a.length = s.length
  | [], [], _ => rfl
  | x :: a, v :: s, h => by simp [SR_len h.2]
  | [], _ :: _, h => absurd h id
  | _ :: _, [], h => absurd h id
theorem SR_sum {ad : Nat → Nat} : ∀ {a : List AV} {s : List Value}, SR ad a s → (s.map fun v => v.category).sum = wsum a
  | [], [], _ => rfl
  | .inl x :: a, v :: s, h => by
    obtain ⟨y, rfl, -⟩ := VR_i h.1
    rw [List.map_cons, List.sum_cons, SR_sum h.2]
    rfl
  | .inr (.inl x) :: a, v :: s, h => by
    obtain ⟨y, rfl, -⟩ := VR_l h.1
    rw [List.map_cons, List.sum_cons, SR_sum h.2]
    rfl
  | .inr (.inr (.inl x)) :: a, v :: s, h => by
    have := VR_r h.1
    subst this
    rw [List.map_cons, List.sum_cons, SR_sum h.2]
    rfl
  | .inr (.inr (.inr x)) :: a, v :: s, h => by
    have h1 := VR_cat1 h.1 (fun x h => by cases h)
    rw [List.map_cons, List.sum_cons, SR_sum h.2, h1]
    rfl
  | [], _ :: _, h => absurd h id
  | _ :: _, [], h => absurd h id
/-- n values off the stack -/
theorem popA_spec : ∀ (n : Nat) (st acc as r : List AV), popA n st acc = some (as, r) → ∃ l, st = l ++ r ∧ l.length = n ∧ as = l.reverse ++ acc
  | 0, st, acc, as, r, h => by
    cases h
    exact ⟨[], rfl, rfl, rfl⟩
  | n + 1, v :: st, acc, as, r, h => by
    obtain ⟨l, h1, h2, h3⟩ := popA_spec n st (v :: acc) as r h
    exact ⟨v :: l, by rw [h1]; rfl, by simp [h2], by rw [h3]; simp⟩
  | n + 1, [], acc, as, r, h => by cases h
theorem SR_split {ad : Nat → Nat} : ∀ {l r : List AV} {st : List Value}, SR ad (l ++ r) st → ∃ s t, st = s ++ t ∧ SR ad l s ∧ SR ad r t
  | [], r, st, h => ⟨[], st, rfl, trivial, h⟩
  | a :: l, r, v :: st, h => by
    obtain ⟨s, t, rfl, h1, h2⟩ := SR_split h.2
    exact ⟨v :: s, t, rfl, ⟨h.1, h1⟩, h2⟩
  | _ :: _, _, [], h => absurd h id
theorem SR_rev {ad : Nat → Nat} : ∀ {l : List AV} {st : List Value}, SR ad l st → SR ad l.reverse st.reverse
  | [], [], _ => trivial
  | a :: l, v :: st, h => by
    rw [List.reverse_cons, List.reverse_cons]
    exact SR_app (SR_rev h.2) ⟨h.1, trivial⟩
  | [], _ :: _, h => absurd h id
  | _ :: _, [], h => absurd h id
/-! locals -/
theorem ldl_stl : ∀ (al : List AV) (i j : Nat) (v : AV), j ≠ i → ldl (stl al i v) j = vu ∨ (ldl (stl al i v) j = ldl al j ∧ (j + 1 = i → ∀ x, ldl al j ≠ .inr (.inl x)))
  | [], i, j, v, _ => by
    left
    cases i <;> cases j <;> rfl
  | a :: r, 0, j, v, h => by
    right
    cases j with
    | zero => exact absurd rfl h
    | succ j => exact ⟨rfl, fun q => by omega⟩
  | a :: r, 1, 0, v, h => by
    rcases a with x | x | x
    · exact Or.inr ⟨rfl, fun _ _ h => by cases h⟩
    · exact Or.inl rfl
    · exact Or.inr ⟨rfl, fun _ _ h => by cases h⟩
  | a :: r, 1, j + 1, v, h => by
    rcases ldl_stl r 0 j v (fun q => h (by omega)) with q | ⟨q, -⟩
    · exact Or.inl q
    · exact Or.inr ⟨q, fun q => by omega⟩
  | a :: r, i + 2, 0, v, h => Or.inr ⟨rfl, fun q => by omega⟩
  | a :: r, i + 2, j + 1, v, h => by
    rcases ldl_stl r (i + 1) j v (fun q => h (by omega)) with q | ⟨q, q2⟩
    · exact Or.inl q
    · exact Or.inr ⟨q, fun z => q2 (by omega)⟩
theorem ldl_stl_self : ∀ (al : List AV) (i : Nat) (v : AV), i < al.length → ldl (stl al i v) i = v
  | [], i, v, h => by simp at h
  | a :: r, 0, v, _ => rfl
  | a :: r, 1, v, h => ldl_stl_self r 0 v (by simp at h; omega)
  | a :: r, i + 2, v, h => ldl_stl_self r (i + 1) v (by simp at h; omega)
theorem stl_len : ∀ (al : List AV) (i : Nat) (v : AV), (stl al i v).length = al.length
  | [], i, v => by cases i <;> rfl
  | a :: r, 0, v => rfl
  | a :: r, 1, v => congrArg (· + 1) (stl_len r 0 v)
  | a :: r, i + 2, v => congrArg (· + 1) (stl_len r (i + 1) v)
theorem ldl_stu : ∀ (al : List AV) (i j : Nat), ldl (stu al i) j = vu ∨ (ldl (stu al i) j = ldl al j ∧ j ≠ i)
  | [], i, j => Or.inl (by cases i <;> cases j <;> rfl)
  | a :: r, 0, 0 => Or.inl rfl
  | a :: r, 0, j + 1 => Or.inr ⟨rfl, by omega⟩
  | a :: r, i + 1, 0 => Or.inr ⟨rfl, by omega⟩
  | a :: r, i + 1, j + 1 => by
    rcases ldl_stu r i j with q | ⟨q, q2⟩
    · exact Or.inl q
    · exact Or.inr ⟨q, by omega⟩
theorem stu_len : ∀ (al : List AV) (i : Nat), (stu al i).length = al.length
  | [], i => by cases i <;> rfl
  | a :: r, 0 => rfl
  | a :: r, i + 1 => congrArg (· + 1) (stu_len r i)
def LRl (ad : Nat → Nat) (nL : Nat) (al : List AV) (lv : List (Nat × Value)) : Prop := al.length = nL ∧ ∀ j, ldl al j = vu ∨ ∃ w, (j, w) ∈ lv ∧ VR ad (ldl al j) w
def LR (ad : Nat → Nat) (ls : Array Slot) (nL : Nat) (al : List AV) : Prop := ∃ lv, lv_has ls nL lv ∧ LRl ad nL al lv
theorem LRl.st1 {ad : Nat → Nat} {nL i : Nat} {al : List AV} {lv : List (Nat × Value)} {a : AV} {w : Value} (h : LRl ad nL al lv) (hi : i < nL) (hv : VR ad a w) : LRl ad nL (stl al i a) ((i, w) :: lv.filter (fun q => !(q.1 == i) && !(q.1 + 1 == i && q.2.category == 2))) := by
  refine ⟨by rw [stl_len]; exact h.1, fun j => ?_⟩
  by_cases hj : j = i
  · subst hj
    rw [ldl_stl_self _ _ _ (by rw [h.1]; exact hi)]
    exact Or.inr ⟨w, List.mem_cons_self, hv⟩
  · rcases ldl_stl al i j a hj with q | ⟨q, q2⟩
    · exact Or.inl q
    · rw [q]
      rcases h.2 j with z | ⟨u, z1, z2⟩
      · exact Or.inl z
      · refine Or.inr ⟨u, List.mem_cons_of_mem _ (List.mem_filter.mpr ⟨z1, ?_⟩), z2⟩
        simp only [Bool.and_eq_true, Bool.not_eq_true', beq_eq_false_iff_ne, ne_eq, Bool.and_eq_false_iff]
        refine ⟨hj, ?_⟩
        by_cases hji : j + 1 = i
        · right
          rw [VR_cat1 z2 (q2 hji)]
          decide
        · exact Or.inl hji
theorem LRl.st2 {ad : Nat → Nat} {nL i : Nat} {al : List AV} {lv : List (Nat × Value)} {x : Int} {w : Value} (h : LRl ad nL al lv) (hi : i + 1 < nL) (hv : VR ad (vl x) w) : LRl ad nL (stu (stl al i (vl x)) (i + 1)) ((i, w) :: lv.filter (fun q => !(q.1 == i) && (!(q.1 == i + 1) && !(q.1 + 1 == i && q.2.category == 2)))) := by
  refine ⟨by rw [stu_len, stl_len]; exact h.1, fun j => ?_⟩
  rcases ldl_stu (stl al i (vl x)) (i + 1) j with q | ⟨q, hj1⟩
  · exact Or.inl q
  · rw [q]
    by_cases hj : j = i
    · subst hj
      rw [ldl_stl_self _ _ _ (by rw [h.1]; omega)]
      exact Or.inr ⟨w, List.mem_cons_self, hv⟩
    · rcases ldl_stl al i j (vl x) hj with q | ⟨q, q2⟩
      · exact Or.inl q
      · rw [q]
        rcases h.2 j with z | ⟨u, z1, z2⟩
        · exact Or.inl z
        · refine Or.inr ⟨u, List.mem_cons_of_mem _ (List.mem_filter.mpr ⟨z1, ?_⟩), z2⟩
          simp only [Bool.and_eq_true, Bool.not_eq_true', beq_eq_false_iff_ne, ne_eq, Bool.and_eq_false_iff]
          refine ⟨hj, hj1, ?_⟩
          by_cases hji : j + 1 = i
          · right
            rw [VR_cat1 z2 (q2 hji)]
            decide
          · exact Or.inl hji
theorem LRl.ld {ad : Nat → Nat} {nL i : Nat} {al : List AV} {lv : List (Nat × Value)} {a : AV} (h : LRl ad nL al lv) (e : ldl al i = a) (ha : a ≠ vu) : ∃ w, (i, w) ∈ lv ∧ VR ad a w := by
  rcases h.2 i with z | z
  · exact absurd (e.symm.trans z) ha
  · rw [e] at z; exact z
theorem LR.ld {ad : Nat → Nat} {ls : Array Slot} {nL i : Nat} {al : List AV} {a : AV} (h : LR ad ls nL al) (e : ldl al i = a) (ha : a ≠ vu) : ∃ w, ls[i]? = some (.val w) ∧ VR ad a w := by
  obtain ⟨lv, h1, h2⟩ := h
  obtain ⟨w, z1, z2⟩ := h2.ld e ha
  exact ⟨w, h1.2.2 (i, w) z1, z2⟩
theorem LR.size {ad : Nat → Nat} {ls : Array Slot} {nL : Nat} {al : List AV} (h : LR ad ls nL al) : ls.size = nL := by
  obtain ⟨lv, h1, -⟩ := h
  exact h1.1
theorem LR.len {ad : Nat → Nat} {ls : Array Slot} {nL : Nat} {al : List AV} (h : LR ad ls nL al) : al.length = nL := by
  obtain ⟨lv, -, h2⟩ := h
  exact h2.1
/-! numbers -/
theorem toI_add (x y : Int32) : (x + y).toInt = w32 (x.toInt + y.toInt) := Int32.toInt_add x y
theorem toI_sub (x y : Int32) : (x - y).toInt = w32 (x.toInt - y.toInt) := Int32.toInt_sub x y
theorem toI_mul (x y : Int32) : (x * y).toInt = w32 (x.toInt * y.toInt) := Int32.toInt_mul x y
theorem toI_neg (x : Int32) : (-x).toInt = w32 (-x.toInt) := Int32.toInt_neg x
theorem toI_div (x y : Int32) : (x / y).toInt = div32 x.toInt y.toInt := Int32.toInt_div x y
theorem toI_and (x y : Int32) : (x &&& y).toInt = and32 x.toInt y.toInt := by simp [and32]
theorem toI_or (x y : Int32) : (x ||| y).toInt = or32 x.toInt y.toInt := by simp [or32]
theorem toI_xor (x y : Int32) : (x ^^^ y).toInt = xor32 x.toInt y.toInt := by simp [xor32]
theorem toI_shl (x y : Int32) : (x <<< (y &&& 31)).toInt = shl32 x.toInt y.toInt := by unfold shl32; rw [Int32.ofInt_toInt, Int32.ofInt_toInt]
theorem toI_shr (x y : Int32) : (x >>> (y &&& 31)).toInt = shr32 x.toInt y.toInt := by unfold shr32; rw [Int32.ofInt_toInt, Int32.ofInt_toInt]
theorem toI_ush (x y : Int32) : (x.toUInt32 >>> (y.toUInt32 &&& Int32.toUInt32 31)).toInt32.toInt = ush32 x.toInt y.toInt := by unfold ush32; rw [Int32.ofInt_toInt, Int32.ofInt_toInt]
theorem toL_add (x y : Int64) : (x + y).toInt = w64 (x.toInt + y.toInt) := Int64.toInt_add x y
theorem toL_mul (x y : Int64) : (x * y).toInt = w64 (x.toInt * y.toInt) := Int64.toInt_mul x y
theorem toL_div (x y : Int64) : (x / y).toInt = div64 x.toInt y.toInt := Int64.toInt_div x y
theorem toL_and (x y : Int64) : (x &&& y).toInt = and64 x.toInt y.toInt := by simp [and64]
theorem toL_or (x y : Int64) : (x ||| y).toInt = or64 x.toInt y.toInt := by simp [or64]
theorem toL_xor (x y : Int64) : (x ^^^ y).toInt = xor64 x.toInt y.toInt := by simp [xor64]
theorem toL_shl (x : Int64) (y : Int32) : (x <<< (y.toInt64 &&& 63)).toInt = shl64 x.toInt y.toInt := by unfold shl64; rw [Int64.ofInt_toInt, Int32.ofInt_toInt]
theorem toL_shr (x : Int64) (y : Int32) : (x >>> (y.toInt64 &&& 63)).toInt = shr64 x.toInt y.toInt := by unfold shr64; rw [Int64.ofInt_toInt, Int32.ofInt_toInt]
theorem w32_id {x : Int} (h1 : -2147483648 ≤ x) (h2 : x < 2147483648) : w32 x = x := by
  unfold w32
  rw [Int.bmod_def]
  split <;> omega
theorem w64_id {x : Int} (h1 : -9223372036854775808 ≤ x) (h2 : x < 9223372036854775808) : w64 x = x := by
  unfold w64
  rw [Int.bmod_def]
  split <;> omega
theorem toI_lo (x : Int32) : -2147483648 ≤ x.toInt := Int32.le_toInt x
theorem toI_hi (x : Int32) : x.toInt < 2147483648 := Int32.toInt_lt x
theorem toL_lo (x : Int64) : -9223372036854775808 ≤ x.toInt := Int64.le_toInt x
theorem toL_hi (x : Int64) : x.toInt < 9223372036854775808 := Int64.toInt_lt x
theorem toI_rem (x y : Int32) : (x - x / y * y).toInt = Int.tmod x.toInt y.toInt := by
  rw [toI_sub, toI_mul, toI_div, ← Int32.toInt_mod]
  have e : x.toInt - x.toInt.tdiv y.toInt * y.toInt = (x % y).toInt := by
    rw [Int32.toInt_mod, Int.tmod_def, Int.mul_comm]
  have h := w32_id (toI_lo (x % y)) (toI_hi (x % y))
  rw [← e] at h ⊢
  unfold div32 w32 at *
  simp only [Int.bmod_mul_bmod, Int.bmod_sub_bmod, Int.sub_bmod_bmod]
  exact h
theorem toL_rem (x y : Int64) : (x - x / y * y).toInt = Int.tmod x.toInt y.toInt := by
  rw [Int64.toInt_sub, toL_mul, toL_div, ← Int64.toInt_mod]
  have e : x.toInt - x.toInt.tdiv y.toInt * y.toInt = (x % y).toInt := by
    rw [Int64.toInt_mod, Int.tmod_def, Int.mul_comm]
  have h := w64_id (toL_lo (x % y)) (toL_hi (x % y))
  rw [← e] at h ⊢
  unfold div64 w64 at *
  simp only [Int.bmod_mul_bmod, Int.bmod_sub_bmod, Int.sub_bmod_bmod]
  exact h
theorem toI_clamp {x : Int32} (h : 0 ≤ x.toInt) : (x.toNatClampNeg : Int) = x.toInt := by
  show ((x.toInt.toNat : Nat) : Int) = x.toInt
  omega
theorem toI_nat (x : Int32) : x.toNatClampNeg = x.toInt.toNat := rfl
theorem toI_in {x : Int32} {n : Nat} (h : 0 ≤ x.toInt ∧ x.toInt < n) : vp_in x n := by
  intro q
  rcases q with q | q
  · rw [Int32.lt_iff_toInt_lt, Int32.toInt_zero] at q; omega
  · rw [toI_nat] at q; omega
