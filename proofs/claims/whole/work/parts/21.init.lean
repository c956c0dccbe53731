/-! the heap as the constructors leave it: the cells' kinds and the references (by wip/whole/gen21.py) -/
def K0 : List (Nat × Nat) := [(100, 7), (100, 21), (12, 2), (12, 2), (12, 2), (103, 16), (103, 6), (103, 3), (199, 0), (0, 10), (1, 10), (100, 8), (100, 8), (112, 6), (100, 6), (100, 6), (100, 12), (2, 9), (2, 9), (2, 9), (2, 9), (2, 9), (2, 9), (1, 10), (100, 8), (100, 8), (112, 6), (100, 6), (100, 6), (100, 12), (2, 9), (2, 9), (2, 9), (2, 9), (2, 9), (2, 9), (3, 3), (100, 100), (4, 3), (115, 6), (5, 6), (100, 10), (100, 10), (100, 10), (100, 100), (5, 6), (100, 10), (100, 10), (100, 10), (100, 100), (5, 6), (100, 10), (100, 10), (100, 10), (100, 100), (5, 6), (100, 10), (100, 10), (100, 10), (100, 100), (5, 6), (100, 10), (100, 10), (100, 10), (100, 100), (5, 6), (100, 10), (100, 10), (100, 10), (100, 100), (5, 6), (100, 10), (100, 10), (100, 10), (100, 100), (6, 5), (100, 8), (100, 8), (100, 8), (7, 5), (100, 8), (100, 8), (100, 13), (8, 3), (100, 36), (100, 448), (9, 2), (100, 20), (10, 3), (100, 6), (100, 6), (101, 360), (11, 67), (100, 8), (100, 8), (100, 6), (100, 6), (100, 6), (100, 6), (100, 6), (100, 6), (100, 6), (100, 6), (100, 6), (100, 6), (100, 8), (100, 100), (100, 6), (100, 60), (100, 60), (100, 60), (100, 60), (100, 600), (100, 101), (100, 16), (102, 100), (101, 8), (101, 8), (100, 8), (100, 8), (100, 6), (100, 6), (101, 13), (100, 12), (100, 8), (100, 8), (100, 6), (100, 6), (100, 6), (100, 6), (100, 6), (100, 6), (100, 6), (100, 6), (100, 6), (100, 6), (100, 12), (100, 20), (100, 6), (100, 6), (101, 360), (101, 60)]
def R0t : List (List (Nat × Nat)) := [[], [], [(0, 5)], [(0, 6)], [(0, 7)], [], [], [], [], [(0, 10), (1, 23), (2, 36), (3, 38), (4, 75), (5, 79), (6, 83), (7, 86), (8, 88)], [(0, 11), (1, 12), (2, 13), (4, 14), (5, 15), (7, 16)], [], [], [(0, 17), (1, 18), (2, 19), (3, 20), (4, 21), (5, 22)], [], [], [], [], [], [], [], [], [], [(0, 24), (1, 25), (2, 26), (4, 27), (5, 28), (7, 29)], [], [], [(0, 30), (1, 31), (2, 32), (3, 33), (4, 34), (5, 35)], [], [], [], [], [], [], [], [], [], [(0, 37)], [], [(0, 39), (2, 40)], [(0, 45), (1, 50), (2, 55), (3, 60), (4, 65), (5, 70)], [(1, 41), (2, 42), (3, 43), (4, 44)], [], [], [], [], [(1, 46), (2, 47), (3, 48), (4, 49)], [], [], [], [], [(1, 51), (2, 52), (3, 53), (4, 54)], [], [], [], [], [(1, 56), (2, 57), (3, 58), (4, 59)], [], [], [], [], [(1, 61), (2, 62), (3, 63), (4, 64)], [], [], [], [], [(1, 66), (2, 67), (3, 68), (4, 69)], [], [], [], [], [(1, 71), (2, 72), (3, 73), (4, 74)], [], [], [], [], [(0, 10), (1, 38), (2, 76), (3, 77), (4, 78)], [], [], [], [(0, 10), (1, 75), (2, 80), (3, 81), (4, 82)], [], [], [], [(0, 10), (1, 84), (2, 85)], [], [], [(0, 87)], [], [(0, 89), (1, 90), (2, 91)], [], [], [], [(0, 93), (1, 94), (4, 95), (5, 96), (6, 97), (7, 98), (8, 99), (9, 100), (10, 101), (11, 102), (12, 103), (13, 104), (14, 105), (20, 106), (21, 107), (22, 108), (23, 109), (24, 110), (25, 111), (26, 112), (27, 113), (31, 114), (32, 115), (33, 116), (34, 117), (35, 118), (36, 119), (37, 120), (38, 121), (40, 122), (42, 123), (48, 124), (49, 125), (50, 126), (51, 127), (52, 128), (53, 129), (54, 130), (55, 131), (56, 132), (57, 133), (58, 134), (59, 135), (60, 136), (62, 137), (63, 138), (64, 139), (65, 140), (66, 141)], [], [], [], [], [], [], [], [], [], [], [], [], [], [], [], [], [], [], [], [], [], [], [], [], [], [], [], [], [], [], [], [], [], [], [], [], [], [], [], [], [], [], [], [], [], [], [], [], []]
def lkR : List (Nat × Nat) → Nat → Option Nat
  | [], _ => none
  | (p, q) :: r, j => bif Nat.beq p j then some q else lkR r j
def R0 (k j : Nat) : Option Nat := match nth R0t k with
  | some l => lkR l j
  | none => none
abbrev Fn : Type := Nat → Nat → Int
abbrev S (I L : Fn) : Sto := (I, (L, (R0, K0)))
/-! how a run goes on at one instruction, in words that a reader can use -/
section STEPS
variable {F : Cal} {m pc len : Nat} {ls r : List AV} {I L : Fn}
theorem p_if {c : Jvm.ClassFile.Cond} {t a : Int} (hf : fch (cde m) pc = some (.ifCond c t, len)) (h : cnd c a 0 = true) : RunX none F m pc ls (vi a :: r) (S I L) = RunX none F m t.toNat ls r (S I L) :=
  Run_stp hf rfl rfl (by show some (bif cnd c a 0 then t.toNat else pc + len, ls, r, S I L) = _; rw [h]; rfl)
theorem p_ifn {c : Jvm.ClassFile.Cond} {t a : Int} (hf : fch (cde m) pc = some (.ifCond c t, len)) (h : cnd c a 0 = false) : RunX none F m pc ls (vi a :: r) (S I L) = RunX none F m (pc + len) ls r (S I L) :=
  Run_stp hf rfl rfl (by show some (bif cnd c a 0 then t.toNat else pc + len, ls, r, S I L) = _; rw [h]; rfl)
theorem p_ic {c : Jvm.ClassFile.Cond} {t a b : Int} (hf : fch (cde m) pc = some (.if_icmp c t, len)) (h : cnd c a b = true) : RunX none F m pc ls (vi b :: vi a :: r) (S I L) = RunX none F m t.toNat ls r (S I L) :=
  Run_stp hf rfl rfl (by show some (bif cnd c a b then t.toNat else pc + len, ls, r, S I L) = _; rw [h]; rfl)
theorem p_icn {c : Jvm.ClassFile.Cond} {t a b : Int} (hf : fch (cde m) pc = some (.if_icmp c t, len)) (h : cnd c a b = false) : RunX none F m pc ls (vi b :: vi a :: r) (S I L) = RunX none F m (pc + len) ls r (S I L) :=
  Run_stp hf rfl rfl (by show some (bif cnd c a b then t.toNat else pc + len, ls, r, S I L) = _; rw [h]; rfl)
theorem cnd_lc (c : Jvm.ClassFile.Cond) (a b : Int) {v : Bool} (h : cnd c a b = v) : cnd c (if a < b then -1 else if a = b then 0 else 1) 0 = v := by
  rw [← h]
  by_cases h1 : a < b
  · rw [if_pos h1]; cases c <;> simp only [cnd] <;> congr 1 <;> apply propext <;> omega
  · rw [if_neg h1]
    by_cases h2 : a = b
    · rw [if_pos h2]; subst h2; cases c <;> simp [cnd]
    · rw [if_neg h2]; cases c <;> simp only [cnd] <;> congr 1 <;> apply propext <;> omega
theorem p_sw {d : Int} {ps : Array (Int × Int)} {x : Int} {t : Nat} (hf : fch (cde m) pc = some (.lookupswitch d ps, len)) (h : swt x d.toNat ps.toList = t) : RunX none F m pc ls (vi x :: r) (S I L) = RunX none F m t ls r (S I L) :=
  Run_stp hf rfl rfl (by show some (swt x d.toNat ps.toList, ls, r, S I L) = _; rw [h])
theorem swt_ne {x k t : Int} {d q : Nat} {l : List (Int × Int)} (h : ¬ x = k) (hr : swt x d l = q) : swt x d ((k, t) :: l) = q := by
  rw [← hr]; exact if_neg h
theorem swt_eq {x k t : Int} {d : Nat} {l : List (Int × Int)} (h : x = k) : swt x d ((k, t) :: l) = t.toNat := if_pos h
theorem p_iald {k n : Nat} {i v : Int} (hf : fch (cde m) pc = some (.iaload, len)) (hk : nth K0 k = some (100, n)) (h : 0 ≤ i ∧ i < n) (hv : I k i.toNat = v) : RunX none F m pc ls (vi i :: vr k :: r) (S I L) = RunX none F m (pc + len) ls (vi v :: r) (S I L) :=
  Run_stp hf rfl rfl (by
    show (match nth K0 k with
      | some (100, m) => if 0 ≤ i ∧ i < m then some (pc + len, ls, vi (I k i.toNat) :: r, S I L) else none
      | _ => none) = _
    rw [hk, hv]; exact if_pos h)
theorem p_bald {k n : Nat} {i v : Int} (hf : fch (cde m) pc = some (.baload, len)) (hk : nth K0 k = some (102, n) ∨ nth K0 k = some (103, n)) (h : 0 ≤ i ∧ i < n) (hv : I k i.toNat = v) : RunX none F m pc ls (vi i :: vr k :: r) (S I L) = RunX none F m (pc + len) ls (vi v :: r) (S I L) :=
  Run_stp hf rfl rfl (by
    show (match nth K0 k with
      | some (102, m) => if 0 ≤ i ∧ i < m then some (pc + len, ls, vi (I k i.toNat) :: r, S I L) else none
      | some (103, m) => if 0 ≤ i ∧ i < m then some (pc + len, ls, vi (I k i.toNat) :: r, S I L) else none
      | _ => none) = _
    rcases hk with hk | hk <;> rw [hk, hv] <;> exact if_pos h)
theorem p_lald {k n : Nat} {i v : Int} (hf : fch (cde m) pc = some (.laload, len)) (hk : nth K0 k = some (101, n)) (h : 0 ≤ i ∧ i < n) (hv : L k i.toNat = v) : RunX none F m pc ls (vi i :: vr k :: r) (S I L) = RunX none F m (pc + len) ls (vl v :: r) (S I L) :=
  Run_stp hf rfl rfl (by
    show (match nth K0 k with
      | some (101, m) => if 0 ≤ i ∧ i < m then some (pc + len, ls, vl (L k i.toNat) :: r, S I L) else none
      | _ => none) = _
    rw [hk, hv]; exact if_pos h)
theorem p_aald {k n t q : Nat} {i : Int} (hf : fch (cde m) pc = some (.aaload, len)) (hk : nth K0 k = some (t, n)) (ht : 110 ≤ t) (h : 0 ≤ i ∧ i < n) (hv : R0 k i.toNat = some q) : RunX none F m pc ls (vi i :: vr k :: r) (S I L) = RunX none F m (pc + len) ls (vr q :: r) (S I L) :=
  Run_stp hf rfl rfl (by
    show (match nth K0 k with
      | some (t, m) => if 110 ≤ t ∧ (0 ≤ i ∧ i < m) then some (pc + len, ls, avr (R0 k i.toNat) :: r, S I L) else none
      | _ => none) = _
    rw [hk, hv]; exact if_pos ⟨ht, h⟩)
theorem p_alen {k n t : Nat} (hf : fch (cde m) pc = some (.arraylength, len)) (hk : nth K0 k = some (t, n)) (ht : (100 ≤ t ∧ t < 199) ∧ n < 2147483648) : RunX none F m pc ls (vr k :: r) (S I L) = RunX none F m (pc + len) ls (vi n :: r) (S I L) :=
  Run_stp hf rfl rfl (by
    show (match nth K0 k with
      | some (t, m) => if (100 ≤ t ∧ t < 199) ∧ m < 2147483648 then some (pc + len, ls, vi m :: r, S I L) else none
      | _ => none) = _
    rw [hk]; exact if_pos ht)
theorem p_iast {k n : Nat} {i x : Int} (hf : fch (cde m) pc = some (.iastore, len)) (hk : nth K0 k = some (100, n)) (h9 : 9 ≤ k) (h : 0 ≤ i ∧ i < n) : RunX none F m pc ls (vi x :: vi i :: vr k :: r) (S I L) = RunX none F m (pc + len) ls r (S (up I k i.toNat x) L) :=
  Run_stp hf rfl rfl (by
    show (match nth K0 k with
      | some (100, m) => if 9 ≤ k ∧ (0 ≤ i ∧ i < m) then some (pc + len, ls, r, S (up I k i.toNat x) L) else none
      | _ => none) = _
    rw [hk]; exact if_pos ⟨h9, h⟩)
theorem p_zast {k n : Nat} {i x : Int} (hf : fch (cde m) pc = some (.bastore, len)) (hk : nth K0 k = some (102, n)) (h9 : 9 ≤ k) (hx : x = 0 ∨ x = 1) (h : 0 ≤ i ∧ i < n) : RunX none F m pc ls (vi x :: vi i :: vr k :: r) (S I L) = RunX none F m (pc + len) ls r (S (up I k i.toNat x) L) :=
  Run_stp hf rfl rfl (by
    show (match nth K0 k with
      | some (102, m) => if (9 ≤ k ∧ (x = 0 ∨ x = 1)) ∧ (0 ≤ i ∧ i < m) then some (pc + len, ls, r, S (up I k i.toNat x) L) else none
      | _ => none) = _
    rw [hk]; exact if_pos ⟨⟨h9, hx⟩, h⟩)
theorem p_last {k n : Nat} {i x : Int} (hf : fch (cde m) pc = some (.lastore, len)) (hk : nth K0 k = some (101, n)) (h9 : 9 ≤ k) (h : 0 ≤ i ∧ i < n) : RunX none F m pc ls (vl x :: vi i :: vr k :: r) (S I L) = RunX none F m (pc + len) ls r (S I (up L k i.toNat x)) :=
  Run_stp hf rfl rfl (by
    show (match nth K0 k with
      | some (101, m) => if 9 ≤ k ∧ (0 ≤ i ∧ i < m) then some (pc + len, ls, r, S I (up L k i.toNat x)) else none
      | _ => none) = _
    rw [hk]; exact if_pos ⟨h9, h⟩)
theorem p_geti {e k n c : Nat} {v : Int} (hf : fch (cde m) pc = some (.getfield e, len)) (hk : nth K0 k = some (c, n)) (hc : Nat.beq c (e / 1000) = true) (ht : e % 10 = 0 ∨ e % 10 = 3) (hv : I k (e / 10 % 100) = v) : RunX none F m pc ls (vr k :: r) (S I L) = RunX none F m (pc + len) ls (vi v :: r) (S I L) :=
  Run_stp hf rfl rfl (by
    simp only [stp, s_getf, hk, hc, cond_true]
    rcases ht with ht | ht <;> rw [ht, hv] <;> rfl)
theorem p_getr {e k n c q : Nat} (hf : fch (cde m) pc = some (.getfield e, len)) (hk : nth K0 k = some (c, n)) (hc : Nat.beq c (e / 1000) = true) (ht : e % 10 = 2) (hv : R0 k (e / 10 % 100) = some q) : RunX none F m pc ls (vr k :: r) (S I L) = RunX none F m (pc + len) ls (vr q :: r) (S I L) :=
  Run_stp hf rfl rfl (by
    simp only [stp, s_getf, hk, hc, cond_true]
    rw [ht, hv]; rfl)
theorem p_puti {e k n c : Nat} {x : Int} (hf : fch (cde m) pc = some (.putfield e, len)) (hk : nth K0 k = some (c, n)) (hc : Nat.beq c (e / 1000) = true) (h9 : 9 ≤ k) (ht : e % 10 = 0) : RunX none F m pc ls (vi x :: vr k :: r) (S I L) = RunX none F m (pc + len) ls r (S (up I k (e / 10 % 100) x) L) :=
  Run_stp hf rfl rfl (by
    simp only [stp, s_putf, hk, hc, Nat.ble_eq_true_of_le h9, Bool.and_self, cond_true]
    rw [ht]; rfl)
theorem p_dd {a b v : Int} (hf : fch (cde m) pc = some (.idiv, len)) (hb : ¬ b = 0) (hv : div32 a b = v) : RunX none F m pc ls (vi b :: vi a :: r) (S I L) = RunX none F m (pc + len) ls (vi v :: r) (S I L) :=
  Run_stp hf rfl rfl (by
    show (if b = 0 then none else some (pc + len, ls, vi (div32 a b) :: r, S I L)) = _
    rw [if_neg hb, hv])
theorem p_rem {a b v : Int} (hf : fch (cde m) pc = some (.irem, len)) (hb : ¬ b = 0) (hv : Int.tmod a b = v) : RunX none F m pc ls (vi b :: vi a :: r) (S I L) = RunX none F m (pc + len) ls (vi v :: r) (S I L) :=
  Run_stp hf rfl rfl (by
    show (if b = 0 then none else some (pc + len, ls, vi (Int.tmod a b) :: r, S I L)) = _
    rw [if_neg hb, hv])
theorem p_ldd {a b v : Int} (hf : fch (cde m) pc = some (.ldiv, len)) (hb : ¬ b = 0) (hv : div64 a b = v) : RunX none F m pc ls (vl b :: vl a :: r) (S I L) = RunX none F m (pc + len) ls (vl v :: r) (S I L) :=
  Run_stp hf rfl rfl (by
    show (if b = 0 then none else some (pc + len, ls, vl (div64 a b) :: r, S I L)) = _
    rw [if_neg hb, hv])
theorem p_lrem {a b v : Int} (hf : fch (cde m) pc = some (.lrem, len)) (hb : ¬ b = 0) (hv : Int.tmod a b = v) : RunX none F m pc ls (vl b :: vl a :: r) (S I L) = RunX none F m (pc + len) ls (vl v :: r) (S I L) :=
  Run_stp hf rfl rfl (by
    show (if b = 0 then none else some (pc + len, ls, vl (Int.tmod a b) :: r, S I L)) = _
    rw [if_neg hb, hv])
/-- a value gets a name -/
theorem p_nm {a v : Int} {r' : List AV} (h : a = v) : RunX none F m pc ls (vi a :: r') (S I L) = RunX none F m pc ls (vi v :: r') (S I L) := by rw [h]
theorem p_nml {a v : Int} {r' : List AV} (h : a = v) : RunX none F m pc ls (vl a :: r') (S I L) = RunX none F m pc ls (vl v :: r') (S I L) := by rw [h]
theorem p_call {c : Nat} {st as : List AV} {v : Option AV} {I1 L1 : Fn} (hf : fch (cde m) pc = some (.invokestatic c, len)) (hp : popA (nar c) st [] = some (as, r)) (hw : Nat.ble (wsum r) 8 = true) (hc : cok (rcv c) as (S I L) = true) (hF : F c as (S I L) = some (v, S I1 L1)) : RunX none F m pc ls st (S I L) = RunX none F m (pc + len) ls (v.toList ++ r) (S I1 L1) := by
  rw [Run_call hf hp (by rw [hw, hc]; rfl), hF]
  rfl
theorem cok_k {c k n q : Nat} {as : List AV} (hr : rcv c = k + 2) (hk : nth K0 q = some (k, n)) : cok (rcv c) (vr q :: as) (S I L) = true := by
  rw [hr]
  show (match nth K0 q with
    | some (t, _) => Nat.beq t k
    | none => false) = true
  rw [hk]
  exact Nat.beq_refl k
theorem p_copyL {i1 i2 n : Int} {k1 k2 n1 n2 : Nat} (hf : fch (cde m) pc = some (.invokedynamic 2, len)) (hk1 : nth K0 k1 = some (101, n1)) (hk2 : nth K0 k2 = some (101, n2)) (hw : Nat.ble (wsum r) 20 = true) (h9 : 9 ≤ k1 ∧ 9 ≤ k2) (h : (0 ≤ i1 ∧ 0 ≤ i2) ∧ (0 ≤ n ∧ (i1 + n ≤ n1 ∧ i2 + n ≤ n2))) : RunX none F m pc ls (vi n :: vi i2 :: vr k2 :: vi i1 :: vr k1 :: r) (S I L) = RunX none F m (pc + len) ls r (S I (cpy L k1 i1.toNat k2 i2.toNat n.toNat)) :=
  Run_stp hf rfl rfl (by
    simp only [stp, s_copy, hk1, hk2, hw, cond_true]
    exact if_pos ⟨h9, h⟩)
end STEPS
