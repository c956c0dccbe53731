/-! AN ABSTRACT MACHINE (the claim's own): values are whole numbers and numbers of cells; a store is three tables (ints, longs, references) and the list of the cells' kinds. Its instructions are Instr with operands resolved (02: meaning; 03: the programs; 04: sound for the machine). -/
abbrev AV : Type := Int ⊕ (Int ⊕ (Nat ⊕ Nat))
abbrev vi (x : Int) : AV := .inl x
abbrev vl (x : Int) : AV := .inr (.inl x)
abbrev vr (k : Nat) : AV := .inr (.inr (.inl k))
abbrev vn : AV := .inr (.inr (.inr 0))
abbrev vo : AV := .inr (.inr (.inr 1))
abbrev vu : AV := .inr (.inr (.inr 2))
abbrev Sto : Type := (Nat → Nat → Int) × ((Nat → Nat → Int) × ((Nat → Nat → Option Nat) × List (Nat × Nat)))
abbrev Ast : Type := Nat × (List AV × (List AV × Sto))
def w32 (x : Int) : Int := Int.bmod x 4294967296
def w64 (x : Int) : Int := Int.bmod x 18446744073709551616
def up {α : Type} (f : Nat → Nat → α) (k j : Nat) (v : α) : Nat → Nat → α := fun a b => cond (Nat.beq a k && Nat.beq b j) v (f a b)
def zr {α : Type} (f : Nat → Nat → α) (k : Nat) (v : α) : Nat → Nat → α := fun a b => cond (Nat.beq a k) v (f a b)
def cpy {α : Type} (f : Nat → Nat → α) (s sp d dp n : Nat) : Nat → Nat → α := fun a b => cond (Nat.beq a d && (Nat.ble dp b && Nat.ble (b + 1) (dp + n))) (f s (sp + (b - dp))) (f a b)
def nth {α : Type} : List α → Nat → Option α
  | [], _ => none
  | a :: _, 0 => some a
  | _ :: r, i + 1 => nth r i
def wsum : List AV → Nat
  | [] => 0
  | .inr (.inl _) :: r => 2 + wsum r
  | _ :: r => 1 + wsum r
/-- the locals -/
def ldl : List AV → Nat → AV
  | [], _ => vu
  | a :: _, 0 => a
  | _ :: r, i + 1 => ldl r i
def stl : List AV → Nat → AV → List AV
  | [], _, _ => []
  | _ :: r, 0, v => v :: r
  | a :: r, 1, v => (match a with | .inr (.inl _) => vu | _ => a) :: stl r 0 v
  | a :: r, i + 2, v => a :: stl r (i + 1) v
def stu : List AV → Nat → List AV
  | [], _ => []
  | _ :: r, 0 => vu :: r
  | a :: r, i + 1 => a :: stu r i
def cnd : Jvm.ClassFile.Cond → Int → Int → Bool
  | .eq, a, b => decide (a = b)
  | .ne, a, b => decide (¬ a = b)
  | .lt, a, b => decide (a < b)
  | .ge, a, b => decide (b ≤ a)
  | .gt, a, b => decide (b < a)
  | .le, a, b => decide (a ≤ b)
def swt (x : Int) (d : Nat) : List (Int × Int) → Nat
  | [] => d
  | (k, t) :: r => if x = k then t.toNat else swt x d r
def and32 (a b : Int) : Int := (Int32.ofInt a &&& Int32.ofInt b).toInt
def or32 (a b : Int) : Int := (Int32.ofInt a ||| Int32.ofInt b).toInt
def xor32 (a b : Int) : Int := (Int32.ofInt a ^^^ Int32.ofInt b).toInt
def shl32 (a b : Int) : Int := (Int32.ofInt a <<< (Int32.ofInt b &&& 31)).toInt
def shr32 (a b : Int) : Int := (Int32.ofInt a >>> (Int32.ofInt b &&& 31)).toInt
def ush32 (a b : Int) : Int := ((Int32.ofInt a).toUInt32 >>> ((Int32.ofInt b).toUInt32 &&& Int32.toUInt32 31)).toInt32.toInt
def and64 (a b : Int) : Int := (Int64.ofInt a &&& Int64.ofInt b).toInt
def or64 (a b : Int) : Int := (Int64.ofInt a ||| Int64.ofInt b).toInt
def xor64 (a b : Int) : Int := (Int64.ofInt a ^^^ Int64.ofInt b).toInt
def shl64 (a b : Int) : Int := (Int64.ofInt a <<< ((Int32.ofInt b).toInt64 &&& 63)).toInt
def shr64 (a b : Int) : Int := (Int64.ofInt a >>> ((Int32.ofInt b).toInt64 &&& 63)).toInt
def i2b_ (a : Int) : Int := (Int32.ofInt a).toInt8.toInt32.toInt
def i2s_ (a : Int) : Int := (Int32.ofInt a).toInt16.toInt32.toInt
def i2c_ (a : Int) : Int := ((Int32.ofInt a).toUInt32 % 65536).toInt32.toInt
def div32 (a b : Int) : Int := w32 (a.tdiv b)
def div64 (a b : Int) : Int := w64 (a.tdiv b)
/-! the instructions, one by one: the place behind, locals, stack, store -/
def s_ii (f : Int → Int → Int) (n : Nat) (ls : List AV) (st : List AV) (σ : Sto) : Option Ast := match st with
  | .inl b :: .inl a :: r => some (n, ls, vi (f a b) :: r, σ)
  | _ => none
def s_dd (f : Int → Int → Int) (n : Nat) (ls : List AV) (st : List AV) (σ : Sto) : Option Ast := match st with
  | .inl b :: .inl a :: r => if b = 0 then none else some (n, ls, vi (f a b) :: r, σ)
  | _ => none
def s_i1 (f : Int → Int) (n : Nat) (ls : List AV) (st : List AV) (σ : Sto) : Option Ast := match st with
  | .inl a :: r => some (n, ls, vi (f a) :: r, σ)
  | _ => none
def s_ll (f : Int → Int → Int) (n : Nat) (ls : List AV) (st : List AV) (σ : Sto) : Option Ast := match st with
  | .inr (.inl b) :: .inr (.inl a) :: r => some (n, ls, vl (f a b) :: r, σ)
  | _ => none
def s_ldd (f : Int → Int → Int) (n : Nat) (ls : List AV) (st : List AV) (σ : Sto) : Option Ast := match st with
  | .inr (.inl b) :: .inr (.inl a) :: r => if b = 0 then none else some (n, ls, vl (f a b) :: r, σ)
  | _ => none
def s_li (f : Int → Int → Int) (n : Nat) (ls : List AV) (st : List AV) (σ : Sto) : Option Ast := match st with
  | .inl b :: .inr (.inl a) :: r => some (n, ls, vl (f a b) :: r, σ)
  | _ => none
def s_i2l (n : Nat) (ls : List AV) (st : List AV) (σ : Sto) : Option Ast := match st with
  | .inl a :: r => some (n, ls, vl a :: r, σ)
  | _ => none
def s_l2i (n : Nat) (ls : List AV) (st : List AV) (σ : Sto) : Option Ast := match st with
  | .inr (.inl a) :: r => some (n, ls, vi (w32 a) :: r, σ)
  | _ => none
def s_lcmp (n : Nat) (ls : List AV) (st : List AV) (σ : Sto) : Option Ast := match st with
  | .inr (.inl b) :: .inr (.inl a) :: r => some (n, ls, vi (if a < b then -1 else if a = b then 0 else 1) :: r, σ)
  | _ => none
def s_dup (n : Nat) (ls : List AV) (st : List AV) (σ : Sto) : Option Ast := match st with
  | .inl a :: r => some (n, ls, .inl a :: .inl a :: r, σ)
  | .inr (.inr a) :: r => some (n, ls, .inr (.inr a) :: .inr (.inr a) :: r, σ)
  | _ => none
def s_dup2 (n : Nat) (ls : List AV) (st : List AV) (σ : Sto) : Option Ast := match st with
  | .inl a :: .inr (.inr b) :: r => some (n, ls, .inl a :: .inr (.inr b) :: .inl a :: .inr (.inr b) :: r, σ)
  | _ => none
def s_pop (n : Nat) (ls : List AV) (st : List AV) (σ : Sto) : Option Ast := match st with
  | .inl _ :: r => some (n, ls, r, σ)
  | .inr (.inr _) :: r => some (n, ls, r, σ)
  | _ => none
def s_iload (i n : Nat) (ls : List AV) (st : List AV) (σ : Sto) : Option Ast := match ldl ls i with
  | .inl x => some (n, ls, vi x :: st, σ)
  | _ => none
def s_lload (i n : Nat) (ls : List AV) (st : List AV) (σ : Sto) : Option Ast := match ldl ls i with
  | .inr (.inl x) => some (n, ls, vl x :: st, σ)
  | _ => none
def s_aload (i n : Nat) (ls : List AV) (st : List AV) (σ : Sto) : Option Ast := match ldl ls i with
  | .inr (.inr (.inl k)) => some (n, ls, vr k :: st, σ)
  | .inr (.inr (.inr 0)) => some (n, ls, vn :: st, σ)
  | .inr (.inr (.inr 1)) => some (n, ls, vo :: st, σ)
  | _ => none
def s_istore (i n : Nat) (ls : List AV) (st : List AV) (σ : Sto) : Option Ast := match st with
  | .inl x :: r => bif Nat.ble (i + 1) ls.length then some (n, stl ls i (vi x), r, σ) else none
  | _ => none
def s_lstore (i n : Nat) (ls : List AV) (st : List AV) (σ : Sto) : Option Ast := match st with
  | .inr (.inl x) :: r => bif Nat.ble (i + 2) ls.length then some (n, stu (stl ls i (vl x)) (i + 1), r, σ) else none
  | _ => none
def s_astore (i n : Nat) (ls : List AV) (st : List AV) (σ : Sto) : Option Ast := match st with
  | .inr (.inr (.inl k)) :: r => bif Nat.ble (i + 1) ls.length then some (n, stl ls i (vr k), r, σ) else none
  | .inr (.inr (.inr 0)) :: r => bif Nat.ble (i + 1) ls.length then some (n, stl ls i vn, r, σ) else none
  | _ => none
def s_iinc (i : Nat) (c : Int) (n : Nat) (ls : List AV) (st : List AV) (σ : Sto) : Option Ast := match ldl ls i with
  | .inl x => some (n, stl ls i (vi (w32 (x + c))), st, σ)
  | _ => none
def s_ifc (c : Jvm.ClassFile.Cond) (t : Int) (n : Nat) (ls : List AV) (st : List AV) (σ : Sto) : Option Ast := match st with
  | .inl a :: r => some (bif cnd c a 0 then t.toNat else n, ls, r, σ)
  | _ => none
def s_icmp (c : Jvm.ClassFile.Cond) (t : Int) (n : Nat) (ls : List AV) (st : List AV) (σ : Sto) : Option Ast := match st with
  | .inl b :: .inl a :: r => some (bif cnd c a b then t.toNat else n, ls, r, σ)
  | _ => none
def s_ifnull (t : Int) (n : Nat) (ls : List AV) (st : List AV) (σ : Sto) : Option Ast := match st with
  | .inr (.inr (.inl _)) :: r => some (n, ls, r, σ)
  | .inr (.inr (.inr 0)) :: r => some (t.toNat, ls, r, σ)
  | _ => none
def s_ifnonnull (t : Int) (n : Nat) (ls : List AV) (st : List AV) (σ : Sto) : Option Ast := match st with
  | .inr (.inr (.inl _)) :: r => some (t.toNat, ls, r, σ)
  | .inr (.inr (.inr 0)) :: r => some (n, ls, r, σ)
  | _ => none
def s_switch (d : Int) (ps : List (Int × Int)) (ls : List AV) (st : List AV) (σ : Sto) : Option Ast := match st with
  | .inl a :: r => some (swt a d.toNat ps, ls, r, σ)
  | _ => none
def s_iald (X : Option (Nat × (Nat → Int))) (n : Nat) (ls : List AV) (st : List AV) (σ : Sto) : Option Ast := match st with
  | .inl i :: .inr (.inr (.inl k)) :: r => match X with
    | none => match nth σ.2.2.2 k with
      | some (100, m) => if 0 ≤ i ∧ i < m then some (n, ls, vi (σ.1 k i.toNat) :: r, σ) else none
      | _ => none
    | some (m, xs) => if k = 8 then (if 0 ≤ i ∧ i < m then some (n, ls, vi (xs i.toNat) :: r, σ) else none) else none
  | _ => none
def s_alen (X : Option (Nat × (Nat → Int))) (n : Nat) (ls : List AV) (st : List AV) (σ : Sto) : Option Ast := match st with
  | .inr (.inr (.inl k)) :: r => match X with
    | none => match nth σ.2.2.2 k with
      | some (t, m) => if (100 ≤ t ∧ t < 199) ∧ m < 2147483648 then some (n, ls, vi m :: r, σ) else none
      | _ => none
    | some (m, _) => if k = 8 ∧ m < 2147483648 then some (n, ls, vi m :: r, σ) else none
  | _ => none
def s_bald (n : Nat) (ls : List AV) (st : List AV) (σ : Sto) : Option Ast := match st with
  | .inl i :: .inr (.inr (.inl k)) :: r => match nth σ.2.2.2 k with
    | some (102, m) => if 0 ≤ i ∧ i < m then some (n, ls, vi (σ.1 k i.toNat) :: r, σ) else none
    | some (103, m) => if 0 ≤ i ∧ i < m then some (n, ls, vi (σ.1 k i.toNat) :: r, σ) else none
    | _ => none
  | _ => none
def s_lald (n : Nat) (ls : List AV) (st : List AV) (σ : Sto) : Option Ast := match st with
  | .inl i :: .inr (.inr (.inl k)) :: r => match nth σ.2.2.2 k with
    | some (101, m) => if 0 ≤ i ∧ i < m then some (n, ls, vl (σ.2.1 k i.toNat) :: r, σ) else none
    | _ => none
  | _ => none
def avr : Option Nat → AV
  | none => vn
  | some q => vr q
def s_aald (n : Nat) (ls : List AV) (st : List AV) (σ : Sto) : Option Ast := match st with
  | .inl i :: .inr (.inr (.inl k)) :: r => match nth σ.2.2.2 k with
    | some (t, m) => if 110 ≤ t ∧ (0 ≤ i ∧ i < m) then some (n, ls, avr (σ.2.2.1 k i.toNat) :: r, σ) else none
    | _ => none
  | _ => none
def s_iast (n : Nat) (ls : List AV) (st : List AV) (σ : Sto) : Option Ast := match st with
  | .inl x :: .inl i :: .inr (.inr (.inl k)) :: r => match nth σ.2.2.2 k with
    | some (100, m) => if 9 ≤ k ∧ (0 ≤ i ∧ i < m) then some (n, ls, r, (up σ.1 k i.toNat x, σ.2)) else none
    | _ => none
  | _ => none
def s_zast (n : Nat) (ls : List AV) (st : List AV) (σ : Sto) : Option Ast := match st with
  | .inl x :: .inl i :: .inr (.inr (.inl k)) :: r => match nth σ.2.2.2 k with
    | some (102, m) => if (9 ≤ k ∧ (x = 0 ∨ x = 1)) ∧ (0 ≤ i ∧ i < m) then some (n, ls, r, (up σ.1 k i.toNat x, σ.2)) else none
    | _ => none
  | _ => none
def s_last (n : Nat) (ls : List AV) (st : List AV) (σ : Sto) : Option Ast := match st with
  | .inr (.inl x) :: .inl i :: .inr (.inr (.inl k)) :: r => match nth σ.2.2.2 k with
    | some (101, m) => if 9 ≤ k ∧ (0 ≤ i ∧ i < m) then some (n, ls, r, (σ.1, (up σ.2.1 k i.toNat x, σ.2.2))) else none
    | _ => none
  | _ => none
def s_aast (n : Nat) (ls : List AV) (st : List AV) (σ : Sto) : Option Ast := match st with
  | .inr (.inr (.inl q)) :: .inl i :: .inr (.inr (.inl k)) :: r => match nth σ.2.2.2 k, nth σ.2.2.2 q with
    | some (t, m), some (c, _) => if (9 ≤ k ∧ (9 ≤ q ∧ t = 110 + c)) ∧ (c < 12 ∧ (0 ≤ i ∧ i < m)) then some (n, ls, r, (σ.1, (σ.2.1, (up σ.2.2.1 k i.toNat (some q), σ.2.2.2)))) else none
    | _, _ => none
  | _ => none
/-- e: 1000 times the class, 10 times the field's place, the type (0 int, 1 long, 2 reference, 3 boolean) -/
def s_getf (e : Nat) (n : Nat) (ls : List AV) (st : List AV) (σ : Sto) : Option Ast := match st with
  | .inr (.inr (.inl k)) :: r => match nth σ.2.2.2 k with
    | some (c, _) => bif Nat.beq c (e / 1000) then (match e % 10 with
      | 0 => some (n, ls, vi (σ.1 k (e / 10 % 100)) :: r, σ)
      | 1 => some (n, ls, vl (σ.2.1 k (e / 10 % 100)) :: r, σ)
      | 2 => some (n, ls, avr (σ.2.2.1 k (e / 10 % 100)) :: r, σ)
      | 3 => some (n, ls, vi (σ.1 k (e / 10 % 100)) :: r, σ)
      | _ => none) else none
    | _ => none
  | _ => none
def s_putf (e : Nat) (n : Nat) (ls : List AV) (st : List AV) (σ : Sto) : Option Ast := match st with
  | v :: .inr (.inr (.inl k)) :: r => match nth σ.2.2.2 k with
    | some (c, _) => bif Nat.beq c (e / 1000) && Nat.ble 9 k then (match e % 10, v with
      | 0, .inl x => some (n, ls, r, (up σ.1 k (e / 10 % 100) x, σ.2))
      | 2, .inr (.inr (.inl q)) => some (n, ls, r, (σ.1, (σ.2.1, (up σ.2.2.1 k (e / 10 % 100) (some q), σ.2.2.2))))
      | 3, .inl x => if x = 0 ∨ x = 1 then some (n, ls, r, (up σ.1 k (e / 10 % 100) x, σ.2)) else none
      | _, _ => none) else none
    | _ => none
  | _ => none
def mk (σ : Sto) (kd : Nat × Nat) : Sto := (zr σ.1 σ.2.2.2.length 0, (zr σ.2.1 σ.2.2.2.length 0, (zr σ.2.2.1 σ.2.2.2.length none, σ.2.2.2 ++ [kd])))
/-- e: 100 times the class, how many fields -/
def s_new (e n : Nat) (ls : List AV) (st : List AV) (σ : Sto) : Option Ast := if e / 100 < 12 then some (n, ls, vr σ.2.2.2.length :: st, mk σ (e / 100, e % 100)) else none
def s_newa (t n : Nat) (ls : List AV) (st : List AV) (σ : Sto) : Option Ast := match st with
  | .inl x :: r => if 0 ≤ x ∧ x < 1000000 then some (n, ls, vr σ.2.2.2.length :: r, mk σ (t, x.toNat)) else none
  | _ => none
def s_min (n : Nat) (ls : List AV) (st : List AV) (σ : Sto) : Option Ast := match st with
  | .inl b :: .inl a :: r => bif Nat.ble (wsum r) 20 then some (n, ls, vi (if b < a then b else a) :: r, σ) else none
  | _ => none
def s_max (n : Nat) (ls : List AV) (st : List AV) (σ : Sto) : Option Ast := match st with
  | .inl b :: .inl a :: r => bif Nat.ble (wsum r) 20 then some (n, ls, vi (if a < b then b else a) :: r, σ) else none
  | _ => none
def s_oini (n : Nat) (ls : List AV) (st : List AV) (σ : Sto) : Option Ast := match st with
  | .inr (.inr (.inl _)) :: r => bif Nat.ble (wsum r) 20 then some (n, ls, r, σ) else none
  | _ => none
def s_copy (n : Nat) (ls : List AV) (st : List AV) (σ : Sto) : Option Ast := match st with
  | .inl m :: .inl dp :: .inr (.inr (.inl d)) :: .inl sp :: .inr (.inr (.inl s)) :: r => bif Nat.ble (wsum r) 20 then (match nth σ.2.2.2 s, nth σ.2.2.2 d with
    | some (100, ns), some (100, nd) => if (9 ≤ s ∧ 9 ≤ d) ∧ ((0 ≤ sp ∧ 0 ≤ dp) ∧ (0 ≤ m ∧ (sp + m ≤ ns ∧ dp + m ≤ nd))) then some (n, ls, r, (cpy σ.1 s sp.toNat d dp.toNat m.toNat, σ.2)) else none
    | some (101, ns), some (101, nd) => if (9 ≤ s ∧ 9 ≤ d) ∧ ((0 ≤ sp ∧ 0 ≤ dp) ∧ (0 ≤ m ∧ (sp + m ≤ ns ∧ dp + m ≤ nd))) then some (n, ls, r, (σ.1, (cpy σ.2.1 s sp.toNat d dp.toNat m.toNat, σ.2.2))) else none
    | _, _ => none) else none
  | _ => none
def tyNo : Jvm.ClassFile.ArrayType → Nat
  | .int => 100
  | .long => 101
  | .boolean => 102
  | _ => 999
/-- one instruction that is no call and no return; pc, its length len -/
def stp (X : Option (Nat × (Nat → Int))) (ins : Jvm.ClassFile.Instr) (n : Nat) (ls st : List AV) (σ : Sto) : Option Ast := match ins with
  | .iconst v => some (n, ls, vi v :: st, σ)
  | .sipush v => some (n, ls, vl v :: st, σ)
  | .aconst_null => some (n, ls, vn :: st, σ)
  | .nop => some (n, ls, vo :: st, σ)
  | .getstatic c => some (n, ls, vr c :: st, σ)
  | .iload i => s_iload i n ls st σ
  | .lload i => s_lload i n ls st σ
  | .aload i => s_aload i n ls st σ
  | .istore i => s_istore i n ls st σ
  | .lstore i => s_lstore i n ls st σ
  | .astore i => s_astore i n ls st σ
  | .iinc i c => s_iinc i c n ls st σ
  | .iadd => s_ii (fun a b => w32 (a + b)) n ls st σ
  | .isub => s_ii (fun a b => w32 (a - b)) n ls st σ
  | .imul => s_ii (fun a b => w32 (a * b)) n ls st σ
  | .iand => s_ii and32 n ls st σ
  | .ior => s_ii or32 n ls st σ
  | .ixor => s_ii xor32 n ls st σ
  | .ishl => s_ii shl32 n ls st σ
  | .ishr => s_ii shr32 n ls st σ
  | .iushr => s_ii ush32 n ls st σ
  | .idiv => s_dd div32 n ls st σ
  | .irem => s_dd Int.tmod n ls st σ
  | .ineg => s_i1 (fun a => w32 (-a)) n ls st σ
  | .i2b => s_i1 i2b_ n ls st σ
  | .i2s => s_i1 i2s_ n ls st σ
  | .i2c => s_i1 i2c_ n ls st σ
  | .ladd => s_ll (fun a b => w64 (a + b)) n ls st σ
  | .lmul => s_ll (fun a b => w64 (a * b)) n ls st σ
  | .land => s_ll and64 n ls st σ
  | .lor => s_ll or64 n ls st σ
  | .lxor => s_ll xor64 n ls st σ
  | .ldiv => s_ldd div64 n ls st σ
  | .lrem => s_ldd Int.tmod n ls st σ
  | .lshl => s_li shl64 n ls st σ
  | .lshr => s_li shr64 n ls st σ
  | .i2l => s_i2l n ls st σ
  | .l2i => s_l2i n ls st σ
  | .lcmp => s_lcmp n ls st σ
  | .dup => s_dup n ls st σ
  | .dup2 => s_dup2 n ls st σ
  | .pop => s_pop n ls st σ
  | .ifCond c t => s_ifc c t n ls st σ
  | .if_icmp c t => s_icmp c t n ls st σ
  | .ifnull t => s_ifnull t n ls st σ
  | .ifnonnull t => s_ifnonnull t n ls st σ
  | .goto t => some (t.toNat, ls, st, σ)
  | .lookupswitch d ps => s_switch d ps.toList ls st σ
  | .iaload => s_iald X n ls st σ
  | .arraylength => s_alen X n ls st σ
  | .baload => s_bald n ls st σ
  | .laload => s_lald n ls st σ
  | .aaload => s_aald n ls st σ
  | .iastore => s_iast n ls st σ
  | .bastore => s_zast n ls st σ
  | .lastore => s_last n ls st σ
  | .aastore => s_aast n ls st σ
  | .getfield e => s_getf e n ls st σ
  | .putfield e => s_putf e n ls st σ
  | .new e => s_new e n ls st σ
  | .newarray t => s_newa (tyNo t) n ls st σ
  | .anewarray c => s_newa (110 + c) n ls st σ
  | .invokedynamic b => match b with
    | 0 => s_min n ls st σ
    | 1 => s_max n ls st σ
    | 2 => s_copy n ls st σ
    | 3 => s_oini n ls st σ
    | _ => none
  | _ => none
/-! programs: a method's code is a list of (place, instruction, length) -/
abbrev Cde : Type := List (Nat × (Jvm.ClassFile.Instr × Nat))
def fch : Cde → Nat → Option (Jvm.ClassFile.Instr × Nat)
  | [], _ => none
  | (p, q) :: r, pc => bif Nat.beq p pc then some q else fch r pc
/-- n arguments off the stack (its top is the last) -/
def popA : Nat → List AV → List AV → Option (List AV × List AV)
  | 0, st, acc => some (acc, st)
  | n + 1, v :: st, acc => popA n st (v :: acc)
  | _ + 1, [], _ => none
/-- the locals at a method's entry -/
def entA : List AV → List AV
  | [] => []
  | .inr (.inl x) :: r => vl x :: vu :: entA r
  | v :: r => v :: entA r
def padA (n : Nat) (l : List AV) : List AV := l ++ List.replicate (n - l.length) vu
abbrev Ans : Type := Option AV × Sto
abbrev Cal : Type := Nat → List AV → Sto → Option Ans
/-- an answer of a small type: boolean (1), char (2), byte (3) -/
def rok : Nat → Int → Bool
  | 0, _ => true
  | 1, x => decide (x = 0 ∨ x = 1)
  | 2, x => decide (0 ≤ x ∧ x < 65536)
  | _, x => decide (-128 ≤ x ∧ x < 128)
/-- the method's end: some, if the instruction ends it -/
def rets (k : Nat) (ins : Jvm.ClassFile.Instr) (st : List AV) : Option (Option (Option AV)) := match ins with
  | .return_ => some (match st with
    | [] => some none
    | _ => none)
  | .ireturn => some (match st with
    | [.inl x] => bif rok k x then some (some (vi x)) else none
    | _ => none)
  | .lreturn => some (match st with
    | [.inr (.inl x)] => some (some (vl x))
    | _ => none)
  | .areturn => some (match st with
    | [.inr (.inr (.inl q))] => some (some (vr q))
    | [.inr (.inr (.inr 0))] => some (some vn)
    | _ => none)
  | _ => none
def cle (ins : Jvm.ClassFile.Instr) : Option Nat := match ins with
  | .invokestatic c => some c
  | _ => none
/-- the receiver: 0 none is wanted; 1 any object; k + 2 an object of class k -/
def cok (k : Nat) (as : List AV) (σ : Sto) : Bool := match k with
  | 0 => true
  | 1 => match as with
    | .inr (.inr (.inl _)) :: _ => true
    | _ => false
  | k + 2 => match as with
    | .inr (.inr (.inl q)) :: _ => match nth σ.2.2.2 q with
      | some (t, _) => Nat.beq t k
      | none => false
    | _ => false
def exec (cde : Nat → Cde) (nar rkd rcv : Nat → Nat) (X : Option (Nat × (Nat → Int))) (F : Cal) (m : Nat) : Nat → Nat → List AV → List AV → Sto → Option Ans
  | 0, _, _, _, _ => none
  | k + 1, pc, ls, st, σ => match fch (cde m) pc with
    | none => none
    | some (ins, len) => match rets (rkd m) ins st with
      | some v => v.map (fun v => (v, σ))
      | none => match cle ins with
        | some c => match popA (nar c) st [] with
          | none => none
          | some (as, r) => bif Nat.ble (wsum r) 8 && cok (rcv c) as σ then (match F c as σ with
            | none => none
            | some (v, σ1) => exec cde nar rkd rcv X F m k (pc + len) ls (v.toList ++ r) σ1) else none
        | none => match stp X ins (pc + len) ls st σ with
          | none => none
          | some (pc', ls', st', σ') => exec cde nar rkd rcv X F m k pc' ls' st' σ'
