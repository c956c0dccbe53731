/-! one instruction: the machine follows the abstract machine -/
theorem lk_in {α : Type} {l : List ((Nat × Nat) × α)} {a b : Nat} {x : α} (h : lk l a b = some x) : ((a, b), x) ∈ l := by
  induction l with
  | nil => cases h
  | cons q r ih =>
    obtain ⟨⟨u, v⟩, y⟩ := q
    unfold lk at h
    cases hc : (Nat.beq u a && Nat.beq v b) with
    | true =>
      rw [hc] at h
      rw [Bool.and_eq_true] at hc
      cases h
      rw [← Nat.eq_of_beq_eq_true hc.1, ← Nat.eq_of_beq_eq_true hc.2]
      exact List.mem_cons_self
    | false =>
      rw [hc] at h
      exact List.mem_cons_of_mem _ (ih h)
noncomputable def okP (m : Nat) : Bool := (cde m).all (fun q => match q.2.1 with
  | .putfield e => !(TT (e / 1000) (e / 10 % 100)).2.2.2 || (decide ((mY m).name = "<init>") && decide (mO m = e / 1000))
  | .return_ => decide (mR m = none)
  | .ireturn => decide (mR m = some .int ∨ mR m = some .boolean ∨ mR m = some .char ∨ mR m = some .byte)
  | .lreturn => decide (mR m = some .long)
  | .areturn => match mR m with
    | some (.object _) => true
    | _ => false
  | _ => true)
def Chk : Prop := (∀ m, m < 237 → chkM m = true ∧ okP m = true) ∧ (∀ m, m < nM → okM m = true) ∧ (∀ q ∈ ftab, okF q.1.1 q.1.2 q.2.1 q.2.2 = true) ∧ (∀ q ∈ ktab, okK q.1.1 q.1.2 q.2.1 q.2.2.1 q.2.2.2 = true) ∧
  (∀ q ∈ gtab, okG q.1.1 q.1.2 q.2.1 q.2.2.1 q.2.2.2 = true) ∧ (∀ q ∈ ctab, okC q.1.1 q.1.2 q.2.1 q.2.2.1 q.2.2.2 = true) ∧ (∀ q ∈ ntab, okN q.1.1 q.1.2 q.2.1 q.2.2 = true) ∧ (∀ q ∈ atab, okA q.1.1 q.1.2 q.2.1 q.2.2 = true) ∧ (∀ c, c < 12 → okT c = true)
theorem fch_in : ∀ {l : Cde} {pc : Nat} {q : Jvm.ClassFile.Instr × Nat}, fch l pc = some q → (pc, q) ∈ l
  | [], pc, q, h => by cases h
  | (u, v) :: r, pc, q, h => by
    unfold fch at h
    cases hc : Nat.beq u pc with
    | true =>
      rw [hc] at h
      cases h
      rw [← Nat.eq_of_beq_eq_true hc]
      exact List.mem_cons_self
    | false =>
      rw [hc] at h
      exact List.mem_cons_of_mem _ (fch_in h)
def isSw : Jvm.ClassFile.Instr → Bool
  | .tableswitch .. => true
  | .lookupswitch .. => true
  | _ => false
theorem chk_at (C : Chk) {mi pc len : Nat} {ins : Jvm.ClassFile.Instr} (hm : mi < 237) (hf : fch (cde mi) pc = some (ins, len)) : ∃ raw n, decode (mB mi) pc = .ok (raw, n) ∧ lenOk raw n = true ∧ (isSw raw = true ∨ n = len) ∧ rsv (mO mi) pc raw = some ins := by
  have h := List.all_eq_true.mp (C.1 mi hm).1 _ (fch_in hf)
  unfold chkI at h
  cases hd : decode (mB mi) pc with
  | error z => rw [hd] at h; cases h
  | ok q =>
    obtain ⟨raw, n⟩ := q
    rw [hd] at h
    simp only [Bool.and_eq_true, decide_eq_true_eq] at h
    refine ⟨raw, n, rfl, h.1.1, ?_, h.2⟩
    have h2 := h.1.2
    cases raw <;> first | exact Or.inl rfl | exact Or.inr (Nat.eq_of_beq_eq_true h2)
section STEPX
variable {p : Program} {l : Launch} {e : Jvm.Env} {R : Room} {s : State} {m : MethodId} {args : Array Value} {below : List Frame} {meth : Method} {c : Code} {Q : State → Prop}
variable {base : Nat} {adc : Nat → Nat} {D : va_G} {mi d nc0 ks0 : Nat} {X : Option (Nat × (Nat → Int))}
def CtX (p : Program) (R : Room) (s : State) (m : MethodId) (args : Array Value) (meth : Method) (c : Code) (base : Nat) (adc : Nat → Nat) (mi d nc0 : Nat) (X : Option (Nat × (Nat → Int))) : Prop :=
  p.tables.exec = Jvm.exec ∧ c.code = mB mi ∧ c.maxLocals = mL mi ∧ s.vm.findClass (cn (mO mi)) = some m.cls ∧ (∀ w ∈ W0, w.before args s = true) ∧ EnvX base adc s s.heap ∧ (9 ≤ nc0 ∧ s.heap.size = base + (nc0 - 9) ∧ mL mi ≤ 40) ∧ R.frames = d + 1 ∧ 64 * (d + 1) ≤ R.locals ∧
  (∀ n xs, X = some (n, xs) → ∃ ys : Nat → Int32, (∀ j, (ys j).toInt = xs j) ∧ va_X (adc 8) n ys s s.heap ∧ adc 8 < s.heap.size ∧ ¬ base ≤ adc 8) ∧ ((mY mi).name = "<init>" → meth.name = "<init>")
def AtX (s : State) (base : Nat) (adc : Nat → Nat) (D : va_G) (mi nc0 ks0 : Nat) (H : Heap) (locs : List Loc) (cells slots : Nat) (ls : Array Slot) (st : List Value) (al ast : List AV) (σ : Sto) : Prop :=
  LR (adr base adc) ls (mL mi) al ∧ SR (adr base adc) ast st ∧ HR base adc D s σ H ∧ va_S (fun q => base ≤ q) s.heap H locs ∧ cells + nc0 = σ.2.2.2.length ∧ slots + ks0 = ksum σ.2.2.2
def WX (p : Program) (l : Launch) (e : Jvm.Env) (R : Room) (s : State) (m : MethodId) (args : Array Value) (below : List Frame) (meth : Method) (c : Code) (Q : State → Prop) (base : Nat) (adc : Nat → Nat) (D : va_G) (mi nc0 ks0 : Nat) (pc : Nat) (al ast : List AV) (σ : Sto) : Prop :=
  ∀ (H : Heap) (locs : List Loc) (cells slots : Nat) (ls : Array Slot) (st : List Value), AtX s base adc D mi nc0 ks0 H locs cells slots ls st al ast σ → W p l e R s m args below meth c H locs cells slots Q (F0 m pc ls st)
/-- a row of the machine that changes the stack alone -/
def RowS (p : Program) (l : Launch) (e : Jvm.Env) (R : Room) (s : State) (m : MethodId) (args : Array Value) (below : List Frame) (meth : Method) (c : Code) (Q : State → Prop) (pc n : Nat) (u v : List Value) : Prop :=
  ∀ (H : Heap) (locs : List Loc) (cells slots : Nat) (ls : Array Slot) (rest : List Value), W p l e R s m args below meth c H locs cells slots Q (F0 m n ls (v ++ rest)) → W p l e R s m args below meth c H locs cells slots Q (F0 m pc ls (u ++ rest))
variable {pc n pc' : Nat} {al al' ast ast' : List AV} {σ σ' : Sto}
theorem w_ii {f : Int → Int → Int} {g : Int32 → Int32 → Int32} (hs : s_ii f n al ast σ = some (pc', al', ast', σ')) (hfg : ∀ x y, (g x y).toInt = f x.toInt y.toInt) (row : ∀ x y, RowS p l e R s m args below meth c Q pc n [.int y, .int x] [.int (g x y)])
    (K : WX p l e R s m args below meth c Q base adc D mi nc0 ks0 pc' al' ast' σ') : WX p l e R s m args below meth c Q base adc D mi nc0 ks0 pc al ast σ := by
  intro H locs cells slots ls st ⟨hL, hS, hH, hV, hc, hk⟩
  unfold s_ii at hs
  split at hs
  · cases hs
    obtain ⟨y, st, rfl, rfl, hS1⟩ := SR_i hS
    obtain ⟨x, st, rfl, rfl, hS2⟩ := SR_i hS1
    exact row x y _ _ _ _ _ _ (K _ _ _ _ _ _ ⟨hL, ⟨hfg x y, hS2⟩, hH, hV, hc, hk⟩)
  · cases hs
theorem w_dd {f : Int → Int → Int} {g : Int32 → Int32 → Int32} (hs : s_dd f n al ast σ = some (pc', al', ast', σ')) (hfg : ∀ x y, (g x y).toInt = f x.toInt y.toInt) (row : ∀ x y, ¬ y = 0 → RowS p l e R s m args below meth c Q pc n [.int y, .int x] [.int (g x y)])
    (K : WX p l e R s m args below meth c Q base adc D mi nc0 ks0 pc' al' ast' σ') : WX p l e R s m args below meth c Q base adc D mi nc0 ks0 pc al ast σ := by
  intro H locs cells slots ls st ⟨hL, hS, hH, hV, hc, hk⟩
  unfold s_dd at hs
  split at hs
  · obtain ⟨y, st, rfl, rfl, hS0⟩ := SR_i hS
    obtain ⟨x, st, rfl, rfl, hS1⟩ := SR_i hS0
    split at hs
    · cases hs
    · next h0 =>
      cases hs
      exact row x y (fun q => h0 (by rw [q]; rfl)) _ _ _ _ _ _ (K _ _ _ _ _ _ ⟨hL, ⟨hfg x y, hS1⟩, hH, hV, hc, hk⟩)
  · cases hs
theorem w_i1 {f : Int → Int} {g : Int32 → Int32} (hs : s_i1 f n al ast σ = some (pc', al', ast', σ')) (hfg : ∀ x, (g x).toInt = f x.toInt) (row : ∀ x, RowS p l e R s m args below meth c Q pc n [.int x] [.int (g x)])
    (K : WX p l e R s m args below meth c Q base adc D mi nc0 ks0 pc' al' ast' σ') : WX p l e R s m args below meth c Q base adc D mi nc0 ks0 pc al ast σ := by
  intro H locs cells slots ls st ⟨hL, hS, hH, hV, hc, hk⟩
  unfold s_i1 at hs
  split at hs
  · cases hs
    obtain ⟨x, st, rfl, rfl, hS1⟩ := SR_i hS
    exact row x _ _ _ _ _ _ (K _ _ _ _ _ _ ⟨hL, ⟨hfg x, hS1⟩, hH, hV, hc, hk⟩)
  · cases hs
theorem w_ll {f : Int → Int → Int} {g : Int64 → Int64 → Int64} (hs : s_ll f n al ast σ = some (pc', al', ast', σ')) (hfg : ∀ x y, (g x y).toInt = f x.toInt y.toInt) (row : ∀ x y, RowS p l e R s m args below meth c Q pc n [.long y, .long x] [.long (g x y)])
    (K : WX p l e R s m args below meth c Q base adc D mi nc0 ks0 pc' al' ast' σ') : WX p l e R s m args below meth c Q base adc D mi nc0 ks0 pc al ast σ := by
  intro H locs cells slots ls st ⟨hL, hS, hH, hV, hc, hk⟩
  unfold s_ll at hs
  split at hs
  · cases hs
    obtain ⟨y, st, rfl, rfl, hS1⟩ := SR_l hS
    obtain ⟨x, st, rfl, rfl, hS2⟩ := SR_l hS1
    exact row x y _ _ _ _ _ _ (K _ _ _ _ _ _ ⟨hL, ⟨hfg x y, hS2⟩, hH, hV, hc, hk⟩)
  · cases hs
theorem w_ldd {f : Int → Int → Int} {g : Int64 → Int64 → Int64} (hs : s_ldd f n al ast σ = some (pc', al', ast', σ')) (hfg : ∀ x y, (g x y).toInt = f x.toInt y.toInt) (row : ∀ x y, ¬ y = 0 → RowS p l e R s m args below meth c Q pc n [.long y, .long x] [.long (g x y)])
    (K : WX p l e R s m args below meth c Q base adc D mi nc0 ks0 pc' al' ast' σ') : WX p l e R s m args below meth c Q base adc D mi nc0 ks0 pc al ast σ := by
  intro H locs cells slots ls st ⟨hL, hS, hH, hV, hc, hk⟩
  unfold s_ldd at hs
  split at hs
  · obtain ⟨y, st, rfl, rfl, hS0⟩ := SR_l hS
    obtain ⟨x, st, rfl, rfl, hS1⟩ := SR_l hS0
    split at hs
    · cases hs
    · next h0 =>
      cases hs
      exact row x y (fun q => h0 (by rw [q]; rfl)) _ _ _ _ _ _ (K _ _ _ _ _ _ ⟨hL, ⟨hfg x y, hS1⟩, hH, hV, hc, hk⟩)
  · cases hs
theorem w_li {f : Int → Int → Int} {g : Int64 → Int32 → Int64} (hs : s_li f n al ast σ = some (pc', al', ast', σ')) (hfg : ∀ x y, (g x y).toInt = f x.toInt y.toInt) (row : ∀ x y, RowS p l e R s m args below meth c Q pc n [.int y, .long x] [.long (g x y)])
    (K : WX p l e R s m args below meth c Q base adc D mi nc0 ks0 pc' al' ast' σ') : WX p l e R s m args below meth c Q base adc D mi nc0 ks0 pc al ast σ := by
  intro H locs cells slots ls st ⟨hL, hS, hH, hV, hc, hk⟩
  unfold s_li at hs
  split at hs
  · cases hs
    obtain ⟨y, st, rfl, rfl, hS1⟩ := SR_i hS
    obtain ⟨x, st, rfl, rfl, hS2⟩ := SR_l hS1
    exact row x y _ _ _ _ _ _ (K _ _ _ _ _ _ ⟨hL, ⟨hfg x y, hS2⟩, hH, hV, hc, hk⟩)
  · cases hs
/-- what pushes one value -/
theorem w_push {a : AV} {v : Value} (hs : some (n, al, a :: ast, σ) = some (pc', al', ast', σ')) (hv : VR (adr base adc) a v) (row : RowS p l e R s m args below meth c Q pc n [] [v])
    (K : WX p l e R s m args below meth c Q base adc D mi nc0 ks0 pc' al' ast' σ') : WX p l e R s m args below meth c Q base adc D mi nc0 ks0 pc al ast σ := by
  intro H locs cells slots ls st ⟨hL, hS, hH, hV, hc, hk⟩
  cases hs
  exact row _ _ _ _ _ _ (K _ _ _ _ _ _ ⟨hL, ⟨hv, hS⟩, hH, hV, hc, hk⟩)
theorem w_iload {i : Nat} (hs : s_iload i n al ast σ = some (pc', al', ast', σ')) (row : ∀ (x : Int32) H locs cells slots (ls : Array Slot) rest, ls[i]? = some (.val (.int x)) → W p l e R s m args below meth c H locs cells slots Q (F0 m n ls (.int x :: rest)) → W p l e R s m args below meth c H locs cells slots Q (F0 m pc ls rest))
    (K : WX p l e R s m args below meth c Q base adc D mi nc0 ks0 pc' al' ast' σ') : WX p l e R s m args below meth c Q base adc D mi nc0 ks0 pc al ast σ := by
  intro H locs cells slots ls st ⟨hL, hS, hH, hV, hc, hk⟩
  unfold s_iload at hs
  split at hs
  · next h =>
    cases hs
    obtain ⟨w, h1, h2⟩ := hL.ld h (fun q => by cases q)
    obtain ⟨y, rfl, rfl⟩ := VR_i h2
    exact row y _ _ _ _ _ _ h1 (K _ _ _ _ _ _ ⟨hL, ⟨rfl, hS⟩, hH, hV, hc, hk⟩)
  · cases hs
theorem w_lload {i : Nat} (hs : s_lload i n al ast σ = some (pc', al', ast', σ')) (row : ∀ (x : Int64) H locs cells slots (ls : Array Slot) rest, ls[i]? = some (.val (.long x)) → W p l e R s m args below meth c H locs cells slots Q (F0 m n ls (.long x :: rest)) → W p l e R s m args below meth c H locs cells slots Q (F0 m pc ls rest))
    (K : WX p l e R s m args below meth c Q base adc D mi nc0 ks0 pc' al' ast' σ') : WX p l e R s m args below meth c Q base adc D mi nc0 ks0 pc al ast σ := by
  intro H locs cells slots ls st ⟨hL, hS, hH, hV, hc, hk⟩
  unfold s_lload at hs
  split at hs
  · next h =>
    cases hs
    obtain ⟨w, h1, h2⟩ := hL.ld h (fun q => by cases q)
    obtain ⟨y, rfl, rfl⟩ := VR_l h2
    exact row y _ _ _ _ _ _ h1 (K _ _ _ _ _ _ ⟨hL, ⟨rfl, hS⟩, hH, hV, hc, hk⟩)
  · cases hs
theorem w_aload {i : Nat} (hs : s_aload i n al ast σ = some (pc', al', ast', σ')) (row : ∀ (x : Nat) H locs cells slots (ls : Array Slot) rest, ls[i]? = some (.val (.ref x)) → W p l e R s m args below meth c H locs cells slots Q (F0 m n ls (.ref x :: rest)) → W p l e R s m args below meth c H locs cells slots Q (F0 m pc ls rest))
    (rowN : ∀ H locs cells slots (ls : Array Slot) rest, ls[i]? = some (.val .null) → W p l e R s m args below meth c H locs cells slots Q (F0 m n ls (.null :: rest)) → W p l e R s m args below meth c H locs cells slots Q (F0 m pc ls rest))
    (K : WX p l e R s m args below meth c Q base adc D mi nc0 ks0 pc' al' ast' σ') : WX p l e R s m args below meth c Q base adc D mi nc0 ks0 pc al ast σ := by
  intro H locs cells slots ls st ⟨hL, hS, hH, hV, hc, hk⟩
  unfold s_aload at hs
  split at hs
  · next h =>
    cases hs
    obtain ⟨w, h1, h2⟩ := hL.ld h (fun q => by cases q)
    rw [VR_r h2] at h1
    exact row _ _ _ _ _ _ _ h1 (K _ _ _ _ _ _ ⟨hL, ⟨rfl, hS⟩, hH, hV, hc, hk⟩)
  · next h =>
    cases hs
    obtain ⟨w, h1, h2⟩ := hL.ld h (fun q => by cases q)
    rw [VR_n h2] at h1
    exact rowN _ _ _ _ _ _ h1 (K _ _ _ _ _ _ ⟨hL, ⟨trivial, hS⟩, hH, hV, hc, hk⟩)
  · next h =>
    cases hs
    obtain ⟨w, h1, h2⟩ := hL.ld h (fun q => by cases q)
    rcases VR_o h2 with rfl | ⟨a, rfl⟩
    · exact rowN _ _ _ _ _ _ h1 (K _ _ _ _ _ _ ⟨hL, ⟨trivial, hS⟩, hH, hV, hc, hk⟩)
    · exact row _ _ _ _ _ _ _ h1 (K _ _ _ _ _ _ ⟨hL, ⟨trivial, hS⟩, hH, hV, hc, hk⟩)
  · cases hs
/-- a row that stores a value of one slot -/
def RowSt (p : Program) (l : Launch) (e : Jvm.Env) (R : Room) (s : State) (m : MethodId) (args : Array Value) (below : List Frame) (meth : Method) (c : Code) (Q : State → Prop) (pc n i nL : Nat) (v : Value) : Prop :=
  ∀ (H : Heap) (locs : List Loc) (cells slots : Nat) (ls : Array Slot) (rest : List Value) (lv lv' : List (Nat × Value)), lv_has ls nL lv → i < nL → (i, v) :: lv.filter (fun q => !(q.1 == i) && !(q.1 + 1 == i && q.2.category == 2)) = lv' →
    (∀ ls' : Array Slot, lv_has ls' nL lv' → W p l e R s m args below meth c H locs cells slots Q (F0 m n ls' rest)) → W p l e R s m args below meth c H locs cells slots Q (F0 m pc ls (v :: rest))
theorem w_istore {i : Nat} (hs : s_istore i n al ast σ = some (pc', al', ast', σ')) (row : ∀ x, RowSt p l e R s m args below meth c Q pc n i (mL mi) (.int x))
    (K : WX p l e R s m args below meth c Q base adc D mi nc0 ks0 pc' al' ast' σ') : WX p l e R s m args below meth c Q base adc D mi nc0 ks0 pc al ast σ := by
  intro H locs cells slots ls st ⟨hL, hS, hH, hV, hc, hk⟩
  unfold s_istore at hs
  split at hs
  · rw [nble] at hs
    by_cases hi : i + 1 ≤ al.length
    · rw [decide_eq_true hi] at hs
      cases hs
      obtain ⟨x, st, rfl, rfl, hS1⟩ := SR_i hS
      obtain ⟨lv, h1, h2⟩ := hL
      have hi : i < mL mi := by rw [← h2.1]; omega
      exact row x _ _ _ _ _ _ lv _ h1 hi rfl (fun ls' h' => K _ _ _ _ _ _ ⟨⟨_, h', h2.st1 hi rfl⟩, hS1, hH, hV, hc, hk⟩)
    · rw [decide_eq_false hi] at hs; cases hs
  · cases hs
theorem w_astore {i : Nat} (hs : s_astore i n al ast σ = some (pc', al', ast', σ')) (row : ∀ x, RowSt p l e R s m args below meth c Q pc n i (mL mi) (.ref x)) (rowN : RowSt p l e R s m args below meth c Q pc n i (mL mi) .null)
    (K : WX p l e R s m args below meth c Q base adc D mi nc0 ks0 pc' al' ast' σ') : WX p l e R s m args below meth c Q base adc D mi nc0 ks0 pc al ast σ := by
  intro H locs cells slots ls st ⟨hL, hS, hH, hV, hc, hk⟩
  unfold s_astore at hs
  split at hs
  · rw [nble] at hs
    by_cases hi : i + 1 ≤ al.length
    · rw [decide_eq_true hi] at hs
      cases hs
      obtain ⟨st, rfl, hS1⟩ := SR_r hS
      obtain ⟨lv, h1, h2⟩ := hL
      have hi : i < mL mi := by rw [← h2.1]; omega
      exact row _ _ _ _ _ _ _ lv _ h1 hi rfl (fun ls' h' => K _ _ _ _ _ _ ⟨⟨_, h', h2.st1 hi rfl⟩, hS1, hH, hV, hc, hk⟩)
    · rw [decide_eq_false hi] at hs; cases hs
  · rw [nble] at hs
    by_cases hi : i + 1 ≤ al.length
    · rw [decide_eq_true hi] at hs
      cases hs
      obtain ⟨st, rfl, hS2⟩ := SR_n hS
      obtain ⟨lv, h1, h2⟩ := hL
      have hi : i < mL mi := by rw [← h2.1]; omega
      exact rowN _ _ _ _ _ _ lv _ h1 hi rfl (fun ls' h' => K _ _ _ _ _ _ ⟨⟨_, h', h2.st1 hi trivial⟩, hS2, hH, hV, hc, hk⟩)
    · rw [decide_eq_false hi] at hs; cases hs
  · cases hs
theorem w_lstore {i : Nat} (hs : s_lstore i n al ast σ = some (pc', al', ast', σ')) (row : ∀ (x : Int64) (H : Heap) (locs : List Loc) (cells slots : Nat) (ls : Array Slot) (rest : List Value) (lv lv' : List (Nat × Value)), lv_has ls (mL mi) lv → i + 1 < mL mi → (i, Value.long x) :: lv.filter (fun q => !(q.1 == i) && (!(q.1 == i + 1) && !(q.1 + 1 == i && q.2.category == 2))) = lv' →
    (∀ ls' : Array Slot, lv_has ls' (mL mi) lv' → W p l e R s m args below meth c H locs cells slots Q (F0 m n ls' rest)) → W p l e R s m args below meth c H locs cells slots Q (F0 m pc ls (.long x :: rest)))
    (K : WX p l e R s m args below meth c Q base adc D mi nc0 ks0 pc' al' ast' σ') : WX p l e R s m args below meth c Q base adc D mi nc0 ks0 pc al ast σ := by
  intro H locs cells slots ls st ⟨hL, hS, hH, hV, hc, hk⟩
  unfold s_lstore at hs
  split at hs
  · rw [nble] at hs
    by_cases hi : i + 2 ≤ al.length
    · rw [decide_eq_true hi] at hs
      cases hs
      obtain ⟨x, st, rfl, rfl, hS1⟩ := SR_l hS
      obtain ⟨lv, h1, h2⟩ := hL
      have hi : i + 1 < mL mi := by rw [← h2.1]; omega
      exact row x _ _ _ _ _ _ lv _ h1 hi rfl (fun ls' h' => K _ _ _ _ _ _ ⟨⟨_, h', h2.st2 hi rfl⟩, hS1, hH, hV, hc, hk⟩)
    · rw [decide_eq_false hi] at hs; cases hs
  · cases hs
theorem w_iinc (hx : p.tables.exec = Jvm.exec) (hb : c.code = mB mi) {i : Nat} {k : Int} (hs : s_iinc i k n al ast σ = some (pc', al', ast', σ')) (hn : n = pc + 3) (hk9 : -128 ≤ k ∧ k < 128) (hdg : decode (mB mi) pc = .ok (.iinc i k, 3))
    (K : WX p l e R s m args below meth c Q base adc D mi nc0 ks0 pc' al' ast' σ') : WX p l e R s m args below meth c Q base adc D mi nc0 ks0 pc al ast σ := by
  intro H locs cells slots ls st ⟨hL, hS, hH, hV, hc, hk⟩
  subst hn
  unfold s_iinc at hs
  split at hs
  · next h =>
    cases hs
    obtain ⟨lv, h1, h2⟩ := hL
    obtain ⟨w, z1, z2⟩ := h2.ld h (fun q => by cases q)
    obtain ⟨x, rfl, rfl⟩ := VR_i z2
    obtain ⟨q, hq⟩ := List.getElem?_of_mem z1
    have hi : i < mL mi := by
      have := h1.2.2 _ z1
      rw [← h1.1]
      exact (Array.getElem?_eq_some_iff.mp this).1
    refine lv_iinc hx hb hdg h1 hq rfl hi rfl (fun ls' h' => K _ _ _ _ _ _ ⟨⟨_, h', h2.st1 hi ?_⟩, hS, hH, hV, hc, hk⟩)
    show (x + Int32.ofInt k).toInt = w32 (x.toInt + k)
    rw [toI_add, Int32.toInt_ofInt_of_le (by omega) (by omega)]
  · cases hs
end STEPX
