/-! locals that no one reads again may be forgotten -/
def nlI (ins : Jvm.ClassFile.Instr) : Bool := match ins with
  | .iload _ => false
  | .lload _ => false
  | .aload _ => false
  | .istore _ => false
  | .lstore _ => false
  | .astore _ => false
  | .iinc _ _ => false
  | _ => true
def scc (ins : Jvm.ClassFile.Instr) (n : Nat) : List Nat := match ins with
  | .goto t => [t.toNat]
  | .ifCond _ t => [t.toNat, n]
  | .if_icmp _ t => [t.toNat, n]
  | .ifnull t => [t.toNat, n]
  | .ifnonnull t => [t.toNat, n]
  | .lookupswitch d ps => d.toNat :: ps.toList.map (fun q => q.2.toNat)
  | .return_ => []
  | .ireturn => []
  | .lreturn => []
  | .areturn => []
  | _ => [n]
theorem swt_mem (x : Int) (d : Nat) : ∀ l : List (Int × Int), swt x d l ∈ d :: l.map (fun q => q.2.toNat)
  | [] => by simp [swt]
  | (k, t) :: r => by
    have := swt_mem x d r
    simp only [swt]
    split
    · simp
    · simp only [List.mem_cons, List.map_cons] at this ⊢
      rcases this with h | h
      · exact .inl h
      · exact .inr (.inr h)
abbrev NL (f : List AV → Option Ast) (l : List Nat) : Prop := ∀ ls, f ls = (f []).map (fun a => (a.1, (ls, a.2.2))) ∧ ∀ a, f ls = some a → a.1 ∈ l
theorem NL_n {l : List Nat} : NL (fun _ => none) l := fun _ => ⟨rfl, fun _ h => by cases h⟩
theorem NL_s {l : List Nat} {p : Nat} {st : List AV} {σ : Sto} (h : p ∈ l) : NL (fun ls => some (p, ls, st, σ)) l := fun _ => ⟨rfl, fun _ e => by cases e; exact h⟩
theorem NL_i {l : List Nat} {c : Prop} [Decidable c] {f g : List AV → Option Ast} (hf : NL f l) (hg : NL g l) : NL (fun ls => if c then f ls else g ls) l := by
  intro ls
  by_cases h : c
  · simp only [h, if_true]; exact hf ls
  · simp only [h, if_false]; exact hg ls
theorem NL_b {l : List Nat} {c : Bool} {f g : List AV → Option Ast} (hf : NL f l) (hg : NL g l) : NL (fun ls => bif c then f ls else g ls) l := by
  intro ls
  cases c
  · exact hg ls
  · exact hf ls
theorem n_ii (f : Int → Int → Int) (n : Nat) (st : List AV) (σ : Sto) : NL (fun ls => s_ii f n ls st σ) [n] := by
  unfold s_ii
  intro ls
  refine ⟨?_, ?_⟩
  · repeat' split
    all_goals first | rfl | simp_all
  · intro a h
    repeat' split at h
    all_goals first | (cases h; done) | (cases h; exact List.mem_singleton.mpr rfl)
theorem n_dd (f : Int → Int → Int) (n : Nat) (st : List AV) (σ : Sto) : NL (fun ls => s_dd f n ls st σ) [n] := by
  unfold s_dd
  intro ls
  refine ⟨?_, ?_⟩
  · repeat' split
    all_goals first | rfl | simp_all
  · intro a h
    repeat' split at h
    all_goals first | (cases h; done) | (cases h; exact List.mem_singleton.mpr rfl)
theorem n_i1 (f : Int → Int) (n : Nat) (st : List AV) (σ : Sto) : NL (fun ls => s_i1 f n ls st σ) [n] := by
  unfold s_i1
  intro ls
  refine ⟨?_, ?_⟩
  · repeat' split
    all_goals first | rfl | simp_all
  · intro a h
    repeat' split at h
    all_goals first | (cases h; done) | (cases h; exact List.mem_singleton.mpr rfl)
theorem n_ll (f : Int → Int → Int) (n : Nat) (st : List AV) (σ : Sto) : NL (fun ls => s_ll f n ls st σ) [n] := by
  unfold s_ll
  intro ls
  refine ⟨?_, ?_⟩
  · repeat' split
    all_goals first | rfl | simp_all
  · intro a h
    repeat' split at h
    all_goals first | (cases h; done) | (cases h; exact List.mem_singleton.mpr rfl)
theorem n_ldd (f : Int → Int → Int) (n : Nat) (st : List AV) (σ : Sto) : NL (fun ls => s_ldd f n ls st σ) [n] := by
  unfold s_ldd
  intro ls
  refine ⟨?_, ?_⟩
  · repeat' split
    all_goals first | rfl | simp_all
  · intro a h
    repeat' split at h
    all_goals first | (cases h; done) | (cases h; exact List.mem_singleton.mpr rfl)
theorem n_li (f : Int → Int → Int) (n : Nat) (st : List AV) (σ : Sto) : NL (fun ls => s_li f n ls st σ) [n] := by
  unfold s_li
  intro ls
  refine ⟨?_, ?_⟩
  · repeat' split
    all_goals first | rfl | simp_all
  · intro a h
    repeat' split at h
    all_goals first | (cases h; done) | (cases h; exact List.mem_singleton.mpr rfl)
theorem n_i2l  (n : Nat) (st : List AV) (σ : Sto) : NL (fun ls => s_i2l  n ls st σ) [n] := by
  unfold s_i2l
  intro ls
  refine ⟨?_, ?_⟩
  · repeat' split
    all_goals first | rfl | simp_all
  · intro a h
    repeat' split at h
    all_goals first | (cases h; done) | (cases h; exact List.mem_singleton.mpr rfl)
theorem n_l2i  (n : Nat) (st : List AV) (σ : Sto) : NL (fun ls => s_l2i  n ls st σ) [n] := by
  unfold s_l2i
  intro ls
  refine ⟨?_, ?_⟩
  · repeat' split
    all_goals first | rfl | simp_all
  · intro a h
    repeat' split at h
    all_goals first | (cases h; done) | (cases h; exact List.mem_singleton.mpr rfl)
theorem n_lcmp  (n : Nat) (st : List AV) (σ : Sto) : NL (fun ls => s_lcmp  n ls st σ) [n] := by
  unfold s_lcmp
  intro ls
  refine ⟨?_, ?_⟩
  · repeat' split
    all_goals first | rfl | simp_all
  · intro a h
    repeat' split at h
    all_goals first | (cases h; done) | (cases h; exact List.mem_singleton.mpr rfl)
theorem n_dup  (n : Nat) (st : List AV) (σ : Sto) : NL (fun ls => s_dup  n ls st σ) [n] := by
  unfold s_dup
  intro ls
  refine ⟨?_, ?_⟩
  · repeat' split
    all_goals first | rfl | simp_all
  · intro a h
    repeat' split at h
    all_goals first | (cases h; done) | (cases h; exact List.mem_singleton.mpr rfl)
theorem n_dup2  (n : Nat) (st : List AV) (σ : Sto) : NL (fun ls => s_dup2  n ls st σ) [n] := by
  unfold s_dup2
  intro ls
  refine ⟨?_, ?_⟩
  · repeat' split
    all_goals first | rfl | simp_all
  · intro a h
    repeat' split at h
    all_goals first | (cases h; done) | (cases h; exact List.mem_singleton.mpr rfl)
theorem n_pop  (n : Nat) (st : List AV) (σ : Sto) : NL (fun ls => s_pop  n ls st σ) [n] := by
  unfold s_pop
  intro ls
  refine ⟨?_, ?_⟩
  · repeat' split
    all_goals first | rfl | simp_all
  · intro a h
    repeat' split at h
    all_goals first | (cases h; done) | (cases h; exact List.mem_singleton.mpr rfl)
theorem n_iald (X : Option (Nat × (Nat → Int))) (n : Nat) (st : List AV) (σ : Sto) : NL (fun ls => s_iald X n ls st σ) [n] := by
  unfold s_iald
  intro ls
  refine ⟨?_, ?_⟩
  · repeat' split
    all_goals first | rfl | simp_all
  · intro a h
    repeat' split at h
    all_goals first | (cases h; done) | (cases h; exact List.mem_singleton.mpr rfl)
theorem n_alen (X : Option (Nat × (Nat → Int))) (n : Nat) (st : List AV) (σ : Sto) : NL (fun ls => s_alen X n ls st σ) [n] := by
  unfold s_alen
  intro ls
  refine ⟨?_, ?_⟩
  · repeat' split
    all_goals first | rfl | simp_all
  · intro a h
    repeat' split at h
    all_goals first | (cases h; done) | (cases h; exact List.mem_singleton.mpr rfl)
theorem n_bald  (n : Nat) (st : List AV) (σ : Sto) : NL (fun ls => s_bald  n ls st σ) [n] := by
  unfold s_bald
  intro ls
  refine ⟨?_, ?_⟩
  · repeat' split
    all_goals first | rfl | simp_all
  · intro a h
    repeat' split at h
    all_goals first | (cases h; done) | (cases h; exact List.mem_singleton.mpr rfl)
theorem n_lald  (n : Nat) (st : List AV) (σ : Sto) : NL (fun ls => s_lald  n ls st σ) [n] := by
  unfold s_lald
  intro ls
  refine ⟨?_, ?_⟩
  · repeat' split
    all_goals first | rfl | simp_all
  · intro a h
    repeat' split at h
    all_goals first | (cases h; done) | (cases h; exact List.mem_singleton.mpr rfl)
theorem n_aald  (n : Nat) (st : List AV) (σ : Sto) : NL (fun ls => s_aald  n ls st σ) [n] := by
  unfold s_aald
  intro ls
  refine ⟨?_, ?_⟩
  · repeat' split
    all_goals first | rfl | simp_all
  · intro a h
    repeat' split at h
    all_goals first | (cases h; done) | (cases h; exact List.mem_singleton.mpr rfl)
theorem n_iast  (n : Nat) (st : List AV) (σ : Sto) : NL (fun ls => s_iast  n ls st σ) [n] := by
  unfold s_iast
  intro ls
  refine ⟨?_, ?_⟩
  · repeat' split
    all_goals first | rfl | simp_all
  · intro a h
    repeat' split at h
    all_goals first | (cases h; done) | (cases h; exact List.mem_singleton.mpr rfl)
theorem n_zast  (n : Nat) (st : List AV) (σ : Sto) : NL (fun ls => s_zast  n ls st σ) [n] := by
  unfold s_zast
  intro ls
  refine ⟨?_, ?_⟩
  · repeat' split
    all_goals first | rfl | simp_all
  · intro a h
    repeat' split at h
    all_goals first | (cases h; done) | (cases h; exact List.mem_singleton.mpr rfl)
theorem n_last  (n : Nat) (st : List AV) (σ : Sto) : NL (fun ls => s_last  n ls st σ) [n] := by
  unfold s_last
  intro ls
  refine ⟨?_, ?_⟩
  · repeat' split
    all_goals first | rfl | simp_all
  · intro a h
    repeat' split at h
    all_goals first | (cases h; done) | (cases h; exact List.mem_singleton.mpr rfl)
theorem n_aast  (n : Nat) (st : List AV) (σ : Sto) : NL (fun ls => s_aast  n ls st σ) [n] := by
  unfold s_aast
  intro ls
  refine ⟨?_, ?_⟩
  · repeat' split
    all_goals first | rfl | simp_all
  · intro a h
    repeat' split at h
    all_goals first | (cases h; done) | (cases h; exact List.mem_singleton.mpr rfl)
theorem n_getf (e : Nat) (n : Nat) (st : List AV) (σ : Sto) : NL (fun ls => s_getf e n ls st σ) [n] := by
  intro ls
  unfold s_getf
  simp only [cond_eq_ite]
  refine ⟨?_, ?_⟩
  · repeat' split
    all_goals first | rfl | simp_all
  · intro a h
    repeat' split at h
    all_goals first | (cases h; done) | (cases h; exact List.mem_singleton.mpr rfl)
theorem n_putf (e : Nat) (n : Nat) (st : List AV) (σ : Sto) : NL (fun ls => s_putf e n ls st σ) [n] := by
  intro ls
  unfold s_putf
  simp only [cond_eq_ite]
  refine ⟨?_, ?_⟩
  · repeat' split
    all_goals first | rfl | simp_all
  · intro a h
    repeat' split at h
    all_goals first | (cases h; done) | (cases h; exact List.mem_singleton.mpr rfl)
theorem n_new (e : Nat) (n : Nat) (st : List AV) (σ : Sto) : NL (fun ls => s_new e n ls st σ) [n] := by
  unfold s_new
  intro ls
  refine ⟨?_, ?_⟩
  · repeat' split
    all_goals first | rfl | simp_all
  · intro a h
    repeat' split at h
    all_goals first | (cases h; done) | (cases h; exact List.mem_singleton.mpr rfl)
theorem n_newa (t : Nat) (n : Nat) (st : List AV) (σ : Sto) : NL (fun ls => s_newa t n ls st σ) [n] := by
  unfold s_newa
  intro ls
  refine ⟨?_, ?_⟩
  · repeat' split
    all_goals first | rfl | simp_all
  · intro a h
    repeat' split at h
    all_goals first | (cases h; done) | (cases h; exact List.mem_singleton.mpr rfl)
theorem n_min  (n : Nat) (st : List AV) (σ : Sto) : NL (fun ls => s_min  n ls st σ) [n] := by
  unfold s_min
  intro ls
  simp only [cond_eq_ite]
  refine ⟨?_, ?_⟩
  · repeat' split
    all_goals first | rfl | simp_all
  · intro a h
    repeat' split at h
    all_goals first | (cases h; done) | (cases h; exact List.mem_singleton.mpr rfl)
theorem n_max  (n : Nat) (st : List AV) (σ : Sto) : NL (fun ls => s_max  n ls st σ) [n] := by
  unfold s_max
  intro ls
  simp only [cond_eq_ite]
  refine ⟨?_, ?_⟩
  · repeat' split
    all_goals first | rfl | simp_all
  · intro a h
    repeat' split at h
    all_goals first | (cases h; done) | (cases h; exact List.mem_singleton.mpr rfl)
theorem n_oini  (n : Nat) (st : List AV) (σ : Sto) : NL (fun ls => s_oini  n ls st σ) [n] := by
  unfold s_oini
  intro ls
  simp only [cond_eq_ite]
  refine ⟨?_, ?_⟩
  · repeat' split
    all_goals first | rfl | simp_all
  · intro a h
    repeat' split at h
    all_goals first | (cases h; done) | (cases h; exact List.mem_singleton.mpr rfl)
theorem n_copy  (n : Nat) (st : List AV) (σ : Sto) : NL (fun ls => s_copy  n ls st σ) [n] := by
  unfold s_copy
  intro ls
  simp only [cond_eq_ite]
  refine ⟨?_, ?_⟩
  · repeat' split
    all_goals first | rfl | simp_all
  · intro a h
    repeat' split at h
    all_goals first | (cases h; done) | (cases h; exact List.mem_singleton.mpr rfl)
theorem n_br {b : Bool} {t n : Nat} : (bif b then t else n) ∈ [t, n] := by cases b <;> simp
theorem n_ifc (c : Jvm.ClassFile.Cond) (t : Int) (n : Nat) (st : List AV) (σ : Sto) : NL (fun ls => s_ifc c t n ls st σ) [t.toNat, n] := by
  unfold s_ifc
  intro ls
  refine ⟨?_, ?_⟩
  · split <;> rfl
  · intro a h
    split at h
    · cases h; exact n_br
    · cases h
theorem n_icmp (c : Jvm.ClassFile.Cond) (t : Int) (n : Nat) (st : List AV) (σ : Sto) : NL (fun ls => s_icmp c t n ls st σ) [t.toNat, n] := by
  unfold s_icmp
  intro ls
  refine ⟨?_, ?_⟩
  · split <;> rfl
  · intro a h
    split at h
    · cases h; exact n_br
    · cases h
theorem n_ifnull (t : Int) (n : Nat) (st : List AV) (σ : Sto) : NL (fun ls => s_ifnull t n ls st σ) [t.toNat, n] := by
  unfold s_ifnull
  intro ls
  refine ⟨?_, ?_⟩
  · split <;> rfl
  · intro a h
    split at h
    · cases h; simp
    · cases h; simp
    · cases h
theorem n_ifnonnull (t : Int) (n : Nat) (st : List AV) (σ : Sto) : NL (fun ls => s_ifnonnull t n ls st σ) [t.toNat, n] := by
  unfold s_ifnonnull
  intro ls
  refine ⟨?_, ?_⟩
  · split <;> rfl
  · intro a h
    split at h
    · cases h; simp
    · cases h; simp
    · cases h
theorem n_switch (d : Int) (ps : List (Int × Int)) (st : List AV) (σ : Sto) : NL (fun ls => s_switch d ps ls st σ) (d.toNat :: ps.map (fun q => q.2.toNat)) := by
  unfold s_switch
  intro ls
  refine ⟨?_, ?_⟩
  · split <;> rfl
  · intro a h
    split at h
    · cases h; exact swt_mem _ _ _
    · cases h
theorem stp_nl {X : Option (Nat × (Nat → Int))} {ins : Jvm.ClassFile.Instr} (h : nlI ins = true) (n : Nat) (st : List AV) (σ : Sto) : NL (fun ls => stp X ins n ls st σ) (scc ins n) := by
  cases ins
  all_goals first
    | (cases h; done)
    | (intro ls; refine ⟨rfl, ?_⟩; intro a ha; cases ha; done)
    | (intro ls; refine ⟨rfl, ?_⟩; intro a ha; cases ha; exact List.mem_singleton.mpr rfl)
    | exact n_ii _ _ _ _
    | exact n_dd _ _ _ _
    | exact n_i1 _ _ _ _
    | exact n_ll _ _ _ _
    | exact n_ldd _ _ _ _
    | exact n_li _ _ _ _
    | exact n_i2l _ _ _
    | exact n_l2i _ _ _
    | exact n_lcmp _ _ _
    | exact n_dup _ _ _
    | exact n_dup2 _ _ _
    | exact n_pop _ _ _
    | exact n_iald _ _ _ _
    | exact n_alen _ _ _ _
    | exact n_bald _ _ _
    | exact n_lald _ _ _
    | exact n_aald _ _ _
    | exact n_iast _ _ _
    | exact n_zast _ _ _
    | exact n_last _ _ _
    | exact n_aast _ _ _
    | exact n_getf _ _ _ _
    | exact n_putf _ _ _ _
    | exact n_new _ _ _ _
    | exact n_newa _ _ _ _
    | exact n_ifc _ _ _ _ _
    | exact n_icmp _ _ _ _ _
    | exact n_ifnull _ _ _ _
    | exact n_ifnonnull _ _ _ _
    | exact n_switch _ _ _ _
    | skip
  next b =>
    simp only [stp, scc]
    split
    · exact n_min _ _ _
    · exact n_max _ _ _
    · exact n_copy _ _ _
    · exact n_oini _ _ _
    · exact NL_n
/-! which locals are read again: a mask for each place -/
def lvl : List (Nat × Nat) → Nat → Nat
  | [], _ => 0
  | (p, x) :: r, pc => bif Nat.beq p pc then x else lvl r pc
def usm (ins : Jvm.ClassFile.Instr) : Nat := match ins with
  | .iload i => 2 ^ i
  | .lload i => 2 ^ i
  | .aload i => 2 ^ i
  | .iinc i _ => 2 ^ i
  | _ => 0
def dfm (ins : Jvm.ClassFile.Instr) : Nat := match ins with
  | .istore i => 2 ^ i
  | .astore i => 2 ^ i
  | .lstore i => 2 ^ i + 2 ^ (i + 1)
  | _ => 0
def sub (a b : Nat) : Bool := Nat.beq (Nat.lor a b) b
theorem sub_bit {a b : Nat} (h : sub a b = true) {i : Nat} (hi : a.testBit i = true) : b.testBit i = true := by
  have e : a ||| b = b := Nat.eq_of_beq_eq_true h
  rw [← e, Nat.testBit_or, hi]
  rfl
def okL1 (l : List (Nat × Nat)) (q : Nat × (Jvm.ClassFile.Instr × Nat)) : Bool := sub (usm q.2.1) (lvl l q.1) && (scc q.2.1 (q.1 + q.2.2)).all (fun p => sub (lvl l p) (Nat.lor (lvl l q.1) (dfm q.2.1)))
def okL (l : List (Nat × Nat)) (c : Cde) : Bool := c.all (okL1 l)
def Agr (x : Nat) (a b : List AV) : Prop := a.length = b.length ∧ ∀ i, x.testBit i = true → ldl a i = ldl b i
theorem ldl_stlX : ∀ (l : List AV) (i j : Nat) (v : AV), ldl (stl l i v) j = if j = i ∧ i < l.length then v else if j + 1 = i ∧ (match ldl l j with | .inr (.inl _) => true | _ => false) = true then vu else ldl l j
  | [], i, j, v => by cases i <;> cases j <;> simp [stl, ldl]
  | a :: r, 0, 0, v => by simp [stl, ldl]
  | a :: r, 0, j + 1, v => by simp [stl, ldl]
  | a :: r, 1, 0, v => by
    simp only [stl, ldl]
    rcases a with x | x | x | x <;> simp
  | a :: r, 1, j + 1, v => by
    simp only [stl, ldl]
    rw [ldl_stlX r 0 j v]
    simp [Nat.succ_inj]
  | a :: r, i + 2, 0, v => by simp [stl, ldl]
  | a :: r, i + 2, j + 1, v => by
    simp only [stl, ldl]
    rw [ldl_stlX r (i + 1) j v]
    simp only [Nat.succ_inj, List.length_cons, Nat.add_lt_add_iff_right, Nat.add_right_cancel_iff, show i + 2 < r.length + 1 ↔ i + 1 < r.length by omega]
theorem ldl_stuX : ∀ (l : List AV) (i j : Nat), ldl (stu l i) j = if j = i then vu else ldl l j
  | [], i, j => by simp [stu, ldl]
  | a :: r, 0, 0 => by simp [stu, ldl]
  | a :: r, 0, j + 1 => by simp [stu, ldl]
  | a :: r, i + 1, 0 => by simp [stu, ldl]
  | a :: r, i + 1, j + 1 => by
    simp only [stu, ldl]
    rw [ldl_stuX r i j]
    simp [Nat.succ_inj]
theorem len_stlX : ∀ (l : List AV) (i : Nat) (v : AV), (stl l i v).length = l.length
  | [], _, _ => by simp [stl]
  | _ :: r, 0, v => rfl
  | a :: r, 1, v => by simp only [stl, List.length_cons]; rw [len_stlX]
  | a :: r, i + 2, v => by simp only [stl, List.length_cons]; rw [len_stlX]
theorem len_stuX : ∀ (l : List AV) (i : Nat), (stu l i).length = l.length
  | [], _ => rfl
  | _ :: r, 0 => rfl
  | a :: r, i + 1 => by simp only [stu, List.length_cons]; rw [len_stuX]
theorem two_bit {i : Nat} : (2 ^ i).testBit i = true := Nat.testBit_two_pow_self
theorem two_bit2 {i j : Nat} (h : (2 ^ i).testBit j = true) : j = i := by
  rw [Nat.testBit_two_pow] at h
  exact (of_decide_eq_true h).symm
theorem two_bit3 {i j : Nat} (h : (2 ^ i + 2 ^ (i + 1)).testBit j = true) : j = i ∨ j = i + 1 := by
  have e : 2 ^ i + 2 ^ (i + 1) = 2 ^ i * 3 := by rw [Nat.pow_succ]; omega
  rw [e, Nat.testBit_two_pow_mul] at h
  simp only [Bool.and_eq_true, decide_eq_true_eq] at h
  obtain ⟨h1, h2⟩ := h
  have h3 : (3 : Nat) < 2 ^ 2 := by decide
  rcases Nat.lt_or_ge (j - i) 2 with z | z
  · omega
  · rw [Nat.testBit_lt_two_pow (Nat.lt_of_lt_of_le h3 (Nat.pow_le_pow_right (by decide) z))] at h2
    cases h2
theorem Agr_to {x y d : Nat} {a b : List AV} (hs : sub y (Nat.lor x d) = true) (h : Agr x a b) (hd : d = 0) : Agr y a b := by
  subst hd
  refine ⟨h.1, fun i hi => h.2 i ?_⟩
  have := sub_bit hs hi
  have e : Nat.lor x 0 = x := Nat.or_zero x
  rwa [e] at this
theorem Agr_st {x y d i : Nat} {a b : List AV} {v : AV} (hs : sub y (Nat.lor x d) = true) (h : Agr x a b) (hd : d = 2 ^ i) (hl : i < a.length) : Agr y (stl a i v) (stl b i v) := by
  refine ⟨by rw [len_stlX, len_stlX, h.1], fun j hj => ?_⟩
  rw [ldl_stlX, ldl_stlX, ← h.1]
  by_cases e : j = i
  · subst e; simp [hl]
  · have := sub_bit hs hj
    have e2 : (Nat.lor x d).testBit j = (x.testBit j || d.testBit j) := Nat.testBit_or x d j
    rw [e2, Bool.or_eq_true] at this
    rcases this with g | g
    · rw [h.2 j g]
    · exact absurd (two_bit2 (hd ▸ g)) e
theorem Agr_ls {x y d i : Nat} {a b : List AV} {v : AV} (hs : sub y (Nat.lor x d) = true) (h : Agr x a b) (hd : d = 2 ^ i + 2 ^ (i + 1)) (hl : i < a.length) : Agr y (stu (stl a i v) (i + 1)) (stu (stl b i v) (i + 1)) := by
  refine ⟨by rw [len_stuX, len_stuX, len_stlX, len_stlX, h.1], fun j hj => ?_⟩
  rw [ldl_stuX, ldl_stuX, ldl_stlX, ldl_stlX, ← h.1]
  by_cases e : j = i
  · subst e; simp [hl]
  · by_cases e1 : j = i + 1
    · simp [e1]
    · have := sub_bit hs hj
      have e2 : (Nat.lor x d).testBit j = (x.testBit j || d.testBit j) := Nat.testBit_or x d j
      rw [e2, Bool.or_eq_true] at this
      rcases this with g | g
      · rw [h.2 j g]
      · rcases two_bit3 (hd ▸ g) with q | q
        · exact absurd q e
        · exact absurd q e1
/-- the same step, with two rows of locals that agree where it matters -/
def Same (l : List (Nat × Nat)) (o o' : Option Ast) : Prop := (o = none ∧ o' = none) ∨ ∃ p a b st σ, o = some (p, (a, (st, σ))) ∧ o' = some (p, (b, (st, σ))) ∧ Agr (lvl l p) a b
theorem stp_agr {X : Option (Nat × (Nat → Int))} {l : List (Nat × Nat)} {pc len : Nat} {ins : Jvm.ClassFile.Instr} (hk : okL1 l (pc, (ins, len)) = true) {a b : List AV} (h : Agr (lvl l pc) a b) (st : List AV) (σ : Sto) : Same l (stp X ins (pc + len) a st σ) (stp X ins (pc + len) b st σ) := by
  unfold okL1 at hk
  rw [Bool.and_eq_true] at hk
  have hu := hk.1
  have hs := List.all_eq_true.mp hk.2
  clear hk
  cases hn : nlI ins with
  | true =>
    obtain ⟨e1, m1⟩ := stp_nl (X := X) hn (pc + len) st σ a
    obtain ⟨e2, _⟩ := stp_nl (X := X) hn (pc + len) st σ b
    cases ho : stp X ins (pc + len) [] st σ with
    | none =>
      replace e1 : stp X ins (pc + len) a st σ = (stp X ins (pc + len) [] st σ).map (fun z => (z.1, (a, z.2.2))) := e1
      replace e2 : stp X ins (pc + len) b st σ = (stp X ins (pc + len) [] st σ).map (fun z => (z.1, (b, z.2.2))) := e2
      rw [ho] at e1 e2
      exact .inl ⟨e1, e2⟩
    | some q =>
      obtain ⟨p, z, s, t⟩ := q
      replace e1 : stp X ins (pc + len) a st σ = (stp X ins (pc + len) [] st σ).map (fun z => (z.1, (a, z.2.2))) := e1
      replace e2 : stp X ins (pc + len) b st σ = (stp X ins (pc + len) [] st σ).map (fun z => (z.1, (b, z.2.2))) := e2
      rw [ho] at e1 e2
      refine .inr ⟨p, a, b, s, t, e1, e2, ?_⟩
      have hm := m1 _ e1
      have hq := hs _ hm
      refine Agr_to hq h ?_
      cases ins <;> first | rfl | cases hn
  | false =>
    cases ins
    all_goals first | (cases hn; done) | skip
    · next i =>
      have g : ldl a i = ldl b i := h.2 i (sub_bit hu two_bit)
      simp only [stp, s_aload]
      rw [← g]
      have hq := hs (pc + len) (List.mem_singleton.mpr rfl)
      split
      · exact .inr ⟨_, _, _, _, _, rfl, rfl, Agr_to hq h rfl⟩
      · exact .inr ⟨_, _, _, _, _, rfl, rfl, Agr_to hq h rfl⟩
      · exact .inr ⟨_, _, _, _, _, rfl, rfl, Agr_to hq h rfl⟩
      · exact .inl ⟨rfl, rfl⟩
    · next i =>
      have hq := hs (pc + len) (List.mem_singleton.mpr rfl)
      simp only [stp, s_astore]
      rw [← h.1]
      split
      · cases hb : Nat.ble (i + 1) a.length
        · exact .inl ⟨rfl, rfl⟩
        · exact .inr ⟨_, _, _, _, _, rfl, rfl, Agr_st hq h rfl (Nat.le_of_ble_eq_true hb)⟩
      · cases hb : Nat.ble (i + 1) a.length
        · exact .inl ⟨rfl, rfl⟩
        · exact .inr ⟨_, _, _, _, _, rfl, rfl, Agr_st hq h rfl (Nat.le_of_ble_eq_true hb)⟩
      · exact .inl ⟨rfl, rfl⟩
    · next i c =>
      have g : ldl a i = ldl b i := h.2 i (sub_bit hu two_bit)
      have hq := hs (pc + len) (List.mem_singleton.mpr rfl)
      simp only [stp, s_iinc]
      rw [← g]
      split
      · next x hx =>
        refine .inr ⟨_, _, _, _, _, rfl, rfl, ⟨by rw [len_stlX, len_stlX, h.1], fun j hj => ?_⟩⟩
        have g2 := (Agr_to hq h rfl).2 j hj
        rw [ldl_stlX, ldl_stlX, ← h.1]
        rw [g2]
      · exact .inl ⟨rfl, rfl⟩
    · next i =>
      have g : ldl a i = ldl b i := h.2 i (sub_bit hu two_bit)
      have hq := hs (pc + len) (List.mem_singleton.mpr rfl)
      simp only [stp, s_iload]
      rw [← g]
      split
      · exact .inr ⟨_, _, _, _, _, rfl, rfl, Agr_to hq h rfl⟩
      · exact .inl ⟨rfl, rfl⟩
    · next i =>
      have hq := hs (pc + len) (List.mem_singleton.mpr rfl)
      simp only [stp, s_istore]
      rw [← h.1]
      split
      · cases hb : Nat.ble (i + 1) a.length
        · exact .inl ⟨rfl, rfl⟩
        · exact .inr ⟨_, _, _, _, _, rfl, rfl, Agr_st hq h rfl (Nat.le_of_ble_eq_true hb)⟩
      · exact .inl ⟨rfl, rfl⟩
    · next i =>
      have g : ldl a i = ldl b i := h.2 i (sub_bit hu two_bit)
      have hq := hs (pc + len) (List.mem_singleton.mpr rfl)
      simp only [stp, s_lload]
      rw [← g]
      split
      · exact .inr ⟨_, _, _, _, _, rfl, rfl, Agr_to hq h rfl⟩
      · exact .inl ⟨rfl, rfl⟩
    · next i =>
      have hq := hs (pc + len) (List.mem_singleton.mpr rfl)
      simp only [stp, s_lstore]
      rw [← h.1]
      split
      · cases hb : Nat.ble (i + 2) a.length
        · exact .inl ⟨rfl, rfl⟩
        · exact .inr ⟨_, _, _, _, _, rfl, rfl, Agr_ls hq h rfl (by have := Nat.le_of_ble_eq_true hb; omega)⟩
      · exact .inl ⟨rfl, rfl⟩
theorem fch_mem : ∀ {c : Cde} {pc : Nat} {q : Jvm.ClassFile.Instr × Nat}, fch c pc = some q → (pc, q) ∈ c
  | [], _, _, h => by cases h
  | (p, q) :: r, pc, z, h => by
    unfold fch at h
    rw [cond_eq_ite] at h
    split at h
    · next e => cases h; rw [Nat.eq_of_beq_eq_true e]; exact List.mem_cons_self
    · exact List.mem_cons_of_mem _ (fch_mem h)
theorem exec_agr {X : Option (Nat × (Nat → Int))} {F : Cal} {m : Nat} {l : List (Nat × Nat)} (hk : okL l (cde m) = true) : ∀ (n pc : Nat) (a b st : List AV) (σ : Sto), Agr (lvl l pc) a b → exec cde nar rkd rcv X F m n pc a st σ = exec cde nar rkd rcv X F m n pc b st σ
  | 0, _, _, _, _, _, _ => rfl
  | n + 1, pc, a, b, st, σ, h => by
    unfold exec
    cases hf : fch (cde m) pc with
    | none => rfl
    | some q =>
      obtain ⟨ins, len⟩ := q
      have h1 := List.all_eq_true.mp hk _ (fch_mem hf)
      simp only
      cases hv : rets (rkd m) ins st with
      | some v => rfl
      | none =>
        simp only
        cases hc : cle ins with
        | some c =>
          simp only
          have hi : ins = .invokestatic c := by cases ins <;> first | (cases hc; done) | (cases hc; rfl)
          subst hi
          have h2 : Agr (lvl l (pc + len)) a b := by
            unfold okL1 at h1
            rw [Bool.and_eq_true] at h1
            exact Agr_to (List.all_eq_true.mp h1.2 _ (List.mem_singleton.mpr rfl)) h rfl
          cases popA (nar c) st [] with
          | none => rfl
          | some q =>
            obtain ⟨as, r⟩ := q
            simp only
            cases (Nat.ble (wsum r) 8 && cok (rcv c) as σ) with
            | false => rfl
            | true =>
              simp only [cond_true]
              cases F c as σ with
              | none => rfl
              | some q =>
                obtain ⟨v, σ1⟩ := q
                exact exec_agr hk n _ a b _ _ h2
        | none =>
          simp only
          rcases stp_agr (X := X) h1 h st σ with ⟨e1, e2⟩ | ⟨p, a1, b1, s, t, e1, e2, h2⟩
          · rw [e1, e2]
          · rw [e1, e2]
            exact exec_agr hk n p a1 b1 s t h2
theorem Run_agr {X : Option (Nat × (Nat → Int))} {F : Cal} {m : Nat} {l : List (Nat × Nat)} (hk : okL l (cde m) = true) {pc : Nat} {a b st : List AV} {σ : Sto} (h : Agr (lvl l pc) a b) : RunX X F m pc a st σ = RunX X F m pc b st σ := by
  unfold RunX
  congr 1
  funext n
  exact exec_agr hk n pc a b st σ h
/-- the locals that nobody reads are cleared -/
def clr (x : Nat) : Nat → List AV → List AV
  | _, [] => []
  | i, a :: r => (bif x.testBit i then a else vu) :: clr x (i + 1) r
theorem clr_len (x : Nat) : ∀ (i : Nat) (l : List AV), (clr x i l).length = l.length
  | _, [] => rfl
  | i, a :: r => by simp only [clr, List.length_cons]; rw [clr_len]
theorem clr_ldl (x : Nat) : ∀ (i : Nat) (l : List AV) (j : Nat), x.testBit (i + j) = true → ldl l j = ldl (clr x i l) j
  | _, [], _, _ => rfl
  | i, a :: r, 0, h => by
    simp only [clr, ldl]
    rw [show x.testBit i = true from h]
    rfl
  | i, a :: r, j + 1, h => by
    simp only [clr, ldl]
    exact clr_ldl x (i + 1) r j (by rw [show i + 1 + j = i + (j + 1) by omega]; exact h)
theorem Run_clr {X : Option (Nat × (Nat → Int))} {F : Cal} {m : Nat} {l : List (Nat × Nat)} (hk : okL l (cde m) = true) {pc : Nat} {a b st : List AV} {σ : Sto} (h : clr (lvl l pc) 0 a = b) : RunX X F m pc a st σ = RunX X F m pc b st σ := by
  subst h
  exact Run_agr hk ⟨(clr_len _ _ _).symm, fun i hi => clr_ldl _ 0 a i (by rw [Nat.zero_add]; exact hi)⟩
