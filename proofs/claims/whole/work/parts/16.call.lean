/-! calls, ends, and the whole: what the abstract machine says holds of the machine -/
def OR (ad : Nat → Nat) : Option AV → Option Value → Prop
  | none, none => True
  | some a, some v => VR ad a v
  | _, _ => False
def PcX (base : Nat) (adc : Nat → Nat) (D : va_G) (as : List AV) (σ : Sto) : Array Value → State → Prop := fun v U => ∃ vs : List Value, v = vs.toArray ∧ SR (adr base adc) as vs ∧ HR base adc D U σ U.heap ∧ EnvX base adc U U.heap ∧ U.heap.size = base + (σ.2.2.2.length - 9)
def QcX (base : Nat) (adc : Nat → Nat) (D : va_G) (r : Option AV) (σ' : Sto) : Array Value → State → Outcome → State → Prop := fun _ st oc t => (∃ rv : Option Value, oc = .returned rv ∧ OR (adr base adc) r rv ∧ HR base adc D t σ' t.heap) ∧ va_F (fun q => base ≤ q) st t
def Mono (σ σ' : Sto) : Prop := σ.2.2.2.length ≤ σ'.2.2.2.length ∧ ksum σ.2.2.2 ≤ ksum σ'.2.2.2
theorem Mono.rfl {σ : Sto} : Mono σ σ := ⟨Nat.le_refl _, Nat.le_refl _⟩
theorem Mono.trans {a b c : Sto} (h : Mono a b) (k : Mono b c) : Mono a c := ⟨Nat.le_trans h.1 k.1, Nat.le_trans h.2 k.2⟩
def Snd (l : Launch) (base : Nat) (adc : Nat → Nat) (D : va_G) (d : Nat) (F : Cal) : Prop := ∀ m as σ r σ', m < nM → F m as σ = some (r, σ') → Mono σ σ' ∧ (9 ≤ σ.2.2.2.length →
  Met l (mY m) (wsm m) (rmX d (σ'.2.2.2.length - σ.2.2.2.length) (ksum σ'.2.2.2 - ksum σ.2.2.2)) (PcX base adc D as σ) (QcX base adc D r σ') (σ'.2.2.2.length - σ.2.2.2.length) (ksum σ'.2.2.2 - ksum σ.2.2.2) (fun q => base ≤ q))
theorem PcX_blind {base : Nat} {adc : Nat → Nat} {D : va_G} {as : List AV} {σ : Sto} : FrameBlind (PcX base adc D as σ) := by
  intro a U g mk ⟨vs, h1, h2, h3, h4, h5⟩
  exact ⟨vs, h1, h2, HR.moved (u := U) (U := U.calling g mk a) h3 (Vm.Alike.refl U.vm), EnvX.frame (u := U) (U := U.calling g mk a) h4 rfl, h5⟩
theorem good_W0 {ws : List Jvm.Cond} (h : ∀ w ∈ ws, w ∈ W0) : GoodIn W0 ws := fun w hw => ⟨h w hw, good_of_word (List.mem_filter.mp (h w hw)).2⟩
theorem stp_K {X : Option (Nat × (Nat → Int))} {ins : Jvm.ClassFile.Instr} {n pc' : Nat} {al ast al' ast' : List AV} {σ σ' : Sto} (h : stp X ins n al ast σ = some (pc', al', ast', σ')) : σ'.2.2.2 = σ.2.2.2 ∨ ∃ kd, σ' = mk σ kd := by
  cases ins <;> first
    | exact absurd (show (none : Option Ast) = some _ from h) (fun h => by cases h)
    | (simp only [stp, s_ii, s_dd, s_i1, s_ll, s_ldd, s_li, s_i2l, s_l2i, s_lcmp, s_dup, s_dup2, s_pop, s_iload, s_lload, s_aload, s_istore, s_lstore, s_astore, s_iinc, s_ifc, s_icmp, s_ifnull, s_ifnonnull, s_switch, s_iald, s_alen, s_bald, s_lald, s_aald, s_iast, s_zast, s_last, s_aast, s_getf, s_putf, s_new, s_newa, s_min, s_max, s_copy, s_oini, cond_eq_ite] at h
       repeat' (split at h)
       all_goals (first | (cases h; done) | (cases h; exact Or.inl rfl) | (cases h; exact Or.inr ⟨_, rfl⟩)))
theorem stp_mono {X : Option (Nat × (Nat → Int))} {ins : Jvm.ClassFile.Instr} {n pc' : Nat} {al ast al' ast' : List AV} {σ σ' : Sto} (h : stp X ins n al ast σ = some (pc', al', ast', σ')) : Mono σ σ' := by
  rcases stp_K h with q | ⟨kd, rfl⟩
  · exact ⟨by rw [q]; exact Nat.le_refl _, by rw [q]; exact Nat.le_refl _⟩
  · refine ⟨?_, ?_⟩
    · show _ ≤ (σ.2.2.2 ++ [kd]).length
      simp
    · show _ ≤ ksum (σ.2.2.2 ++ [kd])
      rw [ksum_app]; exact Nat.le_add_right _ _
theorem exec_mono {X : Option (Nat × (Nat → Int))} {F : Cal} (hF : ∀ m as σ r σ', F m as σ = some (r, σ') → Mono σ σ') {m : Nat} : ∀ (n pc : Nat) (al ast : List AV) (σ : Sto) (r : Option AV) (σ' : Sto), exec cde nar rkd rcv X F m n pc al ast σ = some (r, σ') → Mono σ σ'
  | 0, pc, al, ast, σ, r, σ', h => by cases h
  | n + 1, pc, al, ast, σ, r, σ', h => by
    unfold exec at h
    split at h
    · cases h
    · split at h
      · next v hv =>
        cases v with
        | none => cases h
        | some v => cases h; exact Mono.rfl
      · split at h
        · split at h
          · cases h
          · rw [cond_eq_ite] at h
            split at h
            · split at h
              · cases h
              · next hf => exact (hF _ _ _ _ _ hf).trans (exec_mono hF n _ _ _ _ _ _ h)
            · cases h
        · split at h
          · cases h
          · next hs => exact (stp_mono hs).trans (exec_mono hF n _ _ _ _ _ _ h)
