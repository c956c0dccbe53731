/-! runs without a count of steps: the limit; and how a run goes on, instruction by instruction -/
noncomputable def Lim {α : Type} (f : Nat → Option α) : Option α := by
  classical exact if h : ∃ n, f n ≠ none then f (Classical.choose h) else none
def Mon {α : Type} (f : Nat → Option α) : Prop := ∀ n r, f n = some r → f (n + 1) = some r
theorem Mon.le {α : Type} {f : Nat → Option α} (h : Mon f) {n m : Nat} {r : α} (hn : f n = some r) (hm : n ≤ m) : f m = some r := by
  induction hm with
  | refl => exact hn
  | step _ ih => exact h _ _ ih
theorem Lim_ex {α : Type} {f : Nat → Option α} {r : α} (h : Lim f = some r) : ∃ n, f n = some r := by
  unfold Lim at h
  split at h
  · exact ⟨_, h⟩
  · cases h
theorem Lim_of {α : Type} {f : Nat → Option α} (hf : Mon f) {n : Nat} {r : α} (h : f n = some r) : Lim f = some r := by
  unfold Lim
  have he : ∃ n, f n ≠ none := ⟨n, by rw [h]; exact fun q => by cases q⟩
  rw [dif_pos he]
  have h1 := Classical.choose_spec he
  cases hc : f (Classical.choose he) with
  | none => exact absurd hc h1
  | some q =>
    rcases Nat.le_total n (Classical.choose he) with z | z
    · rw [← hc]; exact hf.le h z
    · rw [← h]; exact (hf.le hc z).symm
theorem Lim_none {α : Type} {f : Nat → Option α} (h : ∀ n, f n = none) : Lim f = none := by
  cases hc : Lim f with
  | none => rfl
  | some r =>
    obtain ⟨n, hn⟩ := Lim_ex hc
    rw [h n] at hn
    cases hn
theorem Lim_congr {α : Type} {f g : Nat → Option α} (hf : Mon f) (hg : Mon g) (h : ∀ r, (∃ n, f n = some r) ↔ ∃ n, g n = some r) : Lim f = Lim g := by
  cases hc : Lim g with
  | none =>
    cases hc2 : Lim f with
    | none => rfl
    | some r =>
      obtain ⟨n, hn⟩ := (h r).mp (Lim_ex hc2)
      rw [Lim_of hg hn] at hc
      cases hc
  | some r =>
    obtain ⟨n, hn⟩ := (h r).mpr (Lim_ex hc)
    exact Lim_of hf hn
theorem Lim_shift {α : Type} {f g : Nat → Option α} (hf : Mon f) (hg : Mon g) (h0 : f 0 = none) (h : ∀ n, f (n + 1) = g n) : Lim f = Lim g := by
  refine Lim_congr hf hg (fun r => ⟨fun ⟨n, hn⟩ => ?_, fun ⟨n, hn⟩ => ⟨n + 1, by rw [h]; exact hn⟩⟩)
  cases n with
  | zero => rw [h0] at hn; cases hn
  | succ n => exact ⟨n, by rw [← h]; exact hn⟩
theorem Lim_const {α : Type} {f : Nat → Option α} {v : Option α} (h0 : f 0 = none) (h : ∀ n, f (n + 1) = v) : Lim f = v := by
  cases v with
  | none => exact Lim_none (fun n => by cases n with | zero => exact h0 | succ n => exact h n)
  | some r =>
    refine Lim_of (n := 1) (fun n q hn => ?_) (h 0)
    cases n with
    | zero => rw [h0] at hn; cases hn
    | succ n => rw [h] at hn ⊢; exact hn
theorem exec_mon {X : Option (Nat × (Nat → Int))} {F : Cal} {m : Nat} : ∀ (n pc : Nat) (ls st : List AV) (σ : Sto) (r : Ans), exec cde nar rkd rcv X F m n pc ls st σ = some r → exec cde nar rkd rcv X F m (n + 1) pc ls st σ = some r
  | 0, pc, ls, st, σ, r, h => by cases h
  | n + 1, pc, ls, st, σ, r, h => by
    cases hf : fch (cde m) pc with
    | none => simp only [exec, hf] at h; cases h
    | some q =>
      obtain ⟨ins, len⟩ := q
      cases hv : rets (rkd m) ins st with
      | some v => simp only [exec, hf, hv] at h ⊢; exact h
      | none =>
        cases hc : cle ins with
        | some c =>
          cases hp : popA (nar c) st [] with
          | none => simp only [exec, hf, hv, hc, hp] at h; cases h
          | some q =>
            obtain ⟨as, rr⟩ := q
            cases hw : (Nat.ble (wsum rr) 8 && cok (rcv c) as σ) with
            | false => simp only [exec, hf, hv, hc, hp, hw, cond_false] at h; cases h
            | true =>
              cases hF : F c as σ with
              | none => simp only [exec, hf, hv, hc, hp, hw, hF, cond_true] at h; cases h
              | some q =>
                obtain ⟨v, σ1⟩ := q
                have h2 : exec cde nar rkd rcv X F m n (pc + len) ls (v.toList ++ rr) σ1 = some r := by
                  simp only [exec, hf, hv, hc, hp, hw, hF, cond_true] at h; exact h
                have h3 := exec_mon n _ _ _ _ _ h2
                unfold exec
                simp only [hf, hv, hc, hp, hw, hF, cond_true]
                exact h3
        | none =>
          cases hs : stp X ins (pc + len) ls st σ with
          | none => simp only [exec, hf, hv, hc, hs] at h; cases h
          | some q =>
            obtain ⟨pc', ls', st', σ'⟩ := q
            have h2 : exec cde nar rkd rcv X F m n pc' ls' st' σ' = some r := by
              simp only [exec, hf, hv, hc, hs] at h; exact h
            have h3 := exec_mon n _ _ _ _ _ h2
            unfold exec
            simp only [hf, hv, hc, hs]
            exact h3
noncomputable def RunX (X : Option (Nat × (Nat → Int))) (F : Cal) (m pc : Nat) (ls st : List AV) (σ : Sto) : Option Ans := Lim (fun n => exec cde nar rkd rcv X F m n pc ls st σ)
noncomputable def CallD : Nat → Cal
  | 0 => fun _ _ _ => none
  | d + 1 => fun m as σ => bif Nat.ble (entA as).length (mlc m) then RunX none (CallD d) m 0 (padA (mlc m) (entA as)) [] σ else none
section RUN
variable {X : Option (Nat × (Nat → Int))} {F : Cal} {m pc len : Nat} {ls st : List AV} {σ : Sto} {ins : Jvm.ClassFile.Instr}
theorem Run_ret (hf : fch (cde m) pc = some (ins, len)) {v : Option (Option AV)} (hv : rets (rkd m) ins st = some v) : RunX X F m pc ls st σ = v.map (fun v => (v, σ)) := by
  refine Lim_const rfl (fun n => ?_)
  simp only [exec, hf, hv]
theorem Run_stp (hf : fch (cde m) pc = some (ins, len)) (hv : rets (rkd m) ins st = none) (hc : cle ins = none) {pc' : Nat} {ls' st' : List AV} {σ' : Sto} (hs : stp X ins (pc + len) ls st σ = some (pc', ls', st', σ')) : RunX X F m pc ls st σ = RunX X F m pc' ls' st' σ' := by
  refine Lim_shift (fun n r h => exec_mon n _ _ _ _ r h) (fun n r h => exec_mon n _ _ _ _ r h) rfl (fun n => ?_)
  simp only [exec, hf, hv, hc, hs]
theorem Run_stuck (hf : fch (cde m) pc = some (ins, len)) (hv : rets (rkd m) ins st = none) (hc : cle ins = none) (hs : stp X ins (pc + len) ls st σ = none) : RunX X F m pc ls st σ = none := by
  refine Lim_const rfl (fun n => ?_)
  simp only [exec, hf, hv, hc, hs]
theorem Run_call {c : Nat} (hf : fch (cde m) pc = some (.invokestatic c, len)) {as r : List AV} (hp : popA (nar c) st [] = some (as, r)) (hw : (Nat.ble (wsum r) 8 && cok (rcv c) as σ) = true) : RunX X F m pc ls st σ = (F c as σ).bind (fun q => RunX X F m (pc + len) ls (q.1.toList ++ r) q.2) := by
  have e : ∀ n, exec cde nar rkd rcv X F m (n + 1) pc ls st σ = (match F c as σ with
      | none => none
      | some (v, σ1) => exec cde nar rkd rcv X F m n (pc + len) ls (v.toList ++ r) σ1) := by
    intro n
    have h1 : rets (rkd m) (.invokestatic c) st = none := rfl
    have h2 : cle (.invokestatic c) = some c := rfl
    simp only [exec, hf, h1, h2, hp, hw, cond_true]
    cases F c as σ <;> rfl
  cases hF : F c as σ with
  | none =>
    refine Lim_const rfl (fun n => ?_)
    rw [e, hF]
    rfl
  | some q =>
    obtain ⟨v, σ1⟩ := q
    refine Lim_shift (fun n r h => exec_mon n _ _ _ _ r h) (fun n r h => exec_mon n _ _ _ _ r h) rfl (fun n => ?_)
    rw [e, hF]
/-- a stretch of plain instructions -/
def plainI (ins : Jvm.ClassFile.Instr) : Bool := match ins with
  | .return_ => false
  | .ireturn => false
  | .lreturn => false
  | .areturn => false
  | .invokestatic _ => false
  | _ => true
def nxtI (ins : Jvm.ClassFile.Instr) (n : Nat) : Nat := match ins with
  | .goto t => t.toNat
  | _ => n
noncomputable def okB (c : Cde) : Nat → List (Jvm.ClassFile.Instr × Nat) → Bool
  | _, [] => true
  | pc, (ins, len) :: r => decide (fch c pc = some (ins, len)) && (plainI ins && okB c (nxtI ins (pc + len)) r)
def blk (X : Option (Nat × (Nat → Int))) : List (Jvm.ClassFile.Instr × Nat) → Nat → List AV → List AV → Sto → Option Ast
  | [], pc, ls, st, σ => some (pc, ls, st, σ)
  | (ins, len) :: r, pc, ls, st, σ => match stp X ins (pc + len) ls st σ with
    | none => none
    | some (pc', ls', st', σ') => bif Nat.beq pc' (nxtI ins (pc + len)) then blk X r pc' ls' st' σ' else none
theorem plain_rets {ins : Jvm.ClassFile.Instr} (h : plainI ins = true) (k : Nat) (st : List AV) : rets k ins st = none ∧ cle ins = none := by
  cases ins <;> first | exact ⟨rfl, rfl⟩ | cases h
theorem Run_blk : ∀ {l : List (Jvm.ClassFile.Instr × Nat)} {pc pc' : Nat} {ls st ls' st' : List AV} {σ σ' : Sto}, okB (cde m) pc l = true → blk X l pc ls st σ = some (pc', ls', st', σ') → RunX X F m pc ls st σ = RunX X F m pc' ls' st' σ'
  | [], pc, pc', ls, st, ls', st', σ, σ', _, h => by cases h; rfl
  | (ins, len) :: r, pc, pc', ls, st, ls', st', σ, σ', hk, h => by
    unfold okB at hk
    rw [Bool.and_eq_true, Bool.and_eq_true, decide_eq_true_eq] at hk
    obtain ⟨h1, h2, h3⟩ := hk
    unfold blk at h
    split at h
    · cases h
    · next p2 l2 s2 σ2 hs =>
      rw [cond_eq_ite] at h
      split at h
      · next hq =>
        have hq := Nat.eq_of_beq_eq_true hq
        obtain ⟨g1, g2⟩ := plain_rets h2 (rkd m) st
        rw [Run_stp h1 g1 g2 hs]
        subst hq
        exact Run_blk h3 h
      · cases h
end RUN
theorem CallD_mono : ∀ (d m : Nat) (as : List AV) (σ : Sto) (r : Option AV) (σ' : Sto), CallD d m as σ = some (r, σ') → Mono σ σ'
  | 0, m, as, σ, r, σ', h => by cases h
  | d + 1, m, as, σ, r, σ', h => by
    unfold CallD at h
    rw [cond_eq_ite] at h
    split at h
    · obtain ⟨n, hn⟩ := Lim_ex h
      exact exec_mono (CallD_mono d) _ _ _ _ _ _ _ hn
    · cases h
theorem snd_CallD (C : Chk) {l : Launch} {base : Nat} {adc : Nat → Nat} {D : va_G} : ∀ d : Nat, Snd l base adc D d (CallD d)
  | 0 => fun m as σ r σ' _ h => by cases h
  | d + 1 => fun m as σ r σ' hm h => by
    unfold CallD at h
    rw [cond_eq_ite] at h
    split at h
    · next hent =>
      obtain ⟨n, hn⟩ := Lim_ex h
      refine snd_step C (snd_CallD C d) (CallD_mono d) n m as σ r σ' hm ?_
      unfold runN
      rw [cond_eq_ite, if_pos hent]
      exact hn
    · cases h
theorem Call_eq {d m : Nat} {as : List AV} {σ : Sto} {ls : List AV} (h1 : Nat.ble (entA as).length (mlc m) = true) (h2 : padA (mlc m) (entA as) = ls) : CallD (d + 1) m as σ = RunX none (CallD d) m 0 ls [] σ := by
  rw [← h2]
  have e : CallD (d + 1) m as σ = (bif Nat.ble (entA as).length (mlc m) then RunX none (CallD d) m 0 (padA (mlc m) (entA as)) [] σ else none) := rfl
  rw [e, h1]
  rfl
