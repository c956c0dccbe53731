theorem ldl_rep : ∀ (l : List AV) (k j : Nat), ldl (l ++ List.replicate k vu) j = ldl l j
  | [], 0, j => by cases j <;> rfl
  | [], k + 1, 0 => rfl
  | [], k + 1, j + 1 => ldl_rep [] k j
  | a :: r, k, 0 => rfl
  | a :: r, k, j + 1 => ldl_rep r k j
theorem entA_len {ad : Nat → Nat} : ∀ {as : List AV} {vs : List Value}, SR ad as vs → (entA as).length = (lg_sl vs).length
  | [], [], _ => rfl
  | .inl x :: r, v :: vs, h => by
    obtain ⟨y, rfl, -⟩ := VR_i h.1
    have := entA_len h.2
    simp [entA, lg_sl, Value.category] at this ⊢
    exact this
  | .inr (.inl x) :: r, v :: vs, h => by
    obtain ⟨y, rfl, -⟩ := VR_l h.1
    have := entA_len h.2
    simp [entA, lg_sl, Value.category] at this ⊢
    exact this
  | .inr (.inr x) :: r, v :: vs, h => by
    have hc := VR_cat1 h.1 (fun _ h => by cases h)
    have := entA_len h.2
    simp [entA, lg_sl, hc] at this ⊢
    exact this
  | [], _ :: _, h => absurd h id
  | _ :: _, [], h => absurd h id
theorem entA_rel {ad : Nat → Nat} : ∀ {as : List AV} {vs : List Value} (i j : Nat), SR ad as vs → ldl (entA as) j = vu ∨ ∃ w, (i + j, w) ∈ lv_args i vs ∧ VR ad (ldl (entA as) j) w
  | [], [], i, j, _ => Or.inl (by cases j <;> rfl)
  | .inl x :: r, v :: vs, i, j, h => by
    obtain ⟨y, rfl, hy⟩ := VR_i h.1
    cases j with
    | zero => exact Or.inr ⟨_, List.mem_cons_self, h.1⟩
    | succ j =>
      rcases entA_rel (i + 1) j h.2 with z | ⟨w, z1, z2⟩
      · exact Or.inl z
      · exact Or.inr ⟨w, List.mem_cons_of_mem _ (by rw [show i + (j + 1) = i + 1 + j by omega]; exact z1), z2⟩
  | .inr (.inl x) :: r, v :: vs, i, j, h => by
    obtain ⟨y, rfl, hy⟩ := VR_l h.1
    match j with
    | 0 => exact Or.inr ⟨_, List.mem_cons_self, h.1⟩
    | 1 => exact Or.inl rfl
    | j + 2 =>
      rcases entA_rel (i + 2) j h.2 with z | ⟨w, z1, z2⟩
      · exact Or.inl z
      · exact Or.inr ⟨w, List.mem_cons_of_mem _ (by rw [show i + (j + 2) = i + 2 + j by omega]; exact z1), z2⟩
  | .inr (.inr x) :: r, v :: vs, i, j, h => by
    have hc := VR_cat1 h.1 (fun _ h => by cases h)
    cases j with
    | zero => exact Or.inr ⟨_, List.mem_cons_self, h.1⟩
    | succ j =>
      rcases entA_rel (i + 1) j h.2 with z | ⟨w, z1, z2⟩
      · exact Or.inl z
      · refine Or.inr ⟨w, List.mem_cons_of_mem _ ?_, z2⟩
        rw [if_neg (by omega), show i + (j + 1) = i + 1 + j by omega]
        exact z1
  | [], _ :: _, _, _, h => absurd h id
  | _ :: _, [], _, _, h => absurd h id
theorem LR_entry {ad : Nat → Nat} {as : List AV} {vs : List Value} {n : Nat} (h : SR ad as vs) (hn : (entA as).length ≤ n) : LR ad ((lg_sl vs ++ List.replicate (n - (lg_sl vs).length) Slot.unset).toArray) n (padA n (entA as)) := by
  refine ⟨_, lv_entry vs (by rw [← entA_len h]; exact hn), ?_, fun j => ?_⟩
  · unfold padA; simp; omega
  · unfold padA
    rw [ldl_rep]
    have := entA_rel 0 j h
    rw [Nat.zero_add] at this
    exact this
section WALK2
variable {p : Program} {l : Launch} {e : Jvm.Env} {R : Room} {s : State} {m : MethodId} {args : Array Value} {below : List Frame} {meth : Method} {c : Code} {Q : State → Prop}
variable {base : Nat} {adc : Nat → Nat} {D : va_G} {mi d nc0 ks0 : Nat} {X : Option (Nat × (Nat → Int))}
theorem cle_some {ins : Jvm.ClassFile.Instr} {c : Nat} (h : cle ins = some c) : ins = .invokestatic c := by
  unfold cle at h
  split at h
  · cases h; rfl
  · cases h
theorem snd_monoC {F : Cal} (hF : ∀ m as σ r σ', F m as σ = some (r, σ') → Mono σ σ') {n pc : Nat} {al ast : List AV} {σ σf : Sto} {r : Option AV} (h : exec cde nar rkd rcv X F mi n pc al ast σ = some (r, σf)) : Mono σ σf := exec_mono hF n pc al ast σ r σf h
theorem walk (C : Chk) (hm : mi < 237) (T : CtX p R s m args meth c base adc mi d nc0 X) {F : Cal} (hF : Snd l base adc D d F) (hM : ∀ m as σ r σ', F m as σ = some (r, σ') → Mono σ σ') {r : Option AV} {σf : Sto} (hcap : σf.2.2.2.length ≤ R.cells + nc0 ∧ ksum σf.2.2.2 ≤ R.slots + ks0)
    (hend : ∀ pc al ast ins len, fch (cde mi) pc = some (ins, len) → rets (rkd mi) ins ast = some (some r) → WX p l e R s m args below meth c Q base adc D mi nc0 ks0 pc al ast σf) :
    ∀ (n pc : Nat) (al ast : List AV) (σ : Sto), exec cde nar rkd rcv X F mi n pc al ast σ = some (r, σf) → WX p l e R s m args below meth c Q base adc D mi nc0 ks0 pc al ast σ
  | 0, pc, al, ast, σ, h => by cases h
  | n + 1, pc, al, ast, σ, h => by
    unfold exec at h
    split at h
    · cases h
    · next ins len hf =>
      split at h
      · next v hv =>
        cases v with
        | none => cases h
        | some v => cases h; exact hend _ _ _ _ _ hf hv
      · split at h
        · next cc hc =>
          have hi := cle_some hc
          subst hi
          split at h
          · cases h
          · next as rr hp =>
            rw [cond_eq_ite] at h
            split at h
            · next hw =>
              rw [Bool.and_eq_true] at hw
              split at h
              · cases h
              · next v σ1 hFc =>
                have hmono := snd_monoC hM h
                exact w_call C T hF hm hf hp (Nat.le_of_ble_eq_true hw.1) hw.2 hFc ⟨Nat.le_trans hmono.1 hcap.1, Nat.le_trans hmono.2 hcap.2⟩ (walk C hm T hF hM hcap hend n _ _ _ _ h)
            · cases h
        · split at h
          · cases h
          · next pc' ls' st' σ' hs =>
            have hmono := snd_monoC hM h
            exact stepW C hm T hf hs ⟨Nat.le_trans hmono.1 hcap.1, Nat.le_trans hmono.2 hcap.2⟩ (walk C hm T hF hM hcap hend n _ _ _ _ h)
end WALK2
/-- a method's run: n steps, callees by F -/
noncomputable def runN (F : Cal) (n : Nat) : Cal := fun m as σ => bif Nat.ble (entA as).length (mlc m) then exec cde nar rkd rcv none F m n 0 (padA (mlc m) (entA as)) [] σ else none
theorem okP_at (C : Chk) {mi pc len : Nat} {ins : Jvm.ClassFile.Instr} (hm : mi < 237) (hf : fch (cde mi) pc = some (ins, len)) : (ins = .return_ → mR mi = none) ∧ (ins = .ireturn → mR mi = some .int ∨ mR mi = some .boolean ∨ mR mi = some .char ∨ mR mi = some .byte) ∧ (ins = .lreturn → mR mi = some .long) ∧ (ins = .areturn → ∃ t, mR mi = some (.object t)) := by
  have h := List.all_eq_true.mp (C.1 mi hm).2 _ (fch_in hf)
  refine ⟨fun q => ?_, fun q => ?_, fun q => ?_, fun q => ?_⟩
  all_goals subst q
  · exact of_decide_eq_true h
  · exact of_decide_eq_true h
  · exact of_decide_eq_true h
  · have h : (match mR mi with | some (.object _) => true | _ => false) = true := h
    split at h
    · next t ht => exact ⟨t, ht⟩
    · cases h
theorem nar_char {x : Int32} (h : 0 ≤ x.toInt ∧ x.toInt < 65536) : narrow .char (.int x) = .int x := by
  have := (pk_charN (q := x.toInt.toNat) (by omega)).1
  have e : nI x.toInt.toNat = x := Int32.toInt_inj.mp (by rw [nI_toInt (by omega)]; omega)
  rw [e] at this
  exact this
theorem nar_byte {x : Int32} (h : -128 ≤ x.toInt ∧ x.toInt < 128) : narrow .byte (.int x) = .int x := by
  have e : x.toInt8.toInt32 = x := Int32.toInt_inj.mp (by rw [Int8.toInt_toInt32, Int32.toInt_toInt8, Int.bmod_def]; split <;> omega)
  have := pk_nb x
  rw [e] at this
  exact this
theorem snd_mono {F : Cal} (hM : ∀ m as σ r σ', F m as σ = some (r, σ') → Mono σ σ') {n m : Nat} {as : List AV} {σ σ' : Sto} {r : Option AV} (h : runN F n m as σ = some (r, σ')) : Mono σ σ' := by
  unfold runN at h
  rw [cond_eq_ite] at h
  split at h
  · exact exec_mono hM _ _ _ _ _ _ _ h
  · cases h
def isRet : Jvm.ClassFile.Instr → Bool
  | .ireturn => true
  | .lreturn => true
  | .areturn => true
  | .return_ => true
  | _ => false
theorem rsv_ret {own pc : Nat} {raw ins : Jvm.ClassFile.Instr} (hr : rsv own pc raw = some ins) (hi : isRet ins = true) : raw = ins := by
  cases raw
  case getstatic i =>
    exfalso
    cases hq : lk gtab own i with
    | none => unfold rsv at hr; simp only [hq] at hr; cases hr
    | some q =>
      obtain ⟨k, z, pl⟩ := q
      match k, hq with
      | 0, hq => unfold rsv at hr; simp only [hq] at hr; first | (cases hr; done) | (cases hr; cases hi; done) | (split at hr <;> first | (cases hr; done) | (cases hr; cases hi))
      | 1, hq => unfold rsv at hr; simp only [hq] at hr; first | (cases hr; done) | (cases hr; cases hi; done) | (split at hr <;> first | (cases hr; done) | (cases hr; cases hi))
      | 2, hq => unfold rsv at hr; simp only [hq] at hr; first | (cases hr; done) | (cases hr; cases hi; done) | (split at hr <;> first | (cases hr; done) | (cases hr; cases hi))
      | 3, hq => unfold rsv at hr; simp only [hq] at hr; first | (cases hr; done) | (cases hr; cases hi; done) | (split at hr <;> first | (cases hr; done) | (cases hr; cases hi))
      | k + 4, hq => unfold rsv at hr; simp only [hq] at hr; first | (cases hr; done) | (cases hr; cases hi; done) | (split at hr <;> first | (cases hr; done) | (cases hr; cases hi))
  case ldc i =>
    exfalso
    cases hq : lk ktab own i with
    | none => unfold rsv at hr; simp only [hq] at hr; cases hr
    | some q =>
      obtain ⟨k, v, pl⟩ := q
      match k, hq with
      | 0, hq => unfold rsv at hr; simp only [hq] at hr; first | (cases hr; done) | (cases hr; cases hi; done) | (split at hr <;> first | (cases hr; done) | (cases hr; cases hi))
      | 1, hq => unfold rsv at hr; simp only [hq] at hr; first | (cases hr; done) | (cases hr; cases hi; done) | (split at hr <;> first | (cases hr; done) | (cases hr; cases hi))
      | 2, hq => unfold rsv at hr; simp only [hq] at hr; first | (cases hr; done) | (cases hr; cases hi; done) | (split at hr <;> first | (cases hr; done) | (cases hr; cases hi))
      | k + 3, hq => unfold rsv at hr; simp only [hq] at hr; first | (cases hr; done) | (cases hr; cases hi; done) | (split at hr <;> first | (cases hr; done) | (cases hr; cases hi))
  case ldc_w i =>
    exfalso
    cases hq : lk ktab own i with
    | none => unfold rsv at hr; simp only [hq] at hr; cases hr
    | some q =>
      obtain ⟨k, v, pl⟩ := q
      match k, hq with
      | 0, hq => unfold rsv at hr; simp only [hq] at hr; first | (cases hr; done) | (cases hr; cases hi; done) | (split at hr <;> first | (cases hr; done) | (cases hr; cases hi))
      | 1, hq => unfold rsv at hr; simp only [hq] at hr; first | (cases hr; done) | (cases hr; cases hi; done) | (split at hr <;> first | (cases hr; done) | (cases hr; cases hi))
      | 2, hq => unfold rsv at hr; simp only [hq] at hr; first | (cases hr; done) | (cases hr; cases hi; done) | (split at hr <;> first | (cases hr; done) | (cases hr; cases hi))
      | k + 3, hq => unfold rsv at hr; simp only [hq] at hr; first | (cases hr; done) | (cases hr; cases hi; done) | (split at hr <;> first | (cases hr; done) | (cases hr; cases hi))
  case ldc2_w i =>
    exfalso
    cases hq : lk ktab own i with
    | none => unfold rsv at hr; simp only [hq] at hr; cases hr
    | some q =>
      obtain ⟨k, v, pl⟩ := q
      match k, hq with
      | 0, hq => unfold rsv at hr; simp only [hq] at hr; first | (cases hr; done) | (cases hr; cases hi; done) | (split at hr <;> first | (cases hr; done) | (cases hr; cases hi))
      | 1, hq => unfold rsv at hr; simp only [hq] at hr; first | (cases hr; done) | (cases hr; cases hi; done) | (split at hr <;> first | (cases hr; done) | (cases hr; cases hi))
      | 2, hq => unfold rsv at hr; simp only [hq] at hr; first | (cases hr; done) | (cases hr; cases hi; done) | (split at hr <;> first | (cases hr; done) | (cases hr; cases hi))
      | k + 3, hq => unfold rsv at hr; simp only [hq] at hr; first | (cases hr; done) | (cases hr; cases hi; done) | (split at hr <;> first | (cases hr; done) | (cases hr; cases hi))
  case invokevirtual i =>
    exfalso
    cases hq : lk ctab own i with
    | none => unfold rsv at hr; simp only [hq] at hr; cases hr
    | some q =>
      obtain ⟨k, c2, ps⟩ := q
      match k, hq with
      | 0, hq => unfold rsv at hr; simp only [hq] at hr; first | (cases hr; done) | (cases hr; cases hi; done) | (split at hr <;> first | (cases hr; done) | (cases hr; cases hi))
      | 1, hq => unfold rsv at hr; simp only [hq] at hr; first | (cases hr; done) | (cases hr; cases hi; done) | (split at hr <;> first | (cases hr; done) | (cases hr; cases hi))
      | 2, hq => unfold rsv at hr; simp only [hq] at hr; first | (cases hr; done) | (cases hr; cases hi; done) | (split at hr <;> first | (cases hr; done) | (cases hr; cases hi))
      | 3, hq => unfold rsv at hr; simp only [hq] at hr; first | (cases hr; done) | (cases hr; cases hi; done) | (split at hr <;> first | (cases hr; done) | (cases hr; cases hi))
      | 4, hq => unfold rsv at hr; simp only [hq] at hr; first | (cases hr; done) | (cases hr; cases hi; done) | (split at hr <;> first | (cases hr; done) | (cases hr; cases hi))
      | 5, hq => unfold rsv at hr; simp only [hq] at hr; first | (cases hr; done) | (cases hr; cases hi; done) | (split at hr <;> first | (cases hr; done) | (cases hr; cases hi))
      | 6, hq => unfold rsv at hr; simp only [hq] at hr; first | (cases hr; done) | (cases hr; cases hi; done) | (split at hr <;> first | (cases hr; done) | (cases hr; cases hi))
      | k + 7, hq => unfold rsv at hr; simp only [hq] at hr; first | (cases hr; done) | (cases hr; cases hi; done) | (split at hr <;> first | (cases hr; done) | (cases hr; cases hi))
  case invokestatic i =>
    exfalso
    cases hq : lk ctab own i with
    | none => unfold rsv at hr; simp only [hq] at hr; cases hr
    | some q =>
      obtain ⟨k, c2, ps⟩ := q
      match k, hq with
      | 0, hq => unfold rsv at hr; simp only [hq] at hr; first | (cases hr; done) | (cases hr; cases hi; done) | (split at hr <;> first | (cases hr; done) | (cases hr; cases hi))
      | 1, hq => unfold rsv at hr; simp only [hq] at hr; first | (cases hr; done) | (cases hr; cases hi; done) | (split at hr <;> first | (cases hr; done) | (cases hr; cases hi))
      | 2, hq => unfold rsv at hr; simp only [hq] at hr; first | (cases hr; done) | (cases hr; cases hi; done) | (split at hr <;> first | (cases hr; done) | (cases hr; cases hi))
      | 3, hq => unfold rsv at hr; simp only [hq] at hr; first | (cases hr; done) | (cases hr; cases hi; done) | (split at hr <;> first | (cases hr; done) | (cases hr; cases hi))
      | 4, hq => unfold rsv at hr; simp only [hq] at hr; first | (cases hr; done) | (cases hr; cases hi; done) | (split at hr <;> first | (cases hr; done) | (cases hr; cases hi))
      | 5, hq => unfold rsv at hr; simp only [hq] at hr; first | (cases hr; done) | (cases hr; cases hi; done) | (split at hr <;> first | (cases hr; done) | (cases hr; cases hi))
      | 6, hq => unfold rsv at hr; simp only [hq] at hr; first | (cases hr; done) | (cases hr; cases hi; done) | (split at hr <;> first | (cases hr; done) | (cases hr; cases hi))
      | k + 7, hq => unfold rsv at hr; simp only [hq] at hr; first | (cases hr; done) | (cases hr; cases hi; done) | (split at hr <;> first | (cases hr; done) | (cases hr; cases hi))
  case invokespecial i =>
    exfalso
    cases hq : lk ctab own i with
    | none => unfold rsv at hr; simp only [hq] at hr; cases hr
    | some q =>
      obtain ⟨k, c2, ps⟩ := q
      match k, hq with
      | 0, hq => unfold rsv at hr; simp only [hq] at hr; first | (cases hr; done) | (cases hr; cases hi; done) | (split at hr <;> first | (cases hr; done) | (cases hr; cases hi))
      | 1, hq => unfold rsv at hr; simp only [hq] at hr; first | (cases hr; done) | (cases hr; cases hi; done) | (split at hr <;> first | (cases hr; done) | (cases hr; cases hi))
      | 2, hq => unfold rsv at hr; simp only [hq] at hr; first | (cases hr; done) | (cases hr; cases hi; done) | (split at hr <;> first | (cases hr; done) | (cases hr; cases hi))
      | 3, hq => unfold rsv at hr; simp only [hq] at hr; first | (cases hr; done) | (cases hr; cases hi; done) | (split at hr <;> first | (cases hr; done) | (cases hr; cases hi))
      | 4, hq => unfold rsv at hr; simp only [hq] at hr; first | (cases hr; done) | (cases hr; cases hi; done) | (split at hr <;> first | (cases hr; done) | (cases hr; cases hi))
      | 5, hq => unfold rsv at hr; simp only [hq] at hr; first | (cases hr; done) | (cases hr; cases hi; done) | (split at hr <;> first | (cases hr; done) | (cases hr; cases hi))
      | 6, hq => unfold rsv at hr; simp only [hq] at hr; first | (cases hr; done) | (cases hr; cases hi; done) | (split at hr <;> first | (cases hr; done) | (cases hr; cases hi))
      | k + 7, hq => unfold rsv at hr; simp only [hq] at hr; first | (cases hr; done) | (cases hr; cases hi; done) | (split at hr <;> first | (cases hr; done) | (cases hr; cases hi))
  case lookupswitch d9 ps =>
    exfalso
    have hr : (match tgt pc d9, tgts pc ps.toList with
      | some t, some l => if (ps.toList.zip (ps.toList.drop 1)).all (fun (a, next) => a.1 < next.1) = true then some (.lookupswitch t l.toArray) else none
      | _, _ => none) = some ins := hr
    split at hr
    · split at hr <;> first | (cases hr; done) | (cases hr; cases hi)
    · cases hr
  case tableswitch d9 lo hi9 offs =>
    exfalso
    have hr : (match tgt pc d9, tgts pc (offs.toList.mapIdx (fun i o => (lo + (i : Nat), o))) with
      | some t, some l => if (offs.size : Int) = hi9 - lo + 1 then some (.lookupswitch t l.toArray) else none
      | _, _ => none) = some ins := hr
    split at hr
    · split at hr <;> first | (cases hr; done) | (cases hr; cases hi)
    · cases hr
  all_goals first
    | (cases (show some _ = some ins from hr); rfl)
    | (cases (show some _ = some ins from hr); cases hi; done)
    | exact absurd (show (none : Option Jvm.ClassFile.Instr) = some _ from hr) (fun h => by cases h)
    | (unfold rsv at hr; dsimp only at hr; split at hr <;> first | (cases hr; done) | (cases hr; cases hi; done))
    | (unfold rsv at hr; simp only [Option.map_eq_some_iff] at hr; obtain ⟨_, _, rfl⟩ := hr; cases hi)
set_option maxHeartbeats 4000000 in
theorem snd_step (C : Chk) {l : Launch} {base : Nat} {adc : Nat → Nat} {D : va_G} {d : Nat} {F : Cal} (hF : Snd l base adc D d F) (hM : ∀ m as σ r σ', F m as σ = some (r, σ') → Mono σ σ') (n : Nat) : Snd l base adc D (d + 1) (runN F n) := by
  intro mi as σ r σ' hmi h
  refine ⟨snd_mono hM h, fun hnc => ?_⟩
  have hmono := snd_mono hM h
  unfold runN at h
  rw [cond_eq_ite] at h
  split at h
  · next hent =>
    have hent := Nat.le_of_ble_eq_true hent
    obtain ⟨hcode, hmL, hpl, hcls, hpar, hnar, hclsn, hmlc, hrcv, hmO, hrk1, hrk2, hrk3⟩ := okM_at C hmi
    rw [hmlc] at h hent
    refine Met.ofW (cc := mB mi) (maxL := mL mi) (ret := mR mi) hpl rfl ?_
    intro p e s m args below meth c s₁ B hml hv
    obtain ⟨vs, rfl, hS, hH, hE, hsz⟩ := hv
    have hx := B.exec
    have hb := B.bytes
    have hr := B.returns
    have hts := atoms_spec (ws := wsm mi) B.pre
    have hown : s.vm.findClass (cn (mO mi)) = some m.cls := by rw [← hclsn]; exact findClass_of_methodNamed B.named
    have hlocks := B.notSynchronized
    have hm235 : mi < 237 := Nat.lt_succ_of_lt hmi
    have T : CtX p (rmX (d + 1) (σ'.2.2.2.length - σ.2.2.2.length) (ksum σ'.2.2.2 - ksum σ.2.2.2)) s m vs.toArray meth c base adc mi d σ.2.2.2.length none := by
      refine ⟨hx, hb, hml, hown, fun w hw => hts w (List.mem_cons_of_mem _ hw), hE, ⟨hnc, hsz, hmL⟩, rfl, Nat.le_refl _, (fun n xs h => by cases h), fun h => ?_⟩
      rw [← h]
      exact (name_of_methodNamed B.named B.method).1
    rw [lg_entry_eq]
    obtain ⟨hm1, hm2⟩ := hmono
    refine walk (ks0 := ksum σ.2.2.2) C hm235 T hF hM (σf := σ') (r := r) ⟨?_, ?_⟩ ?_ n 0 _ _ σ h s.heap [] 0 0 _ [] ⟨LR_entry hS hent, trivial, hH, va_S.rf, by omega, by omega⟩
    · show _ ≤ (σ'.2.2.2.length - σ.2.2.2.length) + _; omega
    · show _ ≤ (ksum σ'.2.2.2 - ksum σ.2.2.2) + _; omega
    · intro pc al ast ins len hf hv H locs cells slots ls st ⟨hL, hS1, hH1, hV1, hc1, hk1⟩
      obtain ⟨raw, n9, hdg, hl, hsw, hrs⟩ := chk_at C hm235 hf
      have okp := okP_at C hm235 hf
      have hcs : cells = σ'.2.2.2.length - σ.2.2.2.length := by omega
      have hss : slots = ksum σ'.2.2.2 - ksum σ.2.2.2 := by omega
      subst hcs; subst hss
      have post : ∀ (rv : Option Value), OR (adr base adc) r rv → ∀ t : State, t.heap = H → s.WarmedH t.vm → QcX base adc D r σ' vs.toArray s (.returned rv) t := by
        intro rv hor t ht hW
        exact ⟨⟨rv, rfl, hor, by rw [ht]; exact hH1.moved hW.alike⟩, hV1.F ht⟩
      have hfree : ∀ q ∈ locs, (fun q : Nat => base ≤ q) q.base := hV1.2.2
      have hraw : isRet ins = true → raw = ins := rsv_ret hrs
      cases ins
      case return_ =>
        have hraw := hraw rfl
        subst hraw
        have hn9 : n9 = 1 := Nat.eq_of_beq_eq_true hl
        subst hn9
        unfold rets at hv
        dsimp only at hv
        have hv := Option.some.inj hv
        split at hv
        · cases hv
          have := SR_nil hS1
          subst this
          exact W.vret hx hb (hr.trans (okp.1 rfl)) (post none trivial) hfree hdg
        · cases hv
      case ireturn =>
        have hraw := hraw rfl
        subst hraw
        have hn9 : n9 = 1 := Nat.eq_of_beq_eq_true hl
        subst hn9
        unfold rets at hv
        dsimp only at hv
        have hv := Option.some.inj hv
        split at hv
        · next x =>
          rw [cond_eq_ite] at hv
          split at hv
          · next hrok =>
            cases hv
            obtain ⟨y, st, rfl, rfl, hS2⟩ := SR_i hS1
            have := SR_nil hS2
            subst this
            have post := post (some (.int y)) rfl
            rcases okp.2.1 rfl with q | q | q | q
            · exact W.iret hx hb (hr.trans q) post hfree hdg
            · rw [hrk1 q] at hrok
              exact W.zret hx hb (hr.trans q) (nar01 (of_decide_eq_true hrok)).2.1 post hfree hdg
            · rw [hrk2 q] at hrok
              exact W.zret hx hb (hr.trans q) (nar_char (of_decide_eq_true hrok)) post hfree hdg
            · rw [hrk3 q] at hrok
              exact W.zret hx hb (hr.trans q) (nar_byte (of_decide_eq_true hrok)) post hfree hdg
          · cases hv
        · cases hv
      case lreturn =>
        have hraw := hraw rfl
        subst hraw
        have hn9 : n9 = 1 := Nat.eq_of_beq_eq_true hl
        subst hn9
        unfold rets at hv
        dsimp only at hv
        have hv := Option.some.inj hv
        split at hv
        · cases hv
          obtain ⟨y, st, rfl, rfl, hS2⟩ := SR_l hS1
          have := SR_nil hS2
          subst this
          exact W.lret hx hb (hr.trans (okp.2.2.1 rfl)) (post (some (.long y)) rfl) hfree hdg
        · cases hv
      case areturn =>
        have hraw := hraw rfl
        subst hraw
        have hn9 : n9 = 1 := Nat.eq_of_beq_eq_true hl
        subst hn9
        obtain ⟨tn, htn⟩ := okp.2.2.2 rfl
        unfold rets at hv
        dsimp only at hv
        have hv := Option.some.inj hv
        split at hv
        · cases hv
          obtain ⟨st, rfl, hS2⟩ := SR_r hS1
          have := SR_nil hS2
          subst this
          exact W.aret hx hb (hr.trans htn) (Or.inl ⟨_, rfl⟩) (Or.inr ⟨_, rfl⟩) (post (some _) rfl) hfree hdg
        · cases hv
          obtain ⟨st, rfl, hS2⟩ := SR_n hS1
          have := SR_nil hS2
          subst this
          exact W.aret hx hb (hr.trans htn) (Or.inl ⟨_, rfl⟩) (Or.inl rfl) (post (some _) trivial) hfree hdg
        · cases hv
      all_goals (cases hv)
  · cases h
