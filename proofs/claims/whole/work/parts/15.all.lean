/-! every instruction of the class files that is modelled -/
def gav : Nat → AV
  | 0 => vr 0
  | 1 => vr 1
  | 2 => vi 1
  | _ => vo
section STEPW
variable {p : Program} {l : Launch} {e : Jvm.Env} {R : Room} {s : State} {m : MethodId} {args : Array Value} {below : List Frame} {meth : Method} {c : Code} {Q : State → Prop}
variable {base : Nat} {adc : Nat → Nat} {D : va_G} {mi d nc0 ks0 : Nat} {X : Option (Nat × (Nat → Int))}
variable {pc pc' : Nat} {al al' ast ast' : List AV} {σ σ' : Sto}
theorem w_gets (C : Chk) (T : CtX p R s m args meth c base adc mi d nc0 X) {idx k z pl : Nat} (hq : lk gtab (mO mi) idx = some (k, (z, pl))) (hk4 : k < 4) {a : AV} (ha : a = gav k) (hs : some (pc + 3, al, a :: ast, σ) = some (pc', al', ast', σ')) (hdg : decode (mB mi) pc = .ok (.getstatic idx, 3))
    (K : WX p l e R s m args below meth c Q base adc D mi nc0 ks0 pc' al' ast' σ') : WX p l e R s m args below meth c Q base adc D mi nc0 ks0 pc al ast σ := by
  obtain ⟨hx, hb, hml, hown, hts, hE, hsz, hfr, hlo, hX, hin⟩ := T
  have hok := C.2.2.2.2.1 _ (lk_in hq)
  have hok : okG (mO mi) idx k z pl = true := hok
  intro H locs cells slots ls st ⟨hL, hS, hH, hV, hc, hk⟩
  cases hs
  have go : ∀ v : Value, VR (adr base adc) a v → W p l e R s m args below meth c H locs cells slots Q (F0 m (pc + 3) ls (v :: st)) := fun v hv => K _ _ _ _ _ _ ⟨hL, ⟨hv, hS⟩, hH, hV, hc, hk⟩
  match z, hok with
  | 0, hok =>
    have hw : hasW pl (.fieldLink (cn (mO mi)) idx (cn (stName k).1) (stName k).2.1 (stName k).2.2) = true := hok
    have hw := hts _ (hasW_in hw)
    match k, hk4, ha, hw with
    | 0, _, ha, hw => exact va_gets hx hb hE.2.1 hV hown hw (fun _ h => h) hdg (go _ (by subst ha; show adc 0 = adr base adc 0; rw [adr_lt (by decide)]))
    | 1, _, ha, hw => exact va_gets hx hb hE.2.2.1 hV hown hw (fun _ h => h) hdg (go _ (by subst ha; show adc 1 = adr base adc 1; rw [adr_lt (by decide)]))
    | 2, _, ha, hw => exact va_gets hx hb hE.2.2.2.1 hV hown hw (fun _ h => h) hdg (go _ (by subst ha; rfl))
    | 3, _, ha, hw =>
      rcases hE.2.2.2.2.1 with h | ⟨t, h⟩
      · exact va_gets hx hb h hV hown hw (fun _ h => h) hdg (go _ (by subst ha; trivial))
      · exact va_gets hx hb h hV hown hw (fun _ h => h) hdg (go _ (by subst ha; trivial))
    | k + 4, h4, _, _ => omega
  | z + 1, hok =>
    have hw : (decide (k = 0) && (decide (nth nestP pl ≠ none) && decide ((nth nestP pl).bind (fun q => lw_tbl[q]?) = some (.fieldLinkNest (cn (mO mi)) idx (cn 0) "ABOVE" "[I" (cn 0))))) = true := hok
    simp only [Bool.and_eq_true, decide_eq_true_eq] at hw
    obtain ⟨rfl, h1, h2⟩ := hw
    cases hn : nth nestP pl with
    | none => exact absurd hn h1
    | some pq =>
      rw [hn] at h2
      have hmem : pq ∈ nestP := by rw [nth_get] at hn; exact List.mem_of_getElem? hn
      exact va_getsN hx hb hE.2.1 hV hown (va_Nw.use rfl (hE.1 pq hmem _ h2)) (fun _ h => h) hdg (go _ (by subst ha; show adc 0 = adr base adc 0; rw [adr_lt (by decide)]))
theorem i8 {v : Int} (h : -128 ≤ v ∧ v < 128) : (Int8.ofInt v).toInt32.toInt = v := by
  rw [Int8.toInt_toInt32, Int8.toInt_ofInt_of_le (by omega) (by omega)]
theorem i16 {v : Int} (h : -32768 ≤ v ∧ v < 32768) : (Int16.ofInt v).toInt32.toInt = v := by
  rw [Int16.toInt_toInt32, Int16.toInt_ofInt_of_le (by omega) (by omega)]
theorem arrW (t : FieldType) (h : t = .int ∨ t = .long ∨ t = .boolean) : Jvm.Cond.arrayClass t ∈ W0 := by
  have : ∀ t, t = .int ∨ t = .long ∨ t = .boolean → ∃ i, i < 1700 ∧ lw_tbl[i]? = some (Jvm.Cond.arrayClass t) := by
    intro t ht
    rcases ht with rfl | rfl | rfl
    · exact ⟨184, by decide, by decide +kernel⟩
    · exact ⟨393, by decide, by decide +kernel⟩
    · exact ⟨1242, by decide, by decide +kernel⟩
  obtain ⟨i, -, hi⟩ := this t h
  exact List.mem_filter.mpr ⟨List.mem_of_getElem? hi, rfl⟩
set_option maxHeartbeats 4000000 in
theorem stepW (C : Chk) (hm : mi < 237) (T : CtX p R s m args meth c base adc mi d nc0 X) {ins : Jvm.ClassFile.Instr} {len : Nat} (hf : fch (cde mi) pc = some (ins, len)) (hs : stp X ins (pc + len) al ast σ = some (pc', al', ast', σ')) (hcap : σ'.2.2.2.length ≤ R.cells + nc0 ∧ ksum σ'.2.2.2 ≤ R.slots + ks0)
    (K : WX p l e R s m args below meth c Q base adc D mi nc0 ks0 pc' al' ast' σ') : WX p l e R s m args below meth c Q base adc D mi nc0 ks0 pc al ast σ := by
  obtain ⟨raw, n, hdg, hl, hsw, hr⟩ := chk_at C hm hf
  have hx := T.1
  have hb := T.2.1
  have hown := T.2.2.2.1
  have hts := T.2.2.2.2.1
  cases raw
  case iadd =>
    have hl : n = 1 := Nat.eq_of_beq_eq_true hl
    subst hl
    rcases hsw with h | h
    · cases h
    subst h
    have hr : some (.iadd : Jvm.ClassFile.Instr) = some ins := hr
    cases hr
    exact w_ii hs toI_add (fun x y H locs cells slots ls rest k => lv_iadd hx hb hdg k) K
  case isub =>
    have hl : n = 1 := Nat.eq_of_beq_eq_true hl
    subst hl
    rcases hsw with h | h
    · cases h
    subst h
    have hr : some (.isub : Jvm.ClassFile.Instr) = some ins := hr
    cases hr
    exact w_ii hs toI_sub (fun x y H locs cells slots ls rest k => lv_isub hx hb hdg k) K
  case imul =>
    have hl : n = 1 := Nat.eq_of_beq_eq_true hl
    subst hl
    rcases hsw with h | h
    · cases h
    subst h
    have hr : some (.imul : Jvm.ClassFile.Instr) = some ins := hr
    cases hr
    exact w_ii hs toI_mul (fun x y H locs cells slots ls rest k => lv_imul hx hb hdg k) K
  case iand =>
    have hl : n = 1 := Nat.eq_of_beq_eq_true hl
    subst hl
    rcases hsw with h | h
    · cases h
    subst h
    have hr : some (.iand : Jvm.ClassFile.Instr) = some ins := hr
    cases hr
    exact w_ii hs toI_and (fun x y H locs cells slots ls rest k => lv_iand hx hb hdg k) K
  case ior =>
    have hl : n = 1 := Nat.eq_of_beq_eq_true hl
    subst hl
    rcases hsw with h | h
    · cases h
    subst h
    have hr : some (.ior : Jvm.ClassFile.Instr) = some ins := hr
    cases hr
    exact w_ii hs toI_or (fun x y H locs cells slots ls rest k => lv_ior hx hb hdg k) K
  case ixor =>
    have hl : n = 1 := Nat.eq_of_beq_eq_true hl
    subst hl
    rcases hsw with h | h
    · cases h
    subst h
    have hr : some (.ixor : Jvm.ClassFile.Instr) = some ins := hr
    cases hr
    exact w_ii hs toI_xor (fun x y H locs cells slots ls rest k => lv_ixor hx hb hdg k) K
  case ishl =>
    have hl : n = 1 := Nat.eq_of_beq_eq_true hl
    subst hl
    rcases hsw with h | h
    · cases h
    subst h
    have hr : some (.ishl : Jvm.ClassFile.Instr) = some ins := hr
    cases hr
    exact w_ii hs toI_shl (fun x y H locs cells slots ls rest k => lv_ishl hx hb hdg k) K
  case ishr =>
    have hl : n = 1 := Nat.eq_of_beq_eq_true hl
    subst hl
    rcases hsw with h | h
    · cases h
    subst h
    have hr : some (.ishr : Jvm.ClassFile.Instr) = some ins := hr
    cases hr
    exact w_ii hs toI_shr (fun x y H locs cells slots ls rest k => lv_ishr hx hb hdg k) K
  case iushr =>
    have hl : n = 1 := Nat.eq_of_beq_eq_true hl
    subst hl
    rcases hsw with h | h
    · cases h
    subst h
    have hr : some (.iushr : Jvm.ClassFile.Instr) = some ins := hr
    cases hr
    exact w_ii (g := fun x y => (x.toUInt32 >>> (y.toUInt32 &&& Int32.toUInt32 31)).toInt32) hs toI_ush (fun x y H locs cells slots ls rest k => lv_iushr hx hb hdg rfl k) K
  case idiv =>
    have hl : n = 1 := Nat.eq_of_beq_eq_true hl
    subst hl
    rcases hsw with h | h
    · cases h
    subst h
    have hr : some (.idiv : Jvm.ClassFile.Instr) = some ins := hr
    cases hr
    exact w_dd hs toI_div (fun x y h0 H locs cells slots ls rest k => lv_idiv hx hb hdg h0 k) K
  case irem =>
    have hl : n = 1 := Nat.eq_of_beq_eq_true hl
    subst hl
    rcases hsw with h | h
    · cases h
    subst h
    have hr : some (.irem : Jvm.ClassFile.Instr) = some ins := hr
    cases hr
    exact w_dd (g := fun x y => x - x / y * y) hs toI_rem (fun x y h0 H locs cells slots ls rest k => lv_irem hx hb hdg h0 k) K
  case ineg =>
    have hl : n = 1 := Nat.eq_of_beq_eq_true hl
    subst hl
    rcases hsw with h | h
    · cases h
    subst h
    have hr : some (.ineg : Jvm.ClassFile.Instr) = some ins := hr
    cases hr
    exact w_i1 hs toI_neg (fun x H locs cells slots ls rest k => lv_ineg hx hb hdg k) K
  case i2b =>
    have hl : n = 1 := Nat.eq_of_beq_eq_true hl
    subst hl
    rcases hsw with h | h
    · cases h
    subst h
    have hr : some (.i2b : Jvm.ClassFile.Instr) = some ins := hr
    cases hr
    exact w_i1 (g := fun x => x.toInt8.toInt32) hs (fun x => by unfold i2b_; rw [Int32.ofInt_toInt]) (fun x H locs cells slots ls rest k => lv_i2b hx hb hdg rfl k) K
  case i2s =>
    have hl : n = 1 := Nat.eq_of_beq_eq_true hl
    subst hl
    rcases hsw with h | h
    · cases h
    subst h
    have hr : some (.i2s : Jvm.ClassFile.Instr) = some ins := hr
    cases hr
    exact w_i1 (g := fun x => x.toInt16.toInt32) hs (fun x => by unfold i2s_; rw [Int32.ofInt_toInt]) (fun x H locs cells slots ls rest k => lv_i2s hx hb hdg rfl k) K
  case i2c =>
    have hl : n = 1 := Nat.eq_of_beq_eq_true hl
    subst hl
    rcases hsw with h | h
    · cases h
    subst h
    have hr : some (.i2c : Jvm.ClassFile.Instr) = some ins := hr
    cases hr
    exact w_i1 (g := fun x => (x.toUInt32 % 65536).toInt32) hs (fun x => by unfold i2c_; rw [Int32.ofInt_toInt]) (fun x H locs cells slots ls rest k => lv_i2c hx hb hdg rfl k) K
  case ladd =>
    have hl : n = 1 := Nat.eq_of_beq_eq_true hl
    subst hl
    rcases hsw with h | h
    · cases h
    subst h
    have hr : some (.ladd : Jvm.ClassFile.Instr) = some ins := hr
    cases hr
    exact w_ll hs toL_add (fun x y H locs cells slots ls rest k => lv_ladd hx hb hdg k) K
  case lmul =>
    have hl : n = 1 := Nat.eq_of_beq_eq_true hl
    subst hl
    rcases hsw with h | h
    · cases h
    subst h
    have hr : some (.lmul : Jvm.ClassFile.Instr) = some ins := hr
    cases hr
    exact w_ll hs toL_mul (fun x y H locs cells slots ls rest k => lv_lmul hx hb hdg k) K
  case land =>
    have hl : n = 1 := Nat.eq_of_beq_eq_true hl
    subst hl
    rcases hsw with h | h
    · cases h
    subst h
    have hr : some (.land : Jvm.ClassFile.Instr) = some ins := hr
    cases hr
    exact w_ll hs toL_and (fun x y H locs cells slots ls rest k => lv_land hx hb hdg k) K
  case lor =>
    have hl : n = 1 := Nat.eq_of_beq_eq_true hl
    subst hl
    rcases hsw with h | h
    · cases h
    subst h
    have hr : some (.lor : Jvm.ClassFile.Instr) = some ins := hr
    cases hr
    exact w_ll hs toL_or (fun x y H locs cells slots ls rest k => lv_lor hx hb hdg k) K
  case lxor =>
    have hl : n = 1 := Nat.eq_of_beq_eq_true hl
    subst hl
    rcases hsw with h | h
    · cases h
    subst h
    have hr : some (.lxor : Jvm.ClassFile.Instr) = some ins := hr
    cases hr
    exact w_ll hs toL_xor (fun x y H locs cells slots ls rest k => lv_lxor hx hb hdg k) K
  case ldiv =>
    have hl : n = 1 := Nat.eq_of_beq_eq_true hl
    subst hl
    rcases hsw with h | h
    · cases h
    subst h
    have hr : some (.ldiv : Jvm.ClassFile.Instr) = some ins := hr
    cases hr
    exact w_ldd hs toL_div (fun x y h0 H locs cells slots ls rest k => lv_ldiv hx hb hdg h0 k) K
  case lrem =>
    have hl : n = 1 := Nat.eq_of_beq_eq_true hl
    subst hl
    rcases hsw with h | h
    · cases h
    subst h
    have hr : some (.lrem : Jvm.ClassFile.Instr) = some ins := hr
    cases hr
    exact w_ldd (g := fun x y => x - x / y * y) hs toL_rem (fun x y h0 H locs cells slots ls rest k => lv_lrem hx hb hdg h0 k) K
  case lshl =>
    have hl : n = 1 := Nat.eq_of_beq_eq_true hl
    subst hl
    rcases hsw with h | h
    · cases h
    subst h
    have hr : some (.lshl : Jvm.ClassFile.Instr) = some ins := hr
    cases hr
    exact w_li (g := fun x y => x <<< (y.toInt64 &&& 63)) hs toL_shl (fun x y H locs cells slots ls rest k => lv_lshl hx hb hdg rfl k) K
  case lshr =>
    have hl : n = 1 := Nat.eq_of_beq_eq_true hl
    subst hl
    rcases hsw with h | h
    · cases h
    subst h
    have hr : some (.lshr : Jvm.ClassFile.Instr) = some ins := hr
    cases hr
    exact w_li (g := fun x y => x >>> (y.toInt64 &&& 63)) hs toL_shr (fun x y H locs cells slots ls rest k => lv_lshr hx hb hdg rfl k) K
  case i2l =>
    have hl : n = 1 := Nat.eq_of_beq_eq_true hl
    subst hl
    rcases hsw with h | h
    · cases h
    subst h
    have hr : some (.i2l : Jvm.ClassFile.Instr) = some ins := hr
    cases hr
    exact w_i2l hs (fun x H locs cells slots ls rest k => lv_i2l hx hb hdg rfl k) K
  case l2i =>
    have hl : n = 1 := Nat.eq_of_beq_eq_true hl
    subst hl
    rcases hsw with h | h
    · cases h
    subst h
    have hr : some (.l2i : Jvm.ClassFile.Instr) = some ins := hr
    cases hr
    exact w_l2i hs (fun x H locs cells slots ls rest k => lv_l2i hx hb hdg rfl k) K
  case lcmp =>
    have hl : n = 1 := Nat.eq_of_beq_eq_true hl
    subst hl
    rcases hsw with h | h
    · cases h
    subst h
    have hr : some (.lcmp : Jvm.ClassFile.Instr) = some ins := hr
    cases hr
    exact w_lcmp hs (fun x y H locs cells slots ls rest k => W.lcmp hx hb hdg k) K
  case dup =>
    have hl : n = 1 := Nat.eq_of_beq_eq_true hl
    subst hl
    rcases hsw with h | h
    · cases h
    subst h
    have hr : some (.dup : Jvm.ClassFile.Instr) = some ins := hr
    cases hr
    exact w_dup hs (fun v hv H locs cells slots ls rest k => lv_dup hx hb hdg hv k) K
  case dup2 =>
    have hl : n = 1 := Nat.eq_of_beq_eq_true hl
    subst hl
    rcases hsw with h | h
    · cases h
    subst h
    have hr : some (.dup2 : Jvm.ClassFile.Instr) = some ins := hr
    cases hr
    exact w_dup2 hs (fun v w hv hw H locs cells slots ls rest k => lv_dup2_11 hx hb hdg hv hw k) K
  case pop =>
    have hl : n = 1 := Nat.eq_of_beq_eq_true hl
    subst hl
    rcases hsw with h | h
    · cases h
    subst h
    have hr : some (.pop : Jvm.ClassFile.Instr) = some ins := hr
    cases hr
    exact w_pop hs (fun v hv H locs cells slots ls rest k => lv_pop hx hb hdg hv k) K
  case aconst_null =>
    have hl : n = 1 := Nat.eq_of_beq_eq_true hl
    subst hl
    rcases hsw with h | h
    · cases h
    subst h
    have hr : some (.aconst_null : Jvm.ClassFile.Instr) = some ins := hr
    cases hr
    exact w_push (v := .null) hs trivial (fun H locs cells slots ls rest k => lv_null hx hb hdg k) K
  case iconst v =>
    have hl : n = 1 := Nat.eq_of_beq_eq_true hl
    subst hl
    rcases hsw with h | h
    · cases h
    subst h
    have hr : (if -1 ≤ v ∧ v ≤ 5 then some _ else none) = some ins := hr
    split at hr
    · next hv =>
      cases hr
      exact w_push (v := .int (Int32.ofInt v)) hs (Int32.toInt_ofInt_of_le (by omega) (by omega)) (fun H locs cells slots ls rest k => lv_iconst hx hb hdg rfl k) K
    · cases hr
  case bipush v =>
    have hl : n = 2 := Nat.eq_of_beq_eq_true hl
    subst hl
    rcases hsw with h | h
    · cases h
    subst h
    have hr : (if -128 ≤ v ∧ v < 128 then some _ else none) = some ins := hr
    split at hr
    · next hv =>
      cases hr
      exact w_push (v := .int (Int8.ofInt v).toInt32) hs (i8 hv) (fun H locs cells slots ls rest k => lv_bipush hx hb hdg rfl k) K
    · cases hr
  case sipush v =>
    have hl : n = 3 := Nat.eq_of_beq_eq_true hl
    subst hl
    rcases hsw with h | h
    · cases h
    subst h
    have hr : (if -32768 ≤ v ∧ v < 32768 then some _ else none) = some ins := hr
    split at hr
    · next hv =>
      cases hr
      exact w_push (v := .int (Int16.ofInt v).toInt32) hs (i16 hv) (fun H locs cells slots ls rest k => lv_sipush hx hb hdg rfl k) K
    · cases hr
  case lconst k9 =>
    have hl : n = 1 := Nat.eq_of_beq_eq_true hl
    subst hl
    rcases hsw with h | h
    · cases h
    subst h
    have hr : some (.sipush (k9 : Nat) : Jvm.ClassFile.Instr) = some ins := hr
    cases hr
    exact w_push (v := .long (Int64.ofNat (k9 : Nat))) hs (by match k9 with | 0 => rfl | 1 => rfl) (fun H locs cells slots ls rest k => lv_lconst hx hb hdg rfl k) K
  case ldc i =>
    have hl : n = 2 := Nat.eq_of_beq_eq_true hl
    subst hl
    rcases hsw with h | h
    · cases h
    subst h
    cases hk : lk ktab (mO mi) i with
    | none => rw [show rsv (mO mi) pc (.ldc i) = none by unfold rsv; simp only [hk]] at hr; cases hr
    | some q =>
      obtain ⟨z, v, pl⟩ := q
      have hok : okK (mO mi) i z v pl = true := C.2.2.2.1 _ (lk_in hk)
      match z, hok, hk with
      | 0, hok, hk =>
        rw [show rsv (mO mi) pc (.ldc i) = some (.iconst v) by unfold rsv; simp only [hk]] at hr
        cases hr
        have hok : (hasW pl (.constant (cn (mO mi)) i (Int32.ofInt v)) && decide ((Int32.ofInt v).toInt = v)) = true := hok
        rw [Bool.and_eq_true, decide_eq_true_eq] at hok
        exact w_push (v := .int (Int32.ofInt v)) hs hok.2 (fun H locs cells slots ls rest k => lv_ldc hx hb hown (hts _ (hasW_in hok.1)) hdg k) K
      | 2, hok, hk =>
        rw [show rsv (mO mi) pc (.ldc i) = some (.getstatic v.toNat) by unfold rsv; simp only [hk]] at hr
        cases hr
        have hok : (decide (mO mi = 3) && (decide (v = 2 ∨ v = 3 ∨ v = 4) && decide (i = (stxt (v.toNat - 2)).1))) = true := hok
        simp only [Bool.and_eq_true, decide_eq_true_eq] at hok
        obtain ⟨o1, o2, o3⟩ := hok
        have hR := T.2.2.2.2.2.1.2.2.2.2.2.2.2.2.1 (v.toNat - 2) (by omega)
        rw [← o3, ← o1, show 2 + (v.toNat - 2) = v.toNat by omega] at hR
        exact w_push (v := .ref (adc v.toNat)) hs (show adc v.toNat = adr base adc v.toNat by rw [adr_lt (by omega)]) (fun H locs cells slots ls rest k => va_ldcS hx hb hown hR hdg k) K
      | 1, hok, hk => rw [show rsv (mO mi) pc (.ldc i) = none by unfold rsv; simp only [hk]] at hr; cases hr
      | z + 3, hok, hk => cases hok
  case ldc_w i =>
    have hl : n = 3 := Nat.eq_of_beq_eq_true hl
    subst hl
    rcases hsw with h | h
    · cases h
    subst h
    cases hk : lk ktab (mO mi) i with
    | none => rw [show rsv (mO mi) pc (.ldc_w i) = none by unfold rsv; simp only [hk]] at hr; cases hr
    | some q =>
      obtain ⟨z, v, pl⟩ := q
      have hok : okK (mO mi) i z v pl = true := C.2.2.2.1 _ (lk_in hk)
      match z, hok, hk with
      | 0, hok, hk =>
        rw [show rsv (mO mi) pc (.ldc_w i) = some (.iconst v) by unfold rsv; simp only [hk]] at hr
        cases hr
        have hok : (hasW pl (.constant (cn (mO mi)) i (Int32.ofInt v)) && decide ((Int32.ofInt v).toInt = v)) = true := hok
        rw [Bool.and_eq_true, decide_eq_true_eq] at hok
        exact w_push (v := .int (Int32.ofInt v)) hs hok.2 (fun H locs cells slots ls rest k => lv_ldcw hx hb hown (hts _ (hasW_in hok.1)) hdg k) K
      | z + 1, hok, hk => rw [show rsv (mO mi) pc (.ldc_w i) = none by unfold rsv; simp only [hk]] at hr; cases hr
  case ldc2_w i =>
    have hl : n = 3 := Nat.eq_of_beq_eq_true hl
    subst hl
    rcases hsw with h | h
    · cases h
    subst h
    cases hk : lk ktab (mO mi) i with
    | none => rw [show rsv (mO mi) pc (.ldc2_w i) = none by unfold rsv; simp only [hk]] at hr; cases hr
    | some q =>
      obtain ⟨z, v, pl⟩ := q
      have hok : okK (mO mi) i z v pl = true := C.2.2.2.1 _ (lk_in hk)
      match z, hok, hk with
      | 1, hok, hk =>
        rw [show rsv (mO mi) pc (.ldc2_w i) = some (.sipush v) by unfold rsv; simp only [hk]] at hr
        cases hr
        have hok : (hasW pl (.constantLong (cn (mO mi)) i (Int64.ofInt v)) && decide ((Int64.ofInt v).toInt = v)) = true := hok
        rw [Bool.and_eq_true, decide_eq_true_eq] at hok
        exact w_push (v := .long (Int64.ofInt v)) hs hok.2 (fun H locs cells slots ls rest k => lv_ldc2 hx hb hown (hts _ (hasW_in hok.1)) hdg k) K
      | 0, hok, hk => rw [show rsv (mO mi) pc (.ldc2_w i) = none by unfold rsv; simp only [hk]] at hr; cases hr
      | z + 2, hok, hk => rw [show rsv (mO mi) pc (.ldc2_w i) = none by unfold rsv; simp only [hk]] at hr; cases hr
  case iload i =>
    have hl : n = 2 := Nat.eq_of_beq_eq_true hl
    subst hl
    rcases hsw with h | h
    · cases h
    subst h
    have hr : some (.iload i : Jvm.ClassFile.Instr) = some ins := hr
    cases hr
    exact w_iload hs (fun x H locs cells slots ls rest h k => lv_iload hx hb hdg h k) K
  case iload_n i =>
    have hl : n = 1 := Nat.eq_of_beq_eq_true hl
    subst hl
    rcases hsw with h | h
    · cases h
    subst h
    have hr : some (.iload i : Jvm.ClassFile.Instr) = some ins := hr
    cases hr
    exact w_iload hs (fun x H locs cells slots ls rest h k => lv_iload_n hx hb hdg rfl h k) K
  case lload i =>
    have hl : n = 2 := Nat.eq_of_beq_eq_true hl
    subst hl
    rcases hsw with h | h
    · cases h
    subst h
    have hr : some (.lload i : Jvm.ClassFile.Instr) = some ins := hr
    cases hr
    exact w_lload hs (fun x H locs cells slots ls rest h k => lv_lload hx hb hdg h k) K
  case lload_n i =>
    have hl : n = 1 := Nat.eq_of_beq_eq_true hl
    subst hl
    rcases hsw with h | h
    · cases h
    subst h
    have hr : some (.lload i : Jvm.ClassFile.Instr) = some ins := hr
    cases hr
    exact w_lload hs (fun x H locs cells slots ls rest h k => lv_lload_n hx hb hdg rfl h k) K
  case aload i =>
    have hl : n = 2 := Nat.eq_of_beq_eq_true hl
    subst hl
    rcases hsw with h | h
    · cases h
    subst h
    have hr : some (.aload i : Jvm.ClassFile.Instr) = some ins := hr
    cases hr
    exact w_aload hs (fun x H locs cells slots ls rest h k => lv_aload hx hb hdg h k) (fun H locs cells slots ls rest h k => lv_aloadN hx hb hdg h k) K
  case aload_n i =>
    have hl : n = 1 := Nat.eq_of_beq_eq_true hl
    subst hl
    rcases hsw with h | h
    · cases h
    subst h
    have hr : some (.aload i : Jvm.ClassFile.Instr) = some ins := hr
    cases hr
    exact w_aload hs (fun x H locs cells slots ls rest h k => lv_aload_n hx hb hdg rfl h k) (fun H locs cells slots ls rest h k => lv_aload_nN hx hb hdg rfl h k) K
  case istore i =>
    have hl : n = 2 := Nat.eq_of_beq_eq_true hl
    subst hl
    rcases hsw with h | h
    · cases h
    subst h
    have hr : some (.istore i : Jvm.ClassFile.Instr) = some ins := hr
    cases hr
    exact w_istore hs (fun x H locs cells slots ls rest lv lv2 h1 h2 h3 k => lv_istore hx hb hdg h1 h2 h3 k) K
  case istore_n i =>
    have hl : n = 1 := Nat.eq_of_beq_eq_true hl
    subst hl
    rcases hsw with h | h
    · cases h
    subst h
    have hr : some (.istore i : Jvm.ClassFile.Instr) = some ins := hr
    cases hr
    exact w_istore hs (fun x H locs cells slots ls rest lv lv2 h1 h2 h3 k => lv_istore_n hx hb hdg rfl h1 h2 h3 k) K
  case lstore i =>
    have hl : n = 2 := Nat.eq_of_beq_eq_true hl
    subst hl
    rcases hsw with h | h
    · cases h
    subst h
    have hr : some (.lstore i : Jvm.ClassFile.Instr) = some ins := hr
    cases hr
    exact w_lstore hs (fun x H locs cells slots ls rest lv lv2 h1 h2 h3 k => lv_lstore hx hb hdg h1 h2 h3 k) K
  case lstore_n i =>
    have hl : n = 1 := Nat.eq_of_beq_eq_true hl
    subst hl
    rcases hsw with h | h
    · cases h
    subst h
    have hr : some (.lstore i : Jvm.ClassFile.Instr) = some ins := hr
    cases hr
    exact w_lstore hs (fun x H locs cells slots ls rest lv lv2 h1 h2 h3 k => lv_lstore_n hx hb hdg rfl h1 h2 h3 k) K
  case astore i =>
    have hl : n = 2 := Nat.eq_of_beq_eq_true hl
    subst hl
    rcases hsw with h | h
    · cases h
    subst h
    have hr : some (.astore i : Jvm.ClassFile.Instr) = some ins := hr
    cases hr
    exact w_astore hs (fun x H locs cells slots ls rest lv lv2 h1 h2 h3 k => lv_astore hx hb hdg h1 h2 h3 k) (fun H locs cells slots ls rest lv lv2 h1 h2 h3 k => lv_astoreN hx hb hdg h1 h2 h3 k) K
  case astore_n i =>
    have hl : n = 1 := Nat.eq_of_beq_eq_true hl
    subst hl
    rcases hsw with h | h
    · cases h
    subst h
    have hr : some (.astore i : Jvm.ClassFile.Instr) = some ins := hr
    cases hr
    exact w_astore hs (fun x H locs cells slots ls rest lv lv2 h1 h2 h3 k => lv_astore_n hx hb hdg rfl h1 h2 h3 k) (fun H locs cells slots ls rest lv lv2 h1 h2 h3 k => lv_astore_nN hx hb hdg rfl h1 h2 h3 k) K
  case iinc i v =>
    have hl : n = 3 := Nat.eq_of_beq_eq_true hl
    subst hl
    rcases hsw with h | h
    · cases h
    subst h
    have hr : (if -128 ≤ v ∧ v < 128 then some _ else none) = some ins := hr
    split at hr
    · next hv =>
      cases hr
      exact w_iinc hx hb hs rfl hv hdg K
    · cases hr
  case ifCond k9 o9 =>
    have hl : n = 3 := Nat.eq_of_beq_eq_true hl
    subst hl
    rcases hsw with h | h
    · cases h
    subst h
    have hr : (tgt pc o9).map (fun t => (.ifCond k9 t : Jvm.ClassFile.Instr)) = some ins := hr
    cases ht : tgt pc o9 with
    | none => rw [ht] at hr; cases hr
    | some t =>
      rw [ht] at hr
      cases hr
      exact w_if hx hb hs ht hdg K
  case if_icmp k9 o9 =>
    have hl : n = 3 := Nat.eq_of_beq_eq_true hl
    subst hl
    rcases hsw with h | h
    · cases h
    subst h
    have hr : (tgt pc o9).map (fun t => (.if_icmp k9 t : Jvm.ClassFile.Instr)) = some ins := hr
    cases ht : tgt pc o9 with
    | none => rw [ht] at hr; cases hr
    | some t =>
      rw [ht] at hr
      cases hr
      exact w_icmp hx hb hs ht hdg K
  case ifnull o9 =>
    have hl : n = 3 := Nat.eq_of_beq_eq_true hl
    subst hl
    rcases hsw with h | h
    · cases h
    subst h
    have hr : (tgt pc o9).map (fun t => (.ifnull t : Jvm.ClassFile.Instr)) = some ins := hr
    cases ht : tgt pc o9 with
    | none => rw [ht] at hr; cases hr
    | some t =>
      rw [ht] at hr
      cases hr
      exact w_ifnull hx hb hs ht hdg K
  case ifnonnull o9 =>
    have hl : n = 3 := Nat.eq_of_beq_eq_true hl
    subst hl
    rcases hsw with h | h
    · cases h
    subst h
    have hr : (tgt pc o9).map (fun t => (.ifnonnull t : Jvm.ClassFile.Instr)) = some ins := hr
    cases ht : tgt pc o9 with
    | none => rw [ht] at hr; cases hr
    | some t =>
      rw [ht] at hr
      cases hr
      exact w_ifnonnull hx hb hs ht hdg K
  case goto o9 =>
    have hl : n = 3 := Nat.eq_of_beq_eq_true hl
    subst hl
    rcases hsw with h | h
    · cases h
    subst h
    have hr : (tgt pc o9).map (fun t => (.goto t : Jvm.ClassFile.Instr)) = some ins := hr
    cases ht : tgt pc o9 with
    | none => rw [ht] at hr; cases hr
    | some t =>
      rw [ht] at hr
      cases hr
      intro H locs cells slots ls st hat
      cases hs
      refine lv_goto hx hb hdg ?_ (K _ _ _ _ _ _ hat)
      unfold tgt at ht
      split at ht
      · cases ht; omega
      · cases ht
  case lookupswitch d9 ps =>
    have hr : (match tgt pc d9, tgts pc ps.toList with
      | some t, some l => if (ps.toList.zip (ps.toList.drop 1)).all (fun (a, next) => a.1 < next.1) = true then some (.lookupswitch t l.toArray) else none
      | _, _ => none) = some ins := hr
    split at hr
    · next t l9 ht hl9 =>
      split at hr
      · next hz =>
        cases hr
        intro H locs cells slots ls st ⟨hL, hS, hH, hV, hc, hk⟩
        have hs : s_switch t l9 al ast σ = some (pc', al', ast', σ') := hs
        unfold s_switch at hs
        split at hs
        · cases hs
          obtain ⟨x, st, rfl, rfl, hS1⟩ := SR_i hS
          exact lv_lookup hx hb hdg hz rfl (sw_look hl9 ht) (K _ _ _ _ _ _ ⟨hL, hS1, hH, hV, hc, hk⟩)
        · cases hs
      · cases hr
    · cases hr
  case tableswitch d9 lo hi offs =>
    have hr : (match tgt pc d9, tgts pc (offs.toList.mapIdx (fun i o => (lo + (i : Nat), o))) with
      | some t, some l => if (offs.size : Int) = hi - lo + 1 then some (.lookupswitch t l.toArray) else none
      | _, _ => none) = some ins := hr
    split at hr
    · next t l9 ht hl9 =>
      split at hr
      · next hz =>
        cases hr
        intro H locs cells slots ls st ⟨hL, hS, hH, hV, hc, hk⟩
        have hs : s_switch t l9 al ast σ = some (pc', al', ast', σ') := hs
        unfold s_switch at hs
        split at hs
        · cases hs
          obtain ⟨x, st, rfl, rfl, hS1⟩ := SR_i hS
          have go := K _ _ _ _ _ _ ⟨hL, hS1, hH, hV, hc, hk⟩
          obtain ⟨t1, t2⟩ := sw_tab (x := x.toInt) (d := t.toNat) hl9
          have hlen9 : offs.toList.length = offs.size := Array.length_toList
          by_cases hin : x.toInt < lo ∨ hi < x.toInt
          · rw [t2 (by omega)] at go
            refine lv_tableOut hx hb hdg hin ?_ go
            unfold tgt at ht
            split at ht
            · cases ht; omega
            · cases ht
          · have hlt : (x.toInt - lo).toNat < offs.size := by omega
            refine lv_tableIn hx hb hdg (fun q => hin (Or.inl q)) (fun q => hin (Or.inr q)) (Array.getElem?_eq_getElem hlt) (t1 (x.toInt - lo).toNat _ ?_ (by omega)) go
            rw [Array.getElem?_toList]
            exact Array.getElem?_eq_getElem hlt
        · cases hs
      · cases hr
    · cases hr
  case iaload =>
    have hl : n = 1 := Nat.eq_of_beq_eq_true hl
    subst hl
    rcases hsw with h | h
    · cases h
    subst h
    have hr : some (.iaload : Jvm.ClassFile.Instr) = some ins := hr
    cases hr
    exact w_iald T hs hdg K
  case arraylength =>
    have hl : n = 1 := Nat.eq_of_beq_eq_true hl
    subst hl
    rcases hsw with h | h
    · cases h
    subst h
    have hr : some (.arraylength : Jvm.ClassFile.Instr) = some ins := hr
    cases hr
    exact w_alen T hs hdg K
  case baload =>
    have hl : n = 1 := Nat.eq_of_beq_eq_true hl
    subst hl
    rcases hsw with h | h
    · cases h
    subst h
    have hr : some (.baload : Jvm.ClassFile.Instr) = some ins := hr
    cases hr
    exact w_bald T hs hdg K
  case laload =>
    have hl : n = 1 := Nat.eq_of_beq_eq_true hl
    subst hl
    rcases hsw with h | h
    · cases h
    subst h
    have hr : some (.laload : Jvm.ClassFile.Instr) = some ins := hr
    cases hr
    exact w_lald T hs hdg K
  case aaload =>
    have hl : n = 1 := Nat.eq_of_beq_eq_true hl
    subst hl
    rcases hsw with h | h
    · cases h
    subst h
    have hr : some (.aaload : Jvm.ClassFile.Instr) = some ins := hr
    cases hr
    exact w_aald T hs hdg K
  case iastore =>
    have hl : n = 1 := Nat.eq_of_beq_eq_true hl
    subst hl
    rcases hsw with h | h
    · cases h
    subst h
    have hr : some (.iastore : Jvm.ClassFile.Instr) = some ins := hr
    cases hr
    exact w_iast T hs hdg K
  case bastore =>
    have hl : n = 1 := Nat.eq_of_beq_eq_true hl
    subst hl
    rcases hsw with h | h
    · cases h
    subst h
    have hr : some (.bastore : Jvm.ClassFile.Instr) = some ins := hr
    cases hr
    exact w_zast T hs hdg K
  case lastore =>
    have hl : n = 1 := Nat.eq_of_beq_eq_true hl
    subst hl
    rcases hsw with h | h
    · cases h
    subst h
    have hr : some (.lastore : Jvm.ClassFile.Instr) = some ins := hr
    cases hr
    exact w_last T hs hdg K
  case aastore =>
    have hl : n = 1 := Nat.eq_of_beq_eq_true hl
    subst hl
    rcases hsw with h | h
    · cases h
    subst h
    have hr : some (.aastore : Jvm.ClassFile.Instr) = some ins := hr
    cases hr
    exact w_aast T hs hdg K
  case getfield i =>
    have hl : n = 3 := Nat.eq_of_beq_eq_true hl
    subst hl
    rcases hsw with h | h
    · cases h
    subst h
    have hr : (lk ftab (mO mi) i).map (fun e => (.getfield e.1 : Jvm.ClassFile.Instr)) = some ins := hr
    cases hq : lk ftab (mO mi) i with
    | none => rw [hq] at hr; cases hr
    | some q =>
      rw [hq] at hr
      cases hr
      exact w_getf C T hq hs hdg K
  case putfield i =>
    have hl : n = 3 := Nat.eq_of_beq_eq_true hl
    subst hl
    rcases hsw with h | h
    · cases h
    subst h
    have hr : (lk ftab (mO mi) i).map (fun e => (.putfield e.1 : Jvm.ClassFile.Instr)) = some ins := hr
    cases hq : lk ftab (mO mi) i with
    | none => rw [hq] at hr; cases hr
    | some q =>
      rw [hq] at hr
      cases hr
      exact w_putf C hm T hf hq hs hdg K
  case getstatic i =>
    have hl : n = 3 := Nat.eq_of_beq_eq_true hl
    subst hl
    rcases hsw with h | h
    · cases h
    subst h
    cases hq : lk gtab (mO mi) i with
    | none => rw [show rsv (mO mi) pc (.getstatic i) = none by unfold rsv; simp only [hq]] at hr; cases hr
    | some q =>
      obtain ⟨k, z, pl⟩ := q
      match k, hq with
      | 0, hq =>
        rw [show rsv (mO mi) pc (.getstatic i) = some (.getstatic 0) by unfold rsv; simp only [hq]] at hr
        cases hr
        exact w_gets C T hq (by decide) rfl hs hdg K
      | 1, hq =>
        rw [show rsv (mO mi) pc (.getstatic i) = some (.getstatic 1) by unfold rsv; simp only [hq]] at hr
        cases hr
        exact w_gets C T hq (by decide) rfl hs hdg K
      | 2, hq =>
        rw [show rsv (mO mi) pc (.getstatic i) = some (.iconst 1) by unfold rsv; simp only [hq]] at hr
        cases hr
        exact w_gets C T hq (by decide) rfl hs hdg K
      | 3, hq =>
        rw [show rsv (mO mi) pc (.getstatic i) = some .nop by unfold rsv; simp only [hq]] at hr
        cases hr
        exact w_gets C T hq (by decide) rfl hs hdg K
      | k + 4, hq => rw [show rsv (mO mi) pc (.getstatic i) = none by unfold rsv; simp only [hq]] at hr; cases hr
  case invokevirtual i =>
    have hl : n = 3 := Nat.eq_of_beq_eq_true hl
    subst hl
    rcases hsw with h | h
    · cases h
    subst h
    cases hq : lk ctab (mO mi) i with
    | none => rw [show rsv (mO mi) pc (.invokevirtual i) = none by unfold rsv; simp only [hq]] at hr; cases hr
    | some q =>
      obtain ⟨k, cc, ps⟩ := q
      match k, hq with
      | 0, hq =>
        rw [show rsv (mO mi) pc (.invokevirtual i) = some (.invokestatic cc) by unfold rsv; simp only [hq]] at hr
        cases hr
        cases hs
      | k + 1, hq => rw [show rsv (mO mi) pc (.invokevirtual i) = none by unfold rsv; simp only [hq]] at hr; cases hr
  case invokestatic i =>
    have hl : n = 3 := Nat.eq_of_beq_eq_true hl
    subst hl
    rcases hsw with h | h
    · cases h
    subst h
    cases hq : lk ctab (mO mi) i with
    | none => rw [show rsv (mO mi) pc (.invokestatic i) = none by unfold rsv; simp only [hq]] at hr; cases hr
    | some q =>
      obtain ⟨k, cc, ps⟩ := q
      match k, hq with
      | 0, hq => rw [show rsv (mO mi) pc (.invokestatic i) = none by unfold rsv; simp only [hq]] at hr; cases hr
      | 1, hq =>
        rw [show rsv (mO mi) pc (.invokestatic i) = some (.invokestatic cc) by unfold rsv; simp only [hq]] at hr
        cases hr
        cases hs
      | 2, hq => rw [show rsv (mO mi) pc (.invokestatic i) = none by unfold rsv; simp only [hq]] at hr; cases hr
      | 3, hq => rw [show rsv (mO mi) pc (.invokestatic i) = none by unfold rsv; simp only [hq]] at hr; cases hr
      | 4, hq =>
        rw [show rsv (mO mi) pc (.invokestatic i) = some (.invokestatic cc) by unfold rsv; simp only [hq]] at hr
        cases hr
        cases hs
      | 5, hq => rw [show rsv (mO mi) pc (.invokestatic i) = none by unfold rsv; simp only [hq]] at hr; cases hr
      | 6, hq =>
        rw [show rsv (mO mi) pc (.invokestatic i) = (if cc < 3 then some (.invokedynamic cc) else none) by unfold rsv; simp only [hq]] at hr
        split at hr
        · next h3 =>
          cases hr
          match cc, h3, hq, hs with
          | 0, _, hq, hs => exact w_min C T hq hs hcap hdg K
          | 1, _, hq, hs => exact w_max C T hq hs hcap hdg K
          | 2, _, hq, hs => exact w_copy C T hq hs hdg K
        · cases hr
      | k + 7, hq => rw [show rsv (mO mi) pc (.invokestatic i) = none by unfold rsv; simp only [hq]] at hr; cases hr
  case invokespecial i =>
    have hl : n = 3 := Nat.eq_of_beq_eq_true hl
    subst hl
    rcases hsw with h | h
    · cases h
    subst h
    cases hq : lk ctab (mO mi) i with
    | none => rw [show rsv (mO mi) pc (.invokespecial i) = none by unfold rsv; simp only [hq]] at hr; cases hr
    | some q =>
      obtain ⟨k, cc, ps⟩ := q
      match k, hq with
      | 0, hq => rw [show rsv (mO mi) pc (.invokespecial i) = none by unfold rsv; simp only [hq]] at hr; cases hr
      | 1, hq => rw [show rsv (mO mi) pc (.invokespecial i) = none by unfold rsv; simp only [hq]] at hr; cases hr
      | 2, hq =>
        rw [show rsv (mO mi) pc (.invokespecial i) = some (.invokestatic cc) by unfold rsv; simp only [hq]] at hr
        cases hr
        cases hs
      | 3, hq =>
        rw [show rsv (mO mi) pc (.invokespecial i) = some (.invokestatic cc) by unfold rsv; simp only [hq]] at hr
        cases hr
        cases hs
      | 4, hq => rw [show rsv (mO mi) pc (.invokespecial i) = none by unfold rsv; simp only [hq]] at hr; cases hr
      | 5, hq =>
        rw [show rsv (mO mi) pc (.invokespecial i) = some (.invokedynamic 3) by unfold rsv; simp only [hq]] at hr
        cases hr
        exact w_oini C T hq hs hdg K
      | k + 6, hq => rw [show rsv (mO mi) pc (.invokespecial i) = none by unfold rsv; simp only [hq]] at hr; cases hr
  case new i =>
    have hl : n = 3 := Nat.eq_of_beq_eq_true hl
    subst hl
    rcases hsw with h | h
    · cases h
    subst h
    have hr : (lk ntab (mO mi) i).map (fun e => (.new e.1 : Jvm.ClassFile.Instr)) = some ins := hr
    cases hq : lk ntab (mO mi) i with
    | none => rw [hq] at hr; cases hr
    | some q =>
      rw [hq] at hr
      cases hr
      exact w_new C T hq hs hcap hdg K
  case newarray t =>
    have hl : n = 2 := Nat.eq_of_beq_eq_true hl
    subst hl
    rcases hsw with h | h
    · cases h
    subst h
    have hr : (if t = .int ∨ (t = .long ∨ t = .boolean) then some (.newarray t) else none) = some ins := hr
    split at hr
    · next ht =>
      cases hr
      exact w_newa T ht hs hcap arrW hdg K
    · cases hr
  case anewarray i =>
    have hl : n = 3 := Nat.eq_of_beq_eq_true hl
    subst hl
    rcases hsw with h | h
    · cases h
    subst h
    have hr : (lk atab (mO mi) i).map (fun e => (.anewarray e.1 : Jvm.ClassFile.Instr)) = some ins := hr
    cases hq : lk atab (mO mi) i with
    | none => rw [hq] at hr; cases hr
    | some q =>
      rw [hq] at hr
      cases hr
      exact w_newq C T hq hs hcap hdg K
  case ireturn =>
    have hr : some (.ireturn : Jvm.ClassFile.Instr) = some ins := hr
    cases hr
    cases hs
  case lreturn =>
    have hr : some (.lreturn : Jvm.ClassFile.Instr) = some ins := hr
    cases hr
    cases hs
  case areturn =>
    have hr : some (.areturn : Jvm.ClassFile.Instr) = some ins := hr
    cases hr
    cases hs
  case return_ =>
    have hr : some (.return_ : Jvm.ClassFile.Instr) = some ins := hr
    cases hr
    cases hs
  all_goals exact absurd (show (none : Option Jvm.ClassFile.Instr) = some ins from hr) (fun h => by cases h)
end STEPW
