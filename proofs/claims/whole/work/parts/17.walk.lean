theorem okM_at (C : Chk) {c : Nat} (h : c < nM) : Jvm.Cond.code (mY c) (mB c) (mL c) (mR c) ∈ W0 ∧ mL c ≤ 40 ∧ plainName (mY c).cls = true ∧ ((mY c).cls ≠ "java/lang/invoke/MethodHandle" ∧ (mY c).cls ≠ "java/lang/invoke/VarHandle") ∧
    ((parseMethodDescriptor (mY c).desc).map (fun d => d.parameters.length) = some (bif mS c then nar c else nar c - 1)) ∧ (0 < nar c ∨ mS c = true) ∧ (mY c).cls = cn (mO c) ∧ mlc c = mL c ∧ ((bif mS c then decide (rcv c = 0) else bif decide ((mY c).name = "<init>") then decide (rcv c = 1) else decide (rcv c = mO c + 2)) = true) ∧ (mO c < 13 ∨ mS c = true) ∧
    ((mR c = some .boolean → rkd c = 1) ∧ (mR c = some .char → rkd c = 2) ∧ (mR c = some .byte → rkd c = 3)) := by
  have hk := C.2.1 c h
  unfold okM at hk
  split at hk
  · simp only [Bool.and_eq_true, decide_eq_true_eq] at hk
    obtain ⟨h1, h2, h3, h4, h5, h6, h7, h8, h9, h10, h11⟩ := hk
    refine ⟨hasW_in h1, h2, h3, h4, h5, h6, h7, h8, h9, h10, fun q => ?_, fun q => ?_, fun q => ?_⟩
    all_goals
      rw [q] at h11
      exact of_decide_eq_true h11
  · cases hk
theorem OR_cons {ad : Nat → Nat} {r : Option AV} {rv : Option Value} {a : List AV} {s : List Value} (h : OR ad r rv) (hs : SR ad a s) : SR ad (r.toList ++ a) (rv.toList ++ s) := by
  cases r with
  | none => cases rv with
    | none => exact hs
    | some v => exact absurd h id
  | some x => cases rv with
    | none => exact absurd h id
    | some v => exact ⟨h, hs⟩
theorem rsv_call {own pc cc : Nat} {raw : Jvm.ClassFile.Instr} (hr : rsv own pc raw = some (.invokestatic cc)) : ∃ i k ps, lk ctab own i = some (k, (cc, ps)) ∧ ((raw = .invokevirtual i ∧ k = 0) ∨ (raw = .invokestatic i ∧ (k = 1 ∨ k = 4)) ∨ (raw = .invokespecial i ∧ (k = 2 ∨ k = 3))) := by
  cases raw
  case invokevirtual i =>
    cases hq : lk ctab own i with
    | none => rw [show rsv own pc (.invokevirtual i) = none by unfold rsv; simp only [hq]] at hr; cases hr
    | some q =>
      obtain ⟨k, c2, ps⟩ := q
      match k, hq with
      | 0, hq =>
        rw [show rsv own pc (.invokevirtual i) = some (.invokestatic c2) by unfold rsv; simp only [hq]] at hr
        cases hr
        exact ⟨i, 0, ps, hq, Or.inl ⟨rfl, rfl⟩⟩
      | k + 1, hq => rw [show rsv own pc (.invokevirtual i) = none by unfold rsv; simp only [hq]] at hr; cases hr
  case invokestatic i =>
    cases hq : lk ctab own i with
    | none => rw [show rsv own pc (.invokestatic i) = none by unfold rsv; simp only [hq]] at hr; cases hr
    | some q =>
      obtain ⟨k, c2, ps⟩ := q
      match k, hq with
      | 0, hq => rw [show rsv own pc (.invokestatic i) = none by unfold rsv; simp only [hq]] at hr; cases hr
      | 1, hq =>
        rw [show rsv own pc (.invokestatic i) = some (.invokestatic c2) by unfold rsv; simp only [hq]] at hr
        cases hr
        exact ⟨i, 1, ps, hq, Or.inr (Or.inl ⟨rfl, Or.inl rfl⟩)⟩
      | 2, hq => rw [show rsv own pc (.invokestatic i) = none by unfold rsv; simp only [hq]] at hr; cases hr
      | 3, hq => rw [show rsv own pc (.invokestatic i) = none by unfold rsv; simp only [hq]] at hr; cases hr
      | 4, hq =>
        rw [show rsv own pc (.invokestatic i) = some (.invokestatic c2) by unfold rsv; simp only [hq]] at hr
        cases hr
        exact ⟨i, 4, ps, hq, Or.inr (Or.inl ⟨rfl, Or.inr rfl⟩)⟩
      | 5, hq => rw [show rsv own pc (.invokestatic i) = none by unfold rsv; simp only [hq]] at hr; cases hr
      | 6, hq =>
        rw [show rsv own pc (.invokestatic i) = (if c2 < 3 then some (.invokedynamic c2) else none) by unfold rsv; simp only [hq]] at hr
        split at hr <;> cases hr
      | k + 7, hq => rw [show rsv own pc (.invokestatic i) = none by unfold rsv; simp only [hq]] at hr; cases hr
  case invokespecial i =>
    cases hq : lk ctab own i with
    | none => rw [show rsv own pc (.invokespecial i) = none by unfold rsv; simp only [hq]] at hr; cases hr
    | some q =>
      obtain ⟨k, c2, ps⟩ := q
      match k, hq with
      | 0, hq => rw [show rsv own pc (.invokespecial i) = none by unfold rsv; simp only [hq]] at hr; cases hr
      | 1, hq => rw [show rsv own pc (.invokespecial i) = none by unfold rsv; simp only [hq]] at hr; cases hr
      | 2, hq =>
        rw [show rsv own pc (.invokespecial i) = some (.invokestatic c2) by unfold rsv; simp only [hq]] at hr
        cases hr
        exact ⟨i, 2, ps, hq, Or.inr (Or.inr ⟨rfl, Or.inl rfl⟩)⟩
      | 3, hq =>
        rw [show rsv own pc (.invokespecial i) = some (.invokestatic c2) by unfold rsv; simp only [hq]] at hr
        cases hr
        exact ⟨i, 3, ps, hq, Or.inr (Or.inr ⟨rfl, Or.inr rfl⟩)⟩
      | 4, hq => rw [show rsv own pc (.invokespecial i) = none by unfold rsv; simp only [hq]] at hr; cases hr
      | 5, hq => rw [show rsv own pc (.invokespecial i) = some (.invokedynamic 3) by unfold rsv; simp only [hq]] at hr; cases hr
      | k + 6, hq => rw [show rsv own pc (.invokespecial i) = none by unfold rsv; simp only [hq]] at hr; cases hr
  case getstatic i =>
    exfalso
    cases hq : lk gtab own i with
    | none => unfold rsv at hr; simp only [hq] at hr; cases hr
    | some q =>
      obtain ⟨k, z, pl⟩ := q
      match k, hq with
      | 0, hq => unfold rsv at hr; simp only [hq] at hr; cases hr
      | 1, hq => unfold rsv at hr; simp only [hq] at hr; cases hr
      | 2, hq => unfold rsv at hr; simp only [hq] at hr; cases hr
      | 3, hq => unfold rsv at hr; simp only [hq] at hr; cases hr
      | k + 4, hq => unfold rsv at hr; simp only [hq] at hr; cases hr
  case ldc i =>
    exfalso
    cases hq : lk ktab own i with
    | none => unfold rsv at hr; simp only [hq] at hr; cases hr
    | some q =>
      obtain ⟨k, v, pl⟩ := q
      match k, hq with
      | 0, hq => unfold rsv at hr; simp only [hq] at hr; cases hr
      | 1, hq => unfold rsv at hr; simp only [hq] at hr; cases hr
      | 2, hq => unfold rsv at hr; simp only [hq] at hr; cases hr
      | k + 3, hq => unfold rsv at hr; simp only [hq] at hr; cases hr
  case ldc_w i =>
    exfalso
    cases hq : lk ktab own i with
    | none => unfold rsv at hr; simp only [hq] at hr; cases hr
    | some q =>
      obtain ⟨k, v, pl⟩ := q
      match k, hq with
      | 0, hq => unfold rsv at hr; simp only [hq] at hr; cases hr
      | 1, hq => unfold rsv at hr; simp only [hq] at hr; cases hr
      | 2, hq => unfold rsv at hr; simp only [hq] at hr; cases hr
      | k + 3, hq => unfold rsv at hr; simp only [hq] at hr; cases hr
  case ldc2_w i =>
    exfalso
    cases hq : lk ktab own i with
    | none => unfold rsv at hr; simp only [hq] at hr; cases hr
    | some q =>
      obtain ⟨k, v, pl⟩ := q
      match k, hq with
      | 0, hq => unfold rsv at hr; simp only [hq] at hr; cases hr
      | 1, hq => unfold rsv at hr; simp only [hq] at hr; cases hr
      | 2, hq => unfold rsv at hr; simp only [hq] at hr; cases hr
      | k + 3, hq => unfold rsv at hr; simp only [hq] at hr; cases hr
  case lookupswitch d9 ps =>
    exfalso
    have hr : (match tgt pc d9, tgts pc ps.toList with
      | some t, some l => if (ps.toList.zip (ps.toList.drop 1)).all (fun (a, next) => a.1 < next.1) = true then some (.lookupswitch t l.toArray) else none
      | _, _ => none) = some (Jvm.ClassFile.Instr.invokestatic cc) := hr
    split at hr
    · split at hr <;> cases hr
    · cases hr
  case tableswitch d9 lo hi offs =>
    exfalso
    have hr : (match tgt pc d9, tgts pc (offs.toList.mapIdx (fun i o => (lo + (i : Nat), o))) with
      | some t, some l => if (offs.size : Int) = hi - lo + 1 then some (.lookupswitch t l.toArray) else none
      | _, _ => none) = some (Jvm.ClassFile.Instr.invokestatic cc) := hr
    split at hr
    · split at hr <;> cases hr
    · cases hr
  all_goals first
    | exact absurd (show (none : Option Jvm.ClassFile.Instr) = some _ from hr) (fun h => by cases h)
    | (unfold rsv at hr; cases hr; done)
    | (unfold rsv at hr; dsimp only at hr; split at hr <;> (cases hr; done))
    | (unfold rsv at hr; simp [Option.map_eq_some_iff] at hr; done)
section WALK
variable {p : Program} {l : Launch} {e : Jvm.Env} {R : Room} {s : State} {m : MethodId} {args : Array Value} {below : List Frame} {meth : Method} {c : Code} {Q : State → Prop}
variable {base : Nat} {adc : Nat → Nat} {D : va_G} {mi d nc0 ks0 : Nat} {X : Option (Nat × (Nat → Int))}
theorem call_go {pc : Nat} {H : Heap} {locs : List Loc} {cells slots mc ms : Nat} {ls : Array Slot} {st0 rest : List Value} {r : Option AV} {σ1 : Sto} {a : Array Value} (hr : va_Run p l e R s m args below meth c H locs cells slots mc ms (F0 m pc ls st0) rest (QcX base adc D r σ1 a) (fun q => base ≤ q)) (hV : va_S (fun q => base ≤ q) s.heap H locs)
    (kk : ∀ (rv : Option Value) (H1 : Heap) (locs1 : List Loc), OR (adr base adc) r rv → HR base adc D s σ1 H1 → va_S (fun q => base ≤ q) s.heap H1 locs1 → W p l e R s m args below meth c H1 locs1 (cells + mc) (slots + ms) Q (F0 m (pc + 3) ls (rv.toList ++ rest))) : W p l e R s m args below meth c H locs cells slots Q (F0 m pc ls st0) := by
  intro T hT X
  obtain ⟨v, st₀, t, T', L, h0, X', hL, e1, e2, ⟨⟨rv, hv, ho, hh⟩, hz, hk⟩, st⟩ := hr T hT X
  cases hv
  rw [h0] at hz hk
  have hal : t.vm.Alike s.vm := by rw [← e2]; exact X'.warmed.alike.symm
  obtain ⟨t2, a1, b1⟩ := kk v T'.heap (locs ++ L) ho (by rw [e1]; exact hh.moved hal)
    ⟨Nat.le_trans hV.1 (by rw [e1]; exact hz), fun q h1 h2 => by rw [e1, hk q (Nat.lt_of_lt_of_le h1 hV.1) h2]; exact hV.2.1 q h1 h2, fun q hq => by
      rcases List.mem_append.mp hq with h | h
      · exact hV.2.2 q h
      · exact hL q h⟩ T' rfl X'
  exact ⟨t2, st t2 a1, b1⟩
theorem w_call (C : Chk) (T : CtX p R s m args meth c base adc mi d nc0 X) {F : Cal} (hF : Snd l base adc D d F) {pc len cc : Nat} (hm : mi < 237) {al ast as r : List AV} {σ σ1 : Sto} {v : Option AV} (hf : fch (cde mi) pc = some (.invokestatic cc, len)) (hp : popA (nar cc) ast [] = some (as, r)) (hw : wsum r ≤ 8) (hck : cok (rcv cc) as σ = true) (hFc : F cc as σ = some (v, σ1)) (hcap : σ1.2.2.2.length ≤ R.cells + nc0 ∧ ksum σ1.2.2.2 ≤ R.slots + ks0)
    (K : WX p l e R s m args below meth c Q base adc D mi nc0 ks0 (pc + len) al (v.toList ++ r) σ1) : WX p l e R s m args below meth c Q base adc D mi nc0 ks0 pc al ast σ := by
  obtain ⟨raw, n, hdg, hl, hsw, hr⟩ := chk_at C hm hf
  obtain ⟨hx, hb, hml, hown, hts, hE, hsz, hfr, hlo, hX, hin⟩ := T
  intro H locs cells slots ls st ⟨hL, hS, hH, hV, hc, hk⟩
  obtain ⟨l9, rfl, hl9, has⟩ := popA_spec _ _ _ _ _ hp
  rw [List.append_nil] at has
  subst has
  obtain ⟨sv, st, rfl, hS1, hS2⟩ := SR_split hS
  have hS3 := SR_rev hS1
  have hlen : sv.length = nar cc := by rw [← SR_len hS1]; exact hl9
  have hnc : 9 ≤ σ.2.2.2.length := by omega
  refine W_size fun hsize => ?_
  obtain ⟨es, tys, hK, hP, hlen2, hes, hC⟩ := id hH
  have hHs : H.size = base + (σ.2.2.2.length - 9) := by
    have h1 : H.size ≤ base + (σ.2.2.2.length - 9) := by omega
    have h2 : base + es.length ≤ H.size := by
      rcases Nat.eq_zero_or_pos es.length with z | z
      · have := hV.1; omega
      · have h3 : es.length - 1 < es.length := by omega
        have h4 := (hP _ _ (wl_get (List.getElem?_eq_getElem h3))).lt
        have h5 : base + (es.length - 1) < H.size := h4
        omega
    omega
  have hPc : ∀ U : State, U.heap = H → s.WarmedH U.vm → PcX base adc D l9.reverse σ sv.reverse.toArray U := by
    intro U hU hW
    refine ⟨_, rfl, hS3, ?_, ?_, by rw [hU]; exact hHs⟩
    · rw [hU]; exact hH.moved hW.alike
    · rw [hU]; exact hE.next hW (fun a h1 h2 => hV.2.1 a h1 h2)
  have hq := rsv_call hr
  obtain ⟨i, k, ps, hq, hk3⟩ := hq
  have hok : okC (mO mi) i k cc ps = true := C.2.2.2.2.2.1 _ (lk_in hq)
  have hcM : cc < nM := by
    rcases hk3 with ⟨-, rfl⟩ | ⟨-, rfl | rfl⟩ | ⟨-, rfl | rfl⟩
    · match ps, hok with
      | [a, b, d, e], h => simp only [okC, Bool.and_eq_true, decide_eq_true_eq] at h; exact h.2.2.2.2.1
    · match ps, hok with
      | [a, b, d], h => simp only [okC, Bool.and_eq_true, decide_eq_true_eq] at h; exact h.2.2.2.1
    · match ps, hok with
      | [a, b], h => simp only [okC, Bool.and_eq_true, decide_eq_true_eq] at h; exact h.2.2.2.1
    · match ps, hok with
      | [a, b, d], h => simp only [okC, Bool.and_eq_true, decide_eq_true_eq] at h; exact h.2.2.2.1
    · match ps, hok with
      | [a, b], h => simp only [okC, Bool.and_eq_true, decide_eq_true_eq] at h; exact h.2.2.2.1
  obtain ⟨hmono, hMet⟩ := hF cc l9.reverse σ v σ1 hcM hFc
  have hMet := hMet hnc
  obtain ⟨hcode, hmL, hpl, hcls, hpar, hnar, hclsn, hmlc, hrcv, hmO, -⟩ := okM_at C hcM
  have hR : (rmX d (σ1.2.2.2.length - σ.2.2.2.length) (ksum σ1.2.2.2 - ksum σ.2.2.2)).frames + 1 ≤ R.frames ∧ 8 + (mL cc + 11) + (rmX d (σ1.2.2.2.length - σ.2.2.2.length) (ksum σ1.2.2.2 - ksum σ.2.2.2)).locals ≤ R.locals := by
    refine ⟨?_, ?_⟩
    · show d + 1 ≤ R.frames; omega
    · show 8 + (mL cc + 11) + 64 * d ≤ R.locals; omega
  have hfit : cells + (σ1.2.2.2.length - σ.2.2.2.length) ≤ R.cells ∧ slots + (ksum σ1.2.2.2 - ksum σ.2.2.2) ≤ R.slots := by
    obtain ⟨h1, h2⟩ := hmono
    omega
  have hrest : (st.map fun v => v.category).sum ≤ 8 := by rw [SR_sum hS2]; exact hw
  have wsi : ∀ w ∈ wsm cc, w ∈ W0 := fun w hw => by
    rcases List.mem_cons.mp hw with q | q
    · rw [q]; exact hcode
    · exact q
  have fin : ∀ st0, st0 = sv ++ st → len = 3 → va_Run p l e R s m args below meth c H locs cells slots (σ1.2.2.2.length - σ.2.2.2.length) (ksum σ1.2.2.2 - ksum σ.2.2.2) (F0 m pc ls st0) st (QcX base adc D v σ1 sv.reverse.toArray) (fun q => base ≤ q) → W p l e R s m args below meth c H locs cells slots Q (F0 m pc ls (sv ++ st)) := by
    intro st0 e1 e2 hrun
    subst e1; subst e2
    refine call_go hrun hV (fun rv H1 locs1 ho hh hv => K _ _ _ _ _ _ ⟨hL, OR_cons ho hS2, hh, hv, ?_, ?_⟩)
    · obtain ⟨h1, h2⟩ := hmono; omega
    · obtain ⟨h1, h2⟩ := hmono; omega
  have hfix : CallFix p m c (mB mi) (mL mi) s args W0 (cn (mO mi)) := ⟨hx, hb, hml, hown, hts⟩
  have hl3 : n = 3 → len = 3 := by
    intro h3
    rcases hsw with z | z
    · rcases hk3 with ⟨rfl, -⟩ | ⟨rfl, -⟩ | ⟨rfl, -⟩ <;> cases z
    · omega
  rcases hk3 with ⟨rfl, rfl⟩ | ⟨rfl, hk4⟩ | ⟨rfl, hk4⟩
  · have hn3 : n = 3 := Nat.eq_of_beq_eq_true hl
    subst hn3
    have hok : ∃ a b d' e, hasW a (.methodLink (cn (mO mi)) i (mY cc)) = true ∧ hasW b (.instanceMethod (mY cc)) = true ∧ hasW d' (.selects (mY cc).cls (mY cc) (mY cc)) = true ∧ hasW e (.initialized (mY cc).cls) = true ∧ mS cc = false ∧ (mY cc).name ≠ "<init>" := by
      match ps, hok with
      | [a, b, d, e], h =>
        simp only [okC, Bool.and_eq_true, decide_eq_true_eq, Bool.not_eq_true'] at h
        exact ⟨a, b, d, e, h.1, h.2.1, h.2.2.1, h.2.2.2.1, h.2.2.2.2.2⟩
    obtain ⟨w1, w2, w3, w4, h1, h2, h3, h4, h5, h6⟩ := hok
    have hnar0 : 0 < nar cc := by rcases hnar with z | z; exact z; rw [h5] at z; cases z
    -- the receiver
    obtain ⟨y0, sv', hsv⟩ : ∃ y sv', sv = sv' ++ [y] := by
      rcases List.eq_nil_or_concat sv with z | ⟨a, b, z⟩
      · rw [z] at hlen; simp at hlen; omega
      · exact ⟨b, a, by rw [z, List.concat_eq_append]⟩
    have hrev : sv.reverse = y0 :: sv'.reverse := by rw [hsv]; simp
    have hSr := hS3
    rw [hrev] at hSr
    have hrcv2 : rcv cc = mO cc + 2 ∨ rcv cc = 1 := by
      rw [h5] at hrcv
      simp only [cond_false] at hrcv
      cases hd : decide ((mY cc).name = "<init>") with
      | true => rw [hd] at hrcv; exact Or.inr (of_decide_eq_true hrcv)
      | false => rw [hd] at hrcv; exact Or.inl (of_decide_eq_true hrcv)
    have hrec : ∃ b, y0 = .ref b ∧ ∃ cellB : Cell, H[b]? = some cellB ∧ cellB.vm.isStatics = false ∧ s.vm.findClass (mY cc).cls = some cellB.cls := by
      rcases hrcv2 with hrc | hrc
      · rw [hrc] at hck
        cases hl8 : l9.reverse with
        | nil => rw [hl8] at hSr; exact absurd hSr id
        | cons a0 ar =>
          rw [hl8] at hck hSr
          rcases a0 with x | x | q | x
          · cases hck
          · cases hck
          · have hy0 := VR_r hSr.1
            have hck : (match nth σ.2.2.2 q with | some (t, _) => Nat.beq t (mO cc) | none => false) = true := hck
            cases hnq : nth σ.2.2.2 q with
            | none => rw [hnq] at hck; cases hck
            | some tn =>
              obtain ⟨t, nn⟩ := tn
              rw [hnq] at hck
              have ht := Nat.eq_of_beq_eq_true hck
              subst ht
              have hmO : mO cc < 13 := by rcases hmO with z | z; exact z; rw [h5] at z; cases z
              refine ⟨_, hy0, ?_⟩
              rw [hclsn]
              rcases Nat.lt_or_ge q 9 with hq9 | hq9
              · have g1 := (hC q hq9).1
                rw [hnq] at g1
                rcases K0_not hq9 g1.symm with z | z | z | z
                · omega
                · rw [z] at g1 ⊢
                  obtain ⟨j, hj3, rfl⟩ := K0_12 hq9 g1.symm
                  rw [adr_lt hq9]
                  exact vk_recv (adK := fun i => adc (2 + i)) (i := j) hE.2.2.2.2.2.2.2.1 hj3 hV
                · omega
                · omega
              · obtain ⟨e0, g1, g2⟩ := ent_at hlen2 hes hq9 hnq
                obtain ⟨fs, rfl, g3, -⟩ := ER_obj hmO g2
                rw [adr_ge hq9]
                exact va_recv hK hP (clst_at g3) (wl_get g1)
          · cases hck
      · exfalso
        rw [h5, hrc] at hrcv
        simp only [cond_false] at hrcv
        cases hd : decide ((mY cc).name = "<init>") with
        | false =>
          rw [hd, cond_false] at hrcv
          have := of_decide_eq_true hrcv
          omega
        | true =>
          exact h6 (of_decide_eq_true hd)
    obtain ⟨b, rfl, hcell⟩ := hrec
    refine fin (sv'.reverse.reverse ++ .ref b :: st) (by rw [hsv]; simp) (hl3 rfl) ?_
    rw [hrev]
    refine va_runV hfix hMet (cwV (nar cc - 1) hts (good_W0 fun w hw => ?_) rfl rfl rfl ⟨rfl, hcls.1, hcls.2, by rw [hpar, h5]; rfl⟩ hR) ⟨PcX_blind, hcell, fun U hU hW => by have := hPc U hU hW; rw [hrev] at this; exact this⟩ rfl ?_ hL.size rfl (by show 2 * 0 + _ ≤ 8; omega) hdg hfit
    · unfold wsV at hw
      rcases List.mem_append.mp hw with z | z
      · simp only [List.mem_cons, List.not_mem_nil, or_false] at z
        rcases z with rfl | rfl | rfl | rfl
        · exact hasW_in h1
        · exact hasW_in h2
        · exact hasW_in h3
        · exact hasW_in h4
      · exact wsi w z
    · have : (sv' ++ [Value.ref b]).length = nar cc := by rw [← hsv]; exact hlen
      simp at this
      simp; omega
  · have hn3 : n = 3 := Nat.eq_of_beq_eq_true hl
    subst hn3
    refine fin (sv.reverse.reverse ++ st) (by rw [List.reverse_reverse]) (hl3 rfl) ?_
    have hS0 : mS cc = true := by
      rcases hk4 with rfl | rfl
      · match ps, hok with
        | [a, b, d], h => simp only [okC, Bool.and_eq_true, decide_eq_true_eq] at h; exact h.2.2.2.2
      · match ps, hok with
        | [a, b], h => simp only [okC, Bool.and_eq_true, decide_eq_true_eq] at h; exact h.2.2.2.2
    rcases hk4 with rfl | rfl
    · have hok : ∃ a b d', hasW a (.methodLink (cn (mO mi)) i (mY cc)) = true ∧ hasW b (.static (mY cc)) = true ∧ hasW d' (.initialized (mY cc).cls) = true := by
        match ps, hok with
        | [a, b, d], h => simp only [okC, Bool.and_eq_true, decide_eq_true_eq] at h; exact ⟨a, b, d, h.1, h.2.1, h.2.2.1⟩
      obtain ⟨w1, w2, w3, h1, h2, h3⟩ := hok
      refine va_runS hfix hMet (va_cwS (nar cc) hts (good_W0 fun w hw => ?_) rfl rfl rfl ⟨hcls.1, hcls.2, by rw [hpar, hS0]; rfl⟩ hR) ⟨PcX_blind, hPc⟩ rfl (by simpa using hlen) hL.size rfl (by show 2 * 0 + _ ≤ 8; omega) hdg hfit
      unfold va_wsS at hw
      rcases List.mem_append.mp hw with z | z
      · simp only [List.mem_cons, List.not_mem_nil, or_false] at z
        rcases z with rfl | rfl | rfl
        · exact hasW_in h1
        · exact hasW_in h2
        · exact hasW_in h3
      · exact wsi w z
    · have hok : (∃ p ∈ nestP, lw_tbl[p]? = some (.methodLinkNest (cn (mO mi)) i (mY cc) (cn 0))) ∧ ∃ b d', hasW b (.static (mY cc)) = true ∧ hasW d' (.initialized (mY cc).cls) = true := by
        match ps, hok with
        | [a, b], h => simp only [okC, Bool.and_eq_true, decide_eq_true_eq] at h; exact ⟨h.1, a, b, h.2.1, h.2.2.1⟩
      obtain ⟨⟨q, hq1, hq2⟩, w2, w3, h2, h3⟩ := hok
      exact va_runSN hfix hMet ⟨va_cnB (nar cc) hts (good_W0 wsi) rfl rfl rfl (hE.1 q hq1 _ hq2) (hts _ (hasW_in h3)) ⟨hcls.1, hcls.2, by rw [hpar, hS0]; rfl⟩ hR, hts _ (hasW_in h2), trivial⟩ ⟨PcX_blind, hPc⟩ rfl (by simpa using hlen) hL.size rfl (by show 2 * 0 + _ ≤ 8; omega) hdg hfit
  · have hn3 : n = 3 := Nat.eq_of_beq_eq_true hl
    subst hn3
    have hS0 : mS cc = false ∧ (mY cc).name = "<init>" ∧ mR cc = none := by
      rcases hk4 with rfl | rfl
      · match ps, hok with
        | [a, b, d], h => simp only [okC, Bool.and_eq_true, decide_eq_true_eq, Bool.not_eq_true'] at h; exact h.2.2.2.2
      · match ps, hok with
        | [a, b], h => simp only [okC, Bool.and_eq_true, decide_eq_true_eq, Bool.not_eq_true'] at h; exact h.2.2.2.2
    obtain ⟨hS0, hini, hmR⟩ := hS0
    have hnar0 : 0 < nar cc := by rcases hnar with z | z; exact z; rw [hS0] at z; cases z
    obtain ⟨y0, sv', hsv⟩ : ∃ y sv', sv = sv' ++ [y] := by
      rcases List.eq_nil_or_concat sv with z | ⟨a, b, z⟩
      · rw [z] at hlen; simp at hlen; omega
      · exact ⟨b, a, by rw [z, List.concat_eq_append]⟩
    have hrev : sv.reverse = y0 :: sv'.reverse := by rw [hsv]; simp
    have hSr := hS3
    rw [hrev] at hSr
    have hrc : rcv cc = 1 := by
      rw [hS0] at hrcv
      simp only [cond_false] at hrcv
      rw [decide_eq_true hini] at hrcv
      exact of_decide_eq_true hrcv
    have hrec : ∃ b, y0 = .ref b := by
      rw [hrc] at hck
      cases hl8 : l9.reverse with
      | nil => rw [hl8] at hSr; exact absurd hSr id
      | cons a0 ar =>
        rw [hl8] at hck hSr
        rcases a0 with x | x | q | x
        · cases hck
        · cases hck
        · exact ⟨_, VR_r hSr.1⟩
        · cases hck
    obtain ⟨b, rfl⟩ := hrec
    refine fin (sv'.reverse.reverse ++ .ref b :: st) (by rw [hsv]; simp) (hl3 rfl) ?_
    have hPc2 : ∀ U : State, U.heap = H → s.WarmedH U.vm → PcX base adc D l9.reverse σ (Value.ref b :: sv'.reverse).toArray U := fun U hU hW => by have := hPc U hU hW; rw [hrev] at this; exact this
    rw [hrev]
    have hln : sv'.reverse.length = nar cc - 1 := by
      have : (sv' ++ [Value.ref b]).length = nar cc := by rw [← hsv]; exact hlen
      simp at this
      simp; omega
    have hws : wsm cc = Jvm.Cond.code (mY cc) (mB cc) (mL cc) none :: W0 := by unfold wsm; rw [hmR]
    rcases hk4 with rfl | rfl
    · have hok : ∃ a b d', hasW a (.methodLink (cn (mO mi)) i (mY cc)) = true ∧ hasW b (.instanceMethod (mY cc)) = true ∧ hasW d' (.initialized (mY cc).cls) = true := by
        match ps, hok with
        | [a, b, d], h => simp only [okC, Bool.and_eq_true, decide_eq_true_eq] at h; exact ⟨a, b, d, h.1, h.2.1, h.2.2.1⟩
      obtain ⟨w1, w2, w3, h1, h2, h3⟩ := hok
      exact va_runI hfix hMet (cwI (nar cc - 1) hts (good_W0 wsi) hws rfl rfl (hts _ (hasW_in h3)) (hts _ (hasW_in h1)) (hts _ (hasW_in h2)) hini ⟨hcls.1, hcls.2, by rw [hpar, hS0]; rfl⟩ hR) ⟨PcX_blind, hPc2⟩ rfl hln hL.size rfl (by show 2 * 0 + _ ≤ 8; omega) hdg hfit
    · have hok : (∃ p ∈ nestP, lw_tbl[p]? = some (.methodLinkNest (cn (mO mi)) i (mY cc) (cn 0))) ∧ ∃ b d', hasW b (.instanceMethod (mY cc)) = true ∧ hasW d' (.initialized (mY cc).cls) = true := by
        match ps, hok with
        | [a, b], h => simp only [okC, Bool.and_eq_true, decide_eq_true_eq] at h; exact ⟨h.1, a, b, h.2.1, h.2.2.1⟩
      obtain ⟨⟨q, hq1, hq2⟩, w2, w3, h2, h3⟩ := hok
      exact va_runIN hfix hMet ⟨va_cnB (nar cc - 1) hts (good_W0 wsi) hws rfl rfl (hE.1 q hq1 _ hq2) (hts _ (hasW_in h3)) ⟨hcls.1, hcls.2, by rw [hpar, hS0]; rfl⟩ hR, hini, hts _ (hasW_in h2)⟩ ⟨PcX_blind, hPc2⟩ rfl hln hL.size rfl (by show 2 * 0 + _ ≤ 8; omega) hdg hfit
end WALK
