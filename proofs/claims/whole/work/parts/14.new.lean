theorem ksum_app (l : List (Nat × Nat)) (q : Nat × Nat) : ksum (l ++ [q]) = ksum l + q.2 := by
  induction l with
  | nil => simp [ksum]
  | cons a r ih => simp only [List.cons_append, ksum, ih]; omega
theorem nth_app {α : Type} {l : List α} {a b : α} {i : Nat} (h : nth l i = some b) : nth (l ++ [a]) i = some b := by
  have := nth_lt h
  rw [nth_get] at *
  rw [List.getElem?_append_left this]
  exact h
theorem nth_end {α : Type} (l : List α) (a : α) : nth (l ++ [a]) l.length = some a := by
  rw [nth_get]
  simp
theorem q_end {base : Nat} {D : va_G} {es : List va_E} {q : Nat} {e : va_E} {H : Heap} (hP : va_P D clst (wl base es ++ [(q, e)]) H) (hD : va_D (fun q => base ≤ q) (wl base es ++ [(q, e)])) (hz : H.size ≤ base + es.length + 1) : q = base + es.length := by
  have hl : (wl base es).length = es.length := by unfold wl; simp
  have hq : (wl base es ++ [(q, e)])[es.length]? = some (q, e) := by rw [List.getElem?_append_right (by omega), hl, Nat.sub_self]; rfl
  have h1 : q < H.size := (hP _ _ hq).lt
  have h2 : base ≤ q := hD.2 _ _ hq
  rcases Nat.lt_or_ge q (base + es.length) with h | h
  · exfalso
    have h3 : q - base < es.length := by omega
    have h4 : (wl base es ++ [(q, e)])[q - base]? = some (base + (q - base), es[q - base]) := by rw [List.getElem?_append_left (by omega)]; exact wl_get (List.getElem?_eq_getElem h3)
    have := hD.1 _ _ _ _ h4 hq (by show base + (q - base) = q; omega)
    omega
  · omega
theorem HR_push {base : Nat} {adc : Nat → Nat} {D : va_G} {s : State} {σ : Sto} {es : List va_E} {tys tys' : List (ClassId × FieldType)} {t n q : Nat} {e' : va_E} {H1 : Heap} (hK : va_K D clst tys' s) (ht : ∀ x ∈ tys, x ∈ tys') (hP : va_P D clst (wl base es ++ [(q, e')]) H1) (hq : q = base + es.length) (hlen : es.length + 9 = σ.2.2.2.length) (hes : ∀ i e, es[i]? = some e → ∃ t n, nth σ.2.2.2 (9 + i) = some (t, n) ∧ ER (adr base adc) tys σ (9 + i) t n e) (hC : CR σ)
    (he : ER (adr base adc) tys' (mk σ (t, n)) σ.2.2.2.length t n e') : HR base adc D s (mk σ (t, n)) H1 := by
  subst hq
  refine ⟨es ++ [e'], tys', hK, by rw [wl_app]; exact hP, ?_, fun i e h => ?_, fun a ha => ?_⟩
  · show (es ++ [e']).length + 9 = (σ.2.2.2 ++ [(t, n)]).length
    simp; omega
  · show ∃ t' n', nth (σ.2.2.2 ++ [(t, n)]) (9 + i) = some (t', n') ∧ _
    rcases Nat.lt_or_ge i es.length with hi | hi
    · rw [List.getElem?_append_left hi] at h
      obtain ⟨t', n', h1, h2⟩ := hes i e h
      refine ⟨t', n', nth_app h1, (h2.tys ht).same (fun j => ?_) (fun j => ?_) (fun j => ?_)⟩
      all_goals
        show zr _ _ _ _ _ = _
        rw [zr_eq, if_neg (by omega)]
    · rw [List.getElem?_append_right hi] at h
      have hz : i - es.length < 1 := (List.getElem?_eq_some_iff.mp h).1
      rw [show i - es.length = 0 by omega] at h
      cases h
      rw [show 9 + i = σ.2.2.2.length by omega]
      exact ⟨t, n, nth_end _ _, he⟩
  · show nth (σ.2.2.2 ++ [(t, n)]) a = _ ∧ _
    refine ⟨?_, fun j => ?_⟩
    · have hlt : a < σ.2.2.2.length := by omega
      have h0 : nth σ.2.2.2 a = some σ.2.2.2[a] := by rw [nth_get]; exact List.getElem?_eq_getElem hlt
      rw [nth_app h0, ← h0]
      exact (hC a ha).1
    · have h1 := (hC a ha).2 j
      constructor
      · show zr _ _ _ _ _ = _
        rw [zr_eq, if_neg (by omega)]
        exact h1.1
      · show zr _ _ _ _ _ = _
        rw [zr_eq, if_neg (by omega)]
        exact h1.2
section STEPN
variable {p : Program} {l : Launch} {e : Jvm.Env} {R : Room} {s : State} {m : MethodId} {args : Array Value} {below : List Frame} {meth : Method} {c : Code} {Q : State → Prop}
variable {base : Nat} {adc : Nat → Nat} {D : va_G} {mi d nc0 ks0 : Nat} {X : Option (Nat × (Nat → Int))}
variable {pc pc' : Nat} {al al' ast ast' : List AV} {σ σ' : Sto}
theorem w_new (C : Chk) (T : CtX p R s m args meth c base adc mi d nc0 X) {idx : Nat} {q : Nat × List Nat} (hq : lk ntab (mO mi) idx = some q) (hs : s_new q.1 (pc + 3) al ast σ = some (pc', al', ast', σ')) (hcap : σ'.2.2.2.length ≤ R.cells + nc0 ∧ ksum σ'.2.2.2 ≤ R.slots + ks0) (hdg : decode (mB mi) pc = .ok (.new idx, 3))
    (K : WX p l e R s m args below meth c Q base adc D mi nc0 ks0 pc' al' ast' σ') : WX p l e R s m args below meth c Q base adc D mi nc0 ks0 pc al ast σ := by
  obtain ⟨hx, hb, hml, hown, hts, hE, hsz, hfr, hlo, hX, hin⟩ := T
  have hok := C.2.2.2.2.2.2.1 _ (lk_in hq)
  obtain ⟨ec, pl⟩ := q
  have hok : okN (mO mi) idx ec pl = true := hok
  have hs : s_new ec (pc + 3) al ast σ = some (pc', al', ast', σ') := hs
  intro H locs cells slots ls st ⟨hL, hS, hH, hV, hc, hk⟩
  unfold s_new at hs
  split at hs
  · next hc12 =>
    cases hs
    unfold okN at hok
    split at hok
    · next a b dd =>
      simp only [Bool.and_eq_true, decide_eq_true_eq] at hok
      obtain ⟨-, o2, w1, w2, w3⟩ := hok
      obtain ⟨es, tys, hK, hP, hlen, hes, hC⟩ := id hH
      have hT := C.2.2.2.2.2.2.2.2 (ec / 100) hc12
      have c1 : (mk σ (ec / 100, ec % 100)).2.2.2.length = σ.2.2.2.length + 1 := by show (σ.2.2.2 ++ [_]).length = _; simp
      have c2 : ksum (mk σ (ec / 100, ec % 100)).2.2.2 = ksum σ.2.2.2 + ec % 100 := ksum_app _ _
      rw [c1, c2] at hcap
      refine va_new hx hb hts (okT_in hT) (tyF (ec / 100)) (fun j hj => (okT_ty hT j hj).1) hown (hts _ (hasW_in w1)) (by rw [← o2]; exact hts _ (hasW_in w2)) (hts _ (hasW_in w3)) hK hP wl_D hV (fun q h => by omega) (clst_at hc12) (fs := (List.range (nF (ec / 100))).map (fun j => defaultValue (tyF (ec / 100) j))) (fun j hj => ?_) (by omega) (by omega) hdg (fun q H1 hP1 hD1 hV1 => W_size fun hz => ?_)
      · show _ = (List.map _ _).getD j Value.null
        rw [List.getD_eq_getElem?_getD, List.getElem?_map, List.getElem?_range hj]
        rfl
      · have hqe := q_end hP1 hD1 (by omega)
        refine K _ _ _ _ _ _ ⟨hL, ⟨?_, hS⟩, HR_push hK (fun _ h => h) hP1 hqe hlen hes hC ⟨rfl, hc12, o2, by simp [o2], fun j hj => ⟨defaultValue (tyF (ec / 100) j), by rw [List.getElem?_map, List.getElem?_range (by omega)]; rfl, ?_⟩⟩, hV1, by rw [c1]; omega, by rw [c2]; omega⟩
        · show q = adr base adc σ.2.2.2.length
          rw [hqe, adr_ge (by omega)]
          omega
        · have ht := tyOk_of (okT_ty hT j (by omega)).2
          rcases ht with ⟨z, t⟩ | ⟨z, t⟩ | ⟨z, t⟩ | ⟨z, t⟩
          · rw [z, t]
            show (0 : Int32).toInt = zr _ _ _ _ _
            rw [zr_eq, if_pos rfl]; rfl
          · rw [z, t]
            show (0 : Int64).toInt = zr _ _ _ _ _
            rw [zr_eq, if_pos rfl]; rfl
          · rw [z]
            have : defaultValue (tyF (ec / 100) j) = .null := by rcases t with ⟨_, t⟩ | ⟨_, t⟩ <;> (rw [t]; rfl)
            rw [this]
            show VR _ (avr (zr _ _ _ _ _)) _
            rw [zr_eq, if_pos rfl]
            trivial
          · rw [z, t]
            show (0 : Int32).toInt = zr _ _ _ _ _
            rw [zr_eq, if_pos rfl]; rfl
    · cases hok
  · cases hs
theorem w_newa (T : CtX p R s m args meth c base adc mi d nc0 X) {ty : Jvm.ClassFile.ArrayType} (hty : ty = .int ∨ (ty = .long ∨ ty = .boolean)) (hs : s_newa (tyNo ty) (pc + 2) al ast σ = some (pc', al', ast', σ')) (hcap : σ'.2.2.2.length ≤ R.cells + nc0 ∧ ksum σ'.2.2.2 ≤ R.slots + ks0) (hw : ∀ t, (t = .int ∨ t = .long ∨ t = .boolean) → Jvm.Cond.arrayClass t ∈ W0) (hdg : decode (mB mi) pc = .ok (.newarray ty, 2))
    (K : WX p l e R s m args below meth c Q base adc D mi nc0 ks0 pc' al' ast' σ') : WX p l e R s m args below meth c Q base adc D mi nc0 ks0 pc al ast σ := by
  obtain ⟨hx, hb, hml, hown, hts, hE, hsz, hfr, hlo, hX, hin⟩ := T
  intro H locs cells slots ls st ⟨hL, hS, hH, hV, hc, hk⟩
  unfold s_newa at hs
  split at hs
  · next x r =>
    obtain ⟨x, st, rfl, rfl, hS1⟩ := SR_i hS
    split at hs
    · next hi =>
      cases hs
      obtain ⟨es, tys, hK, hP, hlen, hes, hC⟩ := id hH
      have c1 : (mk σ (tyNo ty, x.toInt.toNat)).2.2.2.length = σ.2.2.2.length + 1 := by show (σ.2.2.2 ++ [_]).length = _; simp
      have c2 : ksum (mk σ (tyNo ty, x.toInt.toNat)).2.2.2 = ksum σ.2.2.2 + x.toInt.toNat := ksum_app _ _
      rw [c1, c2] at hcap
      have hn0 : ¬ x < 0 := by rw [Int32.lt_iff_toInt_lt]; show ¬ x.toInt < 0; omega
      have fin : ∀ (ft : FieldType) (a0 : vp_A), newarray.typeOf ty = ft → (∀ cA : ClassId, vp_cell cA a0 = arrV cA x.toInt.toNat (fun _ => defaultValue ft)) → Jvm.Cond.arrayClass (newarray.typeOf ty) ∈ W0 → componentBytes ft ≤ 8 → (∀ cA tys', (cA, ft) ∈ tys' → ER (adr base adc) tys' (mk σ (tyNo ty, x.toInt.toNat)) σ.2.2.2.length (tyNo ty) x.toInt.toNat (.inl (cA, a0))) → W p l e R s m args below meth c H locs cells slots Q (F0 m pc ls (.int x :: st)) := by
        intro ft a0 h1 h2 h3 h4 h5
        refine va_newa hx hb (hts _ h3) h1 hK hP wl_D hV (fun q h => by omega) h2 hn0 (toI_nat x) ?_ (by omega) (by omega) hdg (fun q cA H1 hK1 hP1 hD1 hV1 => W_size fun hz => ?_)
        · have : x.toInt.toNat ≤ 1000000 := by omega
          exact Nat.le_trans (Nat.mul_le_mul this h4) (Nat.le_of_ble_eq_true rfl)
        · have hqe := q_end hP1 hD1 (by omega)
          refine K _ _ _ _ _ _ ⟨hL, ⟨?_, hS1⟩, HR_push hK1 (fun _ h => List.mem_append_left _ h) hP1 hqe hlen hes hC (h5 _ _ (by simp)), hV1, by rw [c1]; omega, by rw [c2]; omega⟩
          show q = adr base adc σ.2.2.2.length
          rw [hqe, adr_ge (by omega)]
          omega
      rcases hty with rfl | rfl | rfl
      · refine fin .int (x.toInt.toNat, .inl (fun _ => 0)) rfl (fun _ => rfl) (hw _ (Or.inl rfl)) (by decide) (fun cA tys' h => ⟨rfl, Or.inl ⟨rfl, h⟩, fun j _ => ?_⟩)
        show (0 : Int32).toInt = zr _ _ _ _ _
        rw [zr_eq, if_pos rfl]; rfl
      · refine fin .long (x.toInt.toNat, .inr (.inl (fun _ => 0))) rfl (fun _ => rfl) (hw _ (Or.inr (Or.inl rfl))) (by decide) (fun cA tys' h => ⟨rfl, ⟨rfl, h⟩, fun j _ => ?_⟩)
        show (0 : Int64).toInt = zr _ _ _ _ _
        rw [zr_eq, if_pos rfl]; rfl
      · refine fin .boolean (x.toInt.toNat, .inl (fun _ => 0)) rfl (fun _ => rfl) (hw _ (Or.inr (Or.inr rfl))) (by decide) (fun cA tys' h => ⟨rfl, Or.inr ⟨rfl, h⟩, fun j _ => ?_⟩)
        show (0 : Int32).toInt = zr _ _ _ _ _
        rw [zr_eq, if_pos rfl]; rfl
    · cases hs
  · cases hs
theorem w_newq (C : Chk) (T : CtX p R s m args meth c base adc mi d nc0 X) {idx : Nat} {q : Nat × Nat} (hq : lk atab (mO mi) idx = some q) (hs : s_newa (110 + q.1) (pc + 3) al ast σ = some (pc', al', ast', σ')) (hcap : σ'.2.2.2.length ≤ R.cells + nc0 ∧ ksum σ'.2.2.2 ≤ R.slots + ks0) (hdg : decode (mB mi) pc = .ok (.anewarray idx, 3))
    (K : WX p l e R s m args below meth c Q base adc D mi nc0 ks0 pc' al' ast' σ') : WX p l e R s m args below meth c Q base adc D mi nc0 ks0 pc al ast σ := by
  obtain ⟨hx, hb, hml, hown, hts, hE, hsz, hfr, hlo, hX, hin⟩ := T
  have hok := C.2.2.2.2.2.2.2.1 _ (lk_in hq)
  obtain ⟨cc, pl⟩ := q
  have hok : okA (mO mi) idx cc pl = true := hok
  have hs : s_newa (110 + cc) (pc + 3) al ast σ = some (pc', al', ast', σ') := hs
  unfold okA at hok
  rw [Bool.and_eq_true, decide_eq_true_eq] at hok
  intro H locs cells slots ls st ⟨hL, hS, hH, hV, hc, hk⟩
  unfold s_newa at hs
  split at hs
  · next x r =>
    obtain ⟨x, st, rfl, rfl, hS1⟩ := SR_i hS
    split at hs
    · next hi =>
      cases hs
      obtain ⟨es, tys, hK, hP, hlen, hes, hC⟩ := id hH
      have c1 : (mk σ (110 + cc, x.toInt.toNat)).2.2.2.length = σ.2.2.2.length + 1 := by show (σ.2.2.2 ++ [_]).length = _; simp
      have c2 : ksum (mk σ (110 + cc, x.toInt.toNat)).2.2.2 = ksum σ.2.2.2 + x.toInt.toNat := ksum_app _ _
      rw [c1, c2] at hcap
      have hn0 : ¬ x < 0 := by rw [Int32.lt_iff_toInt_lt]; show ¬ x.toInt < 0; omega
      have hAO := hE.2.2.2.2.2.2.2.2.2 cc hok.1
      refine va_newq hx hb hown (hts _ (hasW_in hok.2)) hAO hK hP wl_D hV (fun q h => by omega) hn0 (toI_nat x) (by omega) (by omega) (by omega) hdg (fun q cA H1 hK1 hP1 hD1 hV1 => W_size fun hz => ?_)
      have hqe := q_end hP1 hD1 (by omega)
      refine K _ _ _ _ _ _ ⟨hL, ⟨?_, hS1⟩, HR_push hK1 (fun _ h => List.mem_append_left _ h) hP1 hqe hlen hes hC ⟨rfl, ⟨cc, by omega, rfl, by simp⟩, fun j _ => ?_⟩, hV1, by rw [c1]; omega, by rw [c2]; omega⟩
      · show q = adr base adc σ.2.2.2.length
        rw [hqe, adr_ge (by omega)]
        omega
      · show none = Option.map _ (zr (α := Option Nat) _ _ _ _ _)
        rw [zr_eq, if_pos rfl]; rfl
    · cases hs
  · cases hs
theorem max_toInt (x y : Int32) : (if x < y then y else x).toInt = if x.toInt < y.toInt then y.toInt else x.toInt := by
  simp only [Int32.lt_iff_toInt_lt]
  split <;> rfl
theorem okC_6 {own idx b : Nat} {ps : List Nat} (h : okC own idx 6 b ps = true) (hb : b < 2) : ∃ w1 w2 w3 w4 : Nat, hasW w1 (.methodLink (cn own) idx (if b = 0 then Lib.Math.min.name else Lib.Math.max.name)) = true ∧ hasW w2 (.static (if b = 0 then Lib.Math.min.name else Lib.Math.max.name)) = true ∧ hasW w3 (.initialized "java/lang/Math") = true ∧ hasW w4 (.code (if b = 0 then Lib.Math.min.name else Lib.Math.max.name) (if b = 0 then Lib.Math.min.code else Lib.Math.max.code) 2 (some .int)) = true := by
  match ps, h with
  | [x, y, z, u], h =>
    match b, hb, h with
    | 0, _, h =>
      simp only [okC, Bool.and_eq_true] at h
      exact ⟨x, y, z, u, h⟩
    | 1, _, h =>
      simp only [okC, Bool.and_eq_true] at h
      exact ⟨x, y, z, u, h⟩
    | b + 2, hb, _ => omega
theorem min_toInt (x y : Int32) : (if y < x then y else x).toInt = if y.toInt < x.toInt then y.toInt else x.toInt := by
  simp only [Int32.lt_iff_toInt_lt]
  split <;> rfl
theorem w_min (C : Chk) (T : CtX p R s m args meth c base adc mi d nc0 X) {idx : Nat} {ps : List Nat} (hq : lk ctab (mO mi) idx = some (6, (0, ps))) (hs : s_min (pc + 3) al ast σ = some (pc', al', ast', σ')) (hcap : σ'.2.2.2.length ≤ R.cells + nc0 ∧ ksum σ'.2.2.2 ≤ R.slots + ks0) (hdg : decode (mB mi) pc = .ok (.invokestatic idx, 3))
    (K : WX p l e R s m args below meth c Q base adc D mi nc0 ks0 pc' al' ast' σ') : WX p l e R s m args below meth c Q base adc D mi nc0 ks0 pc al ast σ := by
  obtain ⟨hx, hb, hml, hown, hts, hE, hsz, hfr, hlo, hX, hin⟩ := T
  have hok := C.2.2.2.2.2.1 _ (lk_in hq)
  have hok : okC (mO mi) idx 6 0 ps = true := hok
  obtain ⟨w1, w2, w3, w4, h1, h2, h3, h4⟩ := okC_6 hok (by decide)
  intro H locs cells slots ls st ⟨hL, hS, hH, hV, hc, hk⟩
  unfold s_min at hs
  split at hs
  · next r =>
    rw [nble] at hs
    by_cases hw : wsum r ≤ 20
    · rw [decide_eq_true hw] at hs
      cases hs
      obtain ⟨y, st, rfl, rfl, hS1⟩ := SR_i hS
      obtain ⟨x, st, rfl, rfl, hS2⟩ := SR_i hS1
      refine va_mmin hx hb (by rw [hml, hL.size]) hown (hts _ (hasW_in h1)) (hts _ (hasW_in h2)) (hts _ (hasW_in h3)) (hts _ (hasW_in h4)) (by omega) (by rw [SR_sum hS2]; omega) (by omega) (by omega) hdg (K _ _ _ _ _ _ ⟨hL, ⟨min_toInt x y, hS2⟩, hH, hV, hc, hk⟩)
    · rw [decide_eq_false hw] at hs; cases hs
  · cases hs
theorem w_max (C : Chk) (T : CtX p R s m args meth c base adc mi d nc0 X) {idx : Nat} {ps : List Nat} (hq : lk ctab (mO mi) idx = some (6, (1, ps))) (hs : s_max (pc + 3) al ast σ = some (pc', al', ast', σ')) (hcap : σ'.2.2.2.length ≤ R.cells + nc0 ∧ ksum σ'.2.2.2 ≤ R.slots + ks0) (hdg : decode (mB mi) pc = .ok (.invokestatic idx, 3))
    (K : WX p l e R s m args below meth c Q base adc D mi nc0 ks0 pc' al' ast' σ') : WX p l e R s m args below meth c Q base adc D mi nc0 ks0 pc al ast σ := by
  obtain ⟨hx, hb, hml, hown, hts, hE, hsz, hfr, hlo, hX, hin⟩ := T
  have hok := C.2.2.2.2.2.1 _ (lk_in hq)
  have hok : okC (mO mi) idx 6 1 ps = true := hok
  obtain ⟨w1, w2, w3, w4, h1, h2, h3, h4⟩ := okC_6 hok (by decide)
  intro H locs cells slots ls st ⟨hL, hS, hH, hV, hc, hk⟩
  unfold s_max at hs
  split at hs
  · next r =>
    rw [nble] at hs
    by_cases hw : wsum r ≤ 20
    · rw [decide_eq_true hw] at hs
      cases hs
      obtain ⟨y, st, rfl, rfl, hS1⟩ := SR_i hS
      obtain ⟨x, st, rfl, rfl, hS2⟩ := SR_i hS1
      refine va_mmax hx hb (by rw [hml, hL.size]) hown (hts _ (hasW_in h1)) (hts _ (hasW_in h2)) (hts _ (hasW_in h3)) (hts _ (hasW_in h4)) (by omega) (by rw [SR_sum hS2]; omega) (by omega) (by omega) hdg (K _ _ _ _ _ _ ⟨hL, ⟨max_toInt x y, hS2⟩, hH, hV, hc, hk⟩)
    · rw [decide_eq_false hw] at hs; cases hs
  · cases hs
theorem w_oini (C : Chk) (T : CtX p R s m args meth c base adc mi d nc0 X) {idx b : Nat} {ps : List Nat} (hq : lk ctab (mO mi) idx = some (5, (b, ps))) (hs : s_oini (pc + 3) al ast σ = some (pc', al', ast', σ')) (hdg : decode (mB mi) pc = .ok (.invokespecial idx, 3))
    (K : WX p l e R s m args below meth c Q base adc D mi nc0 ks0 pc' al' ast' σ') : WX p l e R s m args below meth c Q base adc D mi nc0 ks0 pc al ast σ := by
  obtain ⟨hx, hb, hml, hown, hts, hE, hsz, hfr, hlo, hX, hin⟩ := T
  have hok := C.2.2.2.2.2.1 _ (lk_in hq)
  have hok : okC (mO mi) idx 5 b ps = true := hok
  have hok : ∃ x y z, hasW x (.methodLink (cn (mO mi)) idx Lib.objectInit) = true ∧ hasW y (.instanceMethod Lib.objectInit) = true ∧ hasW z (.code Lib.objectInit ⟨#[0xb1]⟩ 1 none) = true := by
    match ps, hok with
    | [x, y, z], h =>
      simp only [okC, Bool.and_eq_true] at h
      exact ⟨x, y, z, h⟩
  obtain ⟨w1, w2, w3, h1, h2, h3⟩ := hok
  intro H locs cells slots ls st ⟨hL, hS, hH, hV, hc, hk⟩
  unfold s_oini at hs
  split at hs
  · next r =>
    rw [nble] at hs
    by_cases hw : wsum r ≤ 20
    · rw [decide_eq_true hw] at hs
      cases hs
      obtain ⟨st, rfl, hS1⟩ := SR_r hS
      refine W.objInit hx hb hown (hts _ (hasW_in h1)) (hts _ (hasW_in h2)) (hts _ (hasW_in h3)) rfl (by rw [hml]; exact hL.size) rfl hdg (by omega) (by show 2 * 0 + _ + 12 ≤ _; rw [SR_sum hS1]; omega) ?_
      exact K _ _ _ _ _ _ ⟨hL, hS1, hH, hV, hc, hk⟩
    · rw [decide_eq_false hw] at hs; cases hs
  · cases hs
theorem nfw : nativeFrameWords "java/lang/System" "arraycopy" 5 ≤ 30 := by decide +kernel
theorem cpyI {f g : Nat → Int32} {I : Nat → Nat → Int} {ks kd ns nd sp dp n : Nat} (hf : ∀ j, j < ns → (f j).toInt = I ks j) (hg : ∀ j, j < nd → (g j).toInt = I kd j) (h : sp + n ≤ ns) : ∀ j, j < nd → (va_cpy f g sp dp n j).toInt = cpy I ks sp kd dp n kd j := by
  intro j hj
  rw [cpy_eq]
  unfold va_cpy
  by_cases z : dp ≤ j ∧ j < dp + n
  · rw [if_pos z, if_pos ⟨rfl, z⟩]
    exact hf _ (by omega)
  · rw [if_neg z, if_neg (fun q => z q.2)]
    exact hg j hj
theorem cpyL {f g : Nat → Int64} {I : Nat → Nat → Int} {ks kd ns nd sp dp n : Nat} (hf : ∀ j, j < ns → (f j).toInt = I ks j) (hg : ∀ j, j < nd → (g j).toInt = I kd j) (h : sp + n ≤ ns) : ∀ j, j < nd → (va_cpy f g sp dp n j).toInt = cpy I ks sp kd dp n kd j := by
  intro j hj
  rw [cpy_eq]
  unfold va_cpy
  by_cases z : dp ≤ j ∧ j < dp + n
  · rw [if_pos z, if_pos ⟨rfl, z⟩]
    exact hf _ (by omega)
  · rw [if_neg z, if_neg (fun q => z q.2)]
    exact hg j hj
theorem cpy_ne {α : Type} {f : Nat → Nat → α} {s sp d dp n a b : Nat} (h : a ≠ d) : cpy f s sp d dp n a b = f a b := by
  rw [cpy_eq, if_neg (fun q => h q.1)]
theorem w_copy (C : Chk) (T : CtX p R s m args meth c base adc mi d nc0 X) {idx : Nat} {ps : List Nat} (hq : lk ctab (mO mi) idx = some (6, (2, ps))) (hs : s_copy (pc + 3) al ast σ = some (pc', al', ast', σ')) (hdg : decode (mB mi) pc = .ok (.invokestatic idx, 3))
    (K : WX p l e R s m args below meth c Q base adc D mi nc0 ks0 pc' al' ast' σ') : WX p l e R s m args below meth c Q base adc D mi nc0 ks0 pc al ast σ := by
  obtain ⟨hx, hb, hml, hown, hts, hE, hsz, hfr, hlo, hX, hin⟩ := T
  have hok := C.2.2.2.2.2.1 _ (lk_in hq)
  have hok : okC (mO mi) idx 6 2 ps = true := hok
  have hok : ∃ x y z u, hasW x (.methodLink (cn (mO mi)) idx arraycopyName) = true ∧ hasW y (.native arraycopyName) = true ∧ hasW z (.static arraycopyName) = true ∧ hasW u (.initialized "java/lang/System") = true := by
    match ps, hok with
    | [x, y, z, u], h =>
      simp only [okC, Bool.and_eq_true] at h
      exact ⟨x, y, z, u, h⟩
  obtain ⟨w1, w2, w3, w4, h1, h2, h3, h4⟩ := hok
  have hnf := nfw
  intro H locs cells slots ls st ⟨hL, hS, hH, hV, hc, hk⟩
  unfold s_copy at hs
  split at hs
  · next mm dp kd sp ks r =>
    rw [nble] at hs
    by_cases hw : wsum r ≤ 20
    · rw [decide_eq_true hw, cond_true] at hs
      obtain ⟨mm, st, rfl, rfl, hS1⟩ := SR_i hS
      obtain ⟨dp, st, rfl, rfl, hS2⟩ := SR_i hS1
      obtain ⟨st, rfl, hS3⟩ := SR_r hS2
      obtain ⟨sp, st, rfl, rfl, hS4⟩ := SR_i hS3
      obtain ⟨st, rfl, hS5⟩ := SR_r hS4
      have ng : ∀ z : Int32, 0 ≤ z.toInt → ¬ z < 0 := fun z h => by rw [Int32.lt_iff_toInt_lt]; show ¬ z.toInt < 0; omega
      obtain ⟨es, tys, hK, hP, hlen, hes, hC⟩ := id hH
      split at hs
      · next ns nd hn1 hn2 =>
        split at hs
        · next hi =>
          cases hs
          obtain ⟨⟨hs9, hd9⟩, ⟨i1, i2⟩, i3, i4, i5⟩ := hi
          obtain ⟨e0, g1, g2⟩ := ent_at hlen hes hs9 hn1
          obtain ⟨e1, g3, g4⟩ := ent_at hlen hes hd9 hn2
          obtain ⟨cA, f, t0, rfl, ht0, hf⟩ := ER_100 g2
          obtain ⟨cB, g, t1, rfl, ht1, hg⟩ := ER_100 g4
          rw [adr_ge hs9, adr_ge hd9]
          refine va_copyi hx hb (by rw [hml, hL.size]) hown (hts _ (hasW_in h1)) (hts _ (hasW_in h2)) (hts _ (hasW_in h3)) (hts _ (hasW_in h4)) hK hP wl_D hV (ks - 9) (kd - 9) t0 t1 (wl_get g1) (wl_get g3) ht0 ht1 rfl (ng _ i1) (ng _ i2) (ng _ i3) (by rw [toI_nat, toI_nat]; omega) (by rw [toI_nat, toI_nat]; omega) (fun _ _ => rfl) (by omega) (by rw [SR_sum hS5]; omega) hdg (fun H1 locs1 hP1 _ hV1 => ?_)
          rw [wl_set] at hP1
          exact K _ _ _ _ _ _ ⟨hL, hS5, HR_put hK hP1 hlen hes hC hd9 hn2 ⟨rfl, Or.inl ⟨rfl, List.mem_of_getElem? ht1⟩, cpyI hf hg (by rw [toI_nat, toI_nat]; omega)⟩ rfl (fun a ha j => ⟨cpy_ne ha, rfl, rfl⟩), hV1, hc, hk⟩
        · cases hs
      · next ns nd hn1 hn2 =>
        split at hs
        · next hi =>
          cases hs
          obtain ⟨⟨hs9, hd9⟩, ⟨i1, i2⟩, i3, i4, i5⟩ := hi
          obtain ⟨e0, g1, g2⟩ := ent_at hlen hes hs9 hn1
          obtain ⟨e1, g3, g4⟩ := ent_at hlen hes hd9 hn2
          obtain ⟨cA, f, t0, rfl, ht0, hf⟩ := ER_101 g2
          obtain ⟨cB, g, t1, rfl, ht1, hg⟩ := ER_101 g4
          rw [adr_ge hs9, adr_ge hd9]
          refine va_copyl hx hb (by rw [hml, hL.size]) hown (hts _ (hasW_in h1)) (hts _ (hasW_in h2)) (hts _ (hasW_in h3)) (hts _ (hasW_in h4)) hK hP wl_D hV (ks - 9) (kd - 9) t0 t1 (wl_get g1) (wl_get g3) ht0 ht1 rfl (ng _ i1) (ng _ i2) (ng _ i3) (by rw [toI_nat, toI_nat]; omega) (by rw [toI_nat, toI_nat]; omega) (fun _ _ => rfl) (by omega) (by rw [SR_sum hS5]; omega) hdg (fun H1 locs1 hP1 _ hV1 => ?_)
          rw [wl_set] at hP1
          exact K _ _ _ _ _ _ ⟨hL, hS5, HR_put hK hP1 hlen hes hC hd9 hn2 ⟨rfl, ⟨rfl, List.mem_of_getElem? ht1⟩, cpyL hf hg (by rw [toI_nat, toI_nat]; omega)⟩ rfl (fun a ha j => ⟨rfl, cpy_ne ha, rfl⟩), hV1, hc, hk⟩
        · cases hs
      · cases hs
    · rw [decide_eq_false hw] at hs; cases hs
  · cases hs
end STEPN
