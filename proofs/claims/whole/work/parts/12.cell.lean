theorem hR_const {base : Nat} {adc : Nat → Nat} {D : va_G} {s : State} {σ : Sto} {H : Heap} (h : HR base adc D s σ H) : CR σ := h.choose_spec.choose_spec.2.2.2.2
theorem updI {f : Nat → Int32} {I : Nat → Nat → Int} {k n i : Nat} {x : Int32} (h : ∀ j, j < n → (f j).toInt = I k j) : ∀ j, j < n → (upd f i x j).toInt = up I k i x.toInt k j := by
  intro j hj
  rw [up_eq]
  show (if j = i then x else f j).toInt = _
  by_cases q : j = i
  · rw [if_pos q, if_pos ⟨rfl, q⟩]
  · rw [if_neg q, if_neg (fun z => q z.2)]
    exact h j hj
theorem updL {f : Nat → Int64} {I : Nat → Nat → Int} {k n i : Nat} {x : Int64} (h : ∀ j, j < n → (f j).toInt = I k j) : ∀ j, j < n → (vp_updL f i x j).toInt = up I k i x.toInt k j := by
  intro j hj
  rw [up_eq]
  show (if j = i then x else f j).toInt = _
  by_cases q : j = i
  · rw [if_pos q, if_pos ⟨rfl, q⟩]
  · rw [if_neg q, if_neg (fun z => q z.2)]
    exact h j hj
theorem nar01 {x : Int32} (h : x.toInt = 0 ∨ x.toInt = 1) : vp_nar .boolean x = x ∧ narrow .boolean (.int x) = .int x ∧ fits .boolean (.int x) = true := by
  have : x = 0 ∨ x = 1 := h.imp (fun q => Int32.toInt_inj.mp (q.trans (by decide))) (fun q => Int32.toInt_inj.mp (q.trans (by decide)))
  rcases this with rfl | rfl <;> decide
section STEPV
variable {p : Program} {l : Launch} {e : Jvm.Env} {R : Room} {s : State} {m : MethodId} {args : Array Value} {below : List Frame} {meth : Method} {c : Code} {Q : State → Prop}
variable {base : Nat} {adc : Nat → Nat} {D : va_G} {mi d nc0 ks0 : Nat} {X : Option (Nat × (Nat → Int))}
variable {pc pc' : Nat} {al al' ast ast' : List AV} {σ σ' : Sto}
theorem w_bald (T : CtX p R s m args meth c base adc mi d nc0 X) (hs : s_bald (pc + 1) al ast σ = some (pc', al', ast', σ')) (hdg : decode (mB mi) pc = .ok (.baload, 1))
    (K : WX p l e R s m args below meth c Q base adc D mi nc0 ks0 pc' al' ast' σ') : WX p l e R s m args below meth c Q base adc D mi nc0 ks0 pc al ast σ := by
  obtain ⟨hx, hb, hml, hown, hts, hE, hsz, hfr, hlo, hX, hin⟩ := T
  intro H locs cells slots ls st ⟨hL, hS, hH, hV, hc, hk⟩
  unfold s_bald at hs
  split at hs
  · next i k r =>
    obtain ⟨i, st, rfl, rfl, hS1⟩ := SR_i hS
    obtain ⟨st, rfl, hS2⟩ := SR_r hS1
    split at hs
    · next mm hn =>
      split at hs
      · next hi =>
        cases hs
        have hk9 : 9 ≤ k := by
          rcases Nat.lt_or_ge k 9 with q | q
          · rcases K0_not q ((hR_const hH k q).1 ▸ hn) with z | z | z | z <;> cases z
          · exact q
        obtain ⟨es, tys, hK, hP, hlen, hes, hC⟩ := id hH
        obtain ⟨e0, h1, h2⟩ := ent_at hlen hes hk9 hn
        obtain ⟨cA, f, t0, rfl, ht, hf⟩ := ER_102 h2
        rw [adr_ge hk9]
        refine va_zald hx hb hK hP (k - 9) t0 (wl_get h1) ht (toI_in hi) hdg ?_
        exact K _ _ _ _ _ _ ⟨hL, ⟨by rw [toI_nat]; exact hf _ (by omega), hS2⟩, hH, hV, hc, hk⟩
      · cases hs
    · next mm hn =>
      split at hs
      · next hi =>
        cases hs
        rcases Nat.lt_or_ge k 9 with hk9 | hk9
        · obtain ⟨g1, g2⟩ := hR_const hH k hk9
          rw [hn] at g1
          rw [adr_lt hk9]
          obtain ⟨j, hj3, rfl, rfl⟩ := K0_103 hk9 g1.symm
          obtain ⟨cl0, z1, z2, z3, z4, z5, z6, z7⟩ := (hE.2.2.2.2.2.2.2.1.1 j hj3).2.2.2
          refine W.bald hx hb (cell := cl0) (by rw [hV.2.1 _ (Array.getElem?_eq_some_iff.mp z1).1 z7]; exact z1) z2 z3 (j := i) ?_ (z6 i.toNatClampNeg (by rw [toI_nat]; omega)) rfl rfl hdg ?_
          · have := toI_in hi
            intro q
            exact this (q.imp id (fun z => Nat.le_trans z4 z))
          · refine K _ _ _ _ _ _ ⟨hL, ⟨?_, hS2⟩, hH, hV, hc, hk⟩
            rw [(g2 _).1, toI_nat]
            exact cI_s j hj3 _ (by omega)
        · exfalso
          obtain ⟨es, tys, hK, hP, hlen, hes, hC⟩ := id hH
          obtain ⟨e0, h1, h2⟩ := ent_at hlen hes hk9 hn
          exact ER_103 h2
      · cases hs
    · cases hs
  · cases hs
theorem w_lald (T : CtX p R s m args meth c base adc mi d nc0 X) (hs : s_lald (pc + 1) al ast σ = some (pc', al', ast', σ')) (hdg : decode (mB mi) pc = .ok (.laload, 1))
    (K : WX p l e R s m args below meth c Q base adc D mi nc0 ks0 pc' al' ast' σ') : WX p l e R s m args below meth c Q base adc D mi nc0 ks0 pc al ast σ := by
  obtain ⟨hx, hb, hml, hown, hts, hE, hsz, hfr, hlo, hX, hin⟩ := T
  intro H locs cells slots ls st ⟨hL, hS, hH, hV, hc, hk⟩
  unfold s_lald at hs
  split at hs
  · next i k r =>
    obtain ⟨i, st, rfl, rfl, hS1⟩ := SR_i hS
    obtain ⟨st, rfl, hS2⟩ := SR_r hS1
    split at hs
    · next mm hn =>
      split at hs
      · next hi =>
        cases hs
        have hk9 : 9 ≤ k := by
          rcases Nat.lt_or_ge k 9 with q | q
          · rcases K0_not q ((hR_const hH k q).1 ▸ hn) with z | z | z | z <;> cases z
          · exact q
        obtain ⟨es, tys, hK, hP, hlen, hes, hC⟩ := id hH
        obtain ⟨e0, h1, h2⟩ := ent_at hlen hes hk9 hn
        obtain ⟨cA, f, t0, rfl, ht, hf⟩ := ER_101 h2
        rw [adr_ge hk9]
        refine va_lald hx hb hK hP (k - 9) t0 (wl_get h1) ht (toI_in hi) hdg ?_
        exact K _ _ _ _ _ _ ⟨hL, ⟨by rw [toI_nat]; exact hf _ (by omega), hS2⟩, hH, hV, hc, hk⟩
      · cases hs
    · cases hs
  · cases hs
theorem VR_avr {ad : Nat → Nat} (r : Option Nat) : VR ad (avr r) (va_rf (r.map ad)) := by
  cases r with
  | none => trivial
  | some q => exact rfl
theorem w_aald (T : CtX p R s m args meth c base adc mi d nc0 X) (hs : s_aald (pc + 1) al ast σ = some (pc', al', ast', σ')) (hdg : decode (mB mi) pc = .ok (.aaload, 1))
    (K : WX p l e R s m args below meth c Q base adc D mi nc0 ks0 pc' al' ast' σ') : WX p l e R s m args below meth c Q base adc D mi nc0 ks0 pc al ast σ := by
  obtain ⟨hx, hb, hml, hown, hts, hE, hsz, hfr, hlo, hX, hin⟩ := T
  intro H locs cells slots ls st ⟨hL, hS, hH, hV, hc, hk⟩
  unfold s_aald at hs
  split at hs
  · next i k r =>
    obtain ⟨i, st, rfl, rfl, hS1⟩ := SR_i hS
    obtain ⟨st, rfl, hS2⟩ := SR_r hS1
    split at hs
    · next t mm hn =>
      split at hs
      · next hi =>
        cases hs
        have hk9 : 9 ≤ k := by
          rcases Nat.lt_or_ge k 9 with q | q
          · have h7 := (hR_const hH k q).1 ▸ hn
            have hm0 : ∀ k, k < 9 → ∀ t m, nth K0c k = some (t, m) → 110 ≤ t → m = 0 := by
              intro k hk t m h h1
              match k, hk with
              | 0, _ => cases h; omega
              | 1, _ => cases h; omega
              | 2, _ => cases h; omega
              | 3, _ => cases h; omega
              | 4, _ => cases h; omega
              | 5, _ => cases h; omega
              | 6, _ => cases h; omega
              | 7, _ => cases h; omega
              | 8, _ => cases h; rfl
              | k + 9, h => omega
            have := hm0 k q t mm h7 hi.1
            omega
          · exact q
        obtain ⟨es, tys, hK, hP, hlen, hes, hC⟩ := id hH
        obtain ⟨e0, h1, h2⟩ := ent_at hlen hes hk9 hn
        obtain ⟨cA, f, t0, c, rfl, hc12, rfl, ht, hf⟩ := ER_110 hi.1 h2
        rw [adr_ge hk9]
        refine va_aldq hx hb hK hP (k - 9) t0 (wl_get h1) ht (toI_in hi.2) hdg ?_
        rw [toI_nat, hf _ (by omega)]
        exact K _ _ _ _ _ _ ⟨hL, ⟨VR_avr _, hS2⟩, hH, hV, hc, hk⟩
      · cases hs
    · cases hs
  · cases hs
theorem w_iast (T : CtX p R s m args meth c base adc mi d nc0 X) (hs : s_iast (pc + 1) al ast σ = some (pc', al', ast', σ')) (hdg : decode (mB mi) pc = .ok (.iastore, 1))
    (K : WX p l e R s m args below meth c Q base adc D mi nc0 ks0 pc' al' ast' σ') : WX p l e R s m args below meth c Q base adc D mi nc0 ks0 pc al ast σ := by
  obtain ⟨hx, hb, hml, hown, hts, hE, hsz, hfr, hlo, hX, hin⟩ := T
  intro H locs cells slots ls st ⟨hL, hS, hH, hV, hc, hk⟩
  unfold s_iast at hs
  split at hs
  · next x i k r =>
    obtain ⟨x, st, rfl, rfl, hS1⟩ := SR_i hS
    obtain ⟨i, st, rfl, rfl, hS2⟩ := SR_i hS1
    obtain ⟨st, rfl, hS3⟩ := SR_r hS2
    split at hs
    · next mm hn =>
      split at hs
      · next hi =>
        cases hs
        have hk9 := hi.1
        obtain ⟨es, tys, hK, hP, hlen, hes, hC⟩ := id hH
        obtain ⟨e0, h1, h2⟩ := ent_at hlen hes hk9 hn
        obtain ⟨cA, f, t0, rfl, ht, hf⟩ := ER_100 h2
        rw [adr_ge hk9]
        refine va_iast hx hb hK hP wl_D hV (k - 9) t0 (wl_get h1) ht (toI_in hi.2) hdg (fun H1 locs1 hP1 _ hV1 => ?_)
        rw [wl_set] at hP1
        have ht2 := List.mem_of_getElem? ht
        exact K _ _ _ _ _ _ ⟨hL, hS3, HR_put hK hP1 hlen hes hC hk9 hn ⟨rfl, Or.inl ⟨rfl, ht2⟩, updI hf⟩ rfl (fun a ha j => ⟨up_ne ha, rfl, rfl⟩), hV1, hc, hk⟩
      · cases hs
    · cases hs
  · cases hs
theorem w_zast (T : CtX p R s m args meth c base adc mi d nc0 X) (hs : s_zast (pc + 1) al ast σ = some (pc', al', ast', σ')) (hdg : decode (mB mi) pc = .ok (.bastore, 1))
    (K : WX p l e R s m args below meth c Q base adc D mi nc0 ks0 pc' al' ast' σ') : WX p l e R s m args below meth c Q base adc D mi nc0 ks0 pc al ast σ := by
  obtain ⟨hx, hb, hml, hown, hts, hE, hsz, hfr, hlo, hX, hin⟩ := T
  intro H locs cells slots ls st ⟨hL, hS, hH, hV, hc, hk⟩
  unfold s_zast at hs
  split at hs
  · next x i k r =>
    obtain ⟨x, st, rfl, rfl, hS1⟩ := SR_i hS
    obtain ⟨i, st, rfl, rfl, hS2⟩ := SR_i hS1
    obtain ⟨st, rfl, hS3⟩ := SR_r hS2
    split at hs
    · next mm hn =>
      split at hs
      · next hi =>
        cases hs
        have hk9 := hi.1.1
        obtain ⟨es, tys, hK, hP, hlen, hes, hC⟩ := id hH
        obtain ⟨e0, h1, h2⟩ := ent_at hlen hes hk9 hn
        obtain ⟨cA, f, t0, rfl, ht, hf⟩ := ER_102 h2
        rw [adr_ge hk9]
        refine va_zast hx hb hK hP wl_D hV (k - 9) t0 (wl_get h1) ht (toI_in hi.2) hdg (fun H1 locs1 hP1 _ hV1 => ?_)
        rw [(nar01 hi.1.2).1] at hP1
        rw [wl_set] at hP1
        have ht2 := List.mem_of_getElem? ht
        exact K _ _ _ _ _ _ ⟨hL, hS3, HR_put hK hP1 hlen hes hC hk9 hn ⟨rfl, Or.inr ⟨rfl, ht2⟩, updI hf⟩ rfl (fun a ha j => ⟨up_ne ha, rfl, rfl⟩), hV1, hc, hk⟩
      · cases hs
    · cases hs
  · cases hs
theorem w_last (T : CtX p R s m args meth c base adc mi d nc0 X) (hs : s_last (pc + 1) al ast σ = some (pc', al', ast', σ')) (hdg : decode (mB mi) pc = .ok (.lastore, 1))
    (K : WX p l e R s m args below meth c Q base adc D mi nc0 ks0 pc' al' ast' σ') : WX p l e R s m args below meth c Q base adc D mi nc0 ks0 pc al ast σ := by
  obtain ⟨hx, hb, hml, hown, hts, hE, hsz, hfr, hlo, hX, hin⟩ := T
  intro H locs cells slots ls st ⟨hL, hS, hH, hV, hc, hk⟩
  unfold s_last at hs
  split at hs
  · next x i k r =>
    obtain ⟨x, st, rfl, rfl, hS1⟩ := SR_l hS
    obtain ⟨i, st, rfl, rfl, hS2⟩ := SR_i hS1
    obtain ⟨st, rfl, hS3⟩ := SR_r hS2
    split at hs
    · next mm hn =>
      split at hs
      · next hi =>
        cases hs
        have hk9 := hi.1
        obtain ⟨es, tys, hK, hP, hlen, hes, hC⟩ := id hH
        obtain ⟨e0, h1, h2⟩ := ent_at hlen hes hk9 hn
        obtain ⟨cA, f, t0, rfl, ht, hf⟩ := ER_101 h2
        rw [adr_ge hk9]
        refine va_last hx hb hK hP wl_D hV (k - 9) t0 (wl_get h1) ht (toI_in hi.2) hdg (fun H1 locs1 hP1 _ hV1 => ?_)
        rw [wl_set] at hP1
        have ht2 := List.mem_of_getElem? ht
        exact K _ _ _ _ _ _ ⟨hL, hS3, HR_put hK hP1 hlen hes hC hk9 hn ⟨rfl, ⟨rfl, ht2⟩, updL hf⟩ rfl (fun a ha j => ⟨rfl, up_ne ha, rfl⟩), hV1, hc, hk⟩
      · cases hs
    · cases hs
  · cases hs
theorem clst_at {c : Nat} (h : c < 12) : clst[c]? = some (cn c, (TT c, nF c)) := by
  match c, h with
  | 0, _ => rfl
  | 1, _ => rfl
  | 2, _ => rfl
  | 3, _ => rfl
  | 4, _ => rfl
  | 5, _ => rfl
  | 6, _ => rfl
  | 7, _ => rfl
  | 8, _ => rfl
  | 9, _ => rfl
  | 10, _ => rfl
  | 11, _ => rfl
  | c + 12, h => omega
theorem w_aast (T : CtX p R s m args meth c base adc mi d nc0 X) (hs : s_aast (pc + 1) al ast σ = some (pc', al', ast', σ')) (hdg : decode (mB mi) pc = .ok (.aastore, 1))
    (K : WX p l e R s m args below meth c Q base adc D mi nc0 ks0 pc' al' ast' σ') : WX p l e R s m args below meth c Q base adc D mi nc0 ks0 pc al ast σ := by
  obtain ⟨hx, hb, hml, hown, hts, hE, hsz, hfr, hlo, hX, hin⟩ := T
  intro H locs cells slots ls st ⟨hL, hS, hH, hV, hc, hk⟩
  unfold s_aast at hs
  split at hs
  · next q i k r =>
    obtain ⟨st, rfl, hS1⟩ := SR_r hS
    obtain ⟨i, st, rfl, rfl, hS2⟩ := SR_i hS1
    obtain ⟨st, rfl, hS3⟩ := SR_r hS2
    split at hs
    · next t mm cq mq hn hnq =>
      split at hs
      · next hi =>
        cases hs
        obtain ⟨⟨hk9, hq9, rfl⟩, hc12, hi2⟩ := hi
        obtain ⟨es, tys, hK, hP, hlen, hes, hC⟩ := id hH
        obtain ⟨e0, h1, h2⟩ := ent_at hlen hes hk9 hn
        obtain ⟨e1, h3, h4⟩ := ent_at hlen hes hq9 hnq
        obtain ⟨cA, f, t0, c', rfl, -, hcc, ht, hf⟩ := ER_110 (by omega) h2
        have hcc : c' = cq := by omega
        subst hcc
        obtain ⟨fs, rfl, -⟩ := ER_obj (by omega) h4
        rw [adr_ge hk9, adr_ge hq9]
        refine va_astq hx hb hK hP wl_D hV (k - 9) t0 (q - 9) c' (wl_get h1) (r := (cn c', (TT c', nF c'))) ht (wl_get h3) (clst_at hc12) (toI_in hi2) hdg (fun H1 locs1 hP1 _ hV1 => ?_)
        rw [wl_set] at hP1
        have ht2 := List.mem_of_getElem? ht
        refine K _ _ _ _ _ _ ⟨hL, hS3, HR_put hK hP1 hlen hes hC hk9 hn ⟨rfl, ⟨c', hc12, rfl, ht2⟩, fun j hj => ?_⟩ rfl (fun a ha j => ⟨rfl, rfl, up_ne ha⟩), hV1, hc, hk⟩
        show (if j = i.toNatClampNeg then some (base + (q - 9)) else f j) = (up σ.2.2.1 k i.toInt.toNat (some q) k j).map (adr base adc)
        rw [up_eq, toI_nat]
        by_cases z : j = i.toInt.toNat
        · rw [if_pos z, if_pos ⟨rfl, z⟩, Option.map_some, adr_ge hq9]
        · rw [if_neg z, if_neg (fun w => z w.2)]
          exact hf j hj
      · cases hs
    · cases hs
  · cases hs
end STEPV
