theorem okT_in {c : Nat} (h : okT c = true) : ∀ w ∈ u_ws (cn c) (TT c) (nF c), w ∈ W0 := by
  unfold okT at h
  rw [Bool.and_eq_true] at h
  intro w hw
  have h1 := List.all_eq_true.mp h.1 w hw
  rw [Bool.and_eq_true, decide_eq_true_eq] at h1
  exact List.mem_filter.mpr h1
theorem okT_ty {c : Nat} (h : okT c = true) : ∀ k, k < nF c → parseFieldDescriptor (TT c k).2.2.1 = some (tyF c k) ∧ tyOk (fty c k) (tyF c k) = true := by
  unfold okT at h
  rw [Bool.and_eq_true, Bool.and_eq_true] at h
  intro k hk
  have h1 := List.all_eq_true.mp h.2.1 k (List.mem_range.mpr hk)
  rw [Bool.and_eq_true, decide_eq_true_eq] at h1
  exact h1
theorem okT_nm {c : Nat} (h : okT c = true) : ∀ a, a < nF c → ∀ b, b < nF c → a ≠ b → (TT c a).2.1 ≠ (TT c b).2.1 := by
  unfold okT at h
  rw [Bool.and_eq_true, Bool.and_eq_true, decide_eq_true_eq] at h
  exact h.2.2
theorem tyOk_of {k : Nat} {t : FieldType} (h : tyOk k t = true) : (k = 0 ∧ t = .int) ∨ (k = 1 ∧ t = .long) ∨ (k = 2 ∧ ((∃ n, t = .object n) ∨ ∃ u, t = .array u)) ∨ (k = 3 ∧ t = .boolean) := by
  unfold tyOk at h
  split at h
  · exact Or.inl ⟨rfl, rfl⟩
  · exact Or.inr (Or.inl ⟨rfl, rfl⟩)
  · exact Or.inr (Or.inr (Or.inl ⟨rfl, Or.inl ⟨_, rfl⟩⟩))
  · exact Or.inr (Or.inr (Or.inl ⟨rfl, Or.inr ⟨_, rfl⟩⟩))
  · exact Or.inr (Or.inr (Or.inr ⟨rfl, rfl⟩))
  · cases h
section STEPF
variable {p : Program} {l : Launch} {e : Jvm.Env} {R : Room} {s : State} {m : MethodId} {args : Array Value} {below : List Frame} {meth : Method} {c : Code} {Q : State → Prop}
variable {base : Nat} {adc : Nat → Nat} {D : va_G} {mi d nc0 ks0 : Nat} {X : Option (Nat × (Nat → Int))}
variable {pc pc' : Nat} {al al' ast ast' : List AV} {σ σ' : Sto}
/-- a field's value as the abstract machine pushes it -/
theorem getf_val {ec k : Nat} {n : Nat} {r : List AV} (h : (match ec % 10 with
      | 0 => some (n, al, vi (σ.1 k (ec / 10 % 100)) :: r, σ)
      | 1 => some (n, al, vl (σ.2.1 k (ec / 10 % 100)) :: r, σ)
      | 2 => some (n, al, avr (σ.2.2.1 k (ec / 10 % 100)) :: r, σ)
      | 3 => some (n, al, vi (σ.1 k (ec / 10 % 100)) :: r, σ)
      | _ => none) = some (pc', al', ast', σ')) : pc' = n ∧ al' = al ∧ σ' = σ ∧ ast' = fvl σ k (ec / 10 % 100) (ec % 10) :: r := by
  split at h
  · next h0 => cases h; rw [h0]; exact ⟨rfl, rfl, rfl, rfl⟩
  · next h0 => cases h; rw [h0]; exact ⟨rfl, rfl, rfl, rfl⟩
  · next h0 => cases h; rw [h0]; exact ⟨rfl, rfl, rfl, rfl⟩
  · next h0 => cases h; rw [h0]; exact ⟨rfl, rfl, rfl, rfl⟩
  · cases h
theorem w_getf (C : Chk) (T : CtX p R s m args meth c base adc mi d nc0 X) {idx : Nat} {q : Nat × Nat} (hq : lk ftab (mO mi) idx = some q) (hs : s_getf q.1 (pc + 3) al ast σ = some (pc', al', ast', σ')) (hdg : decode (mB mi) pc = .ok (.getfield idx, 3))
    (K : WX p l e R s m args below meth c Q base adc D mi nc0 ks0 pc' al' ast' σ') : WX p l e R s m args below meth c Q base adc D mi nc0 ks0 pc al ast σ := by
  obtain ⟨hx, hb, hml, hown, hts, hE, hsz, hfr, hlo, hX, hin⟩ := T
  have hok := C.2.2.1 _ (lk_in hq)
  obtain ⟨ec, pl⟩ := q
  have hok : okF (mO mi) idx ec pl = true := hok
  intro H locs cells slots ls st ⟨hL, hS, hH, hV, hc, hk⟩
  unfold s_getf at hs
  split at hs
  · next k r =>
    obtain ⟨st, rfl, hS1⟩ := SR_r hS
    split at hs
    · next cc mm hn =>
      cases hcc : Nat.beq cc (ec / 1000) with
      | false => simp only [hcc] at hs; cases hs
      | true =>
        simp only [hcc, cond_true] at hs
        have hcc := Nat.eq_of_beq_eq_true hcc
        obtain ⟨rfl, rfl, rfl, rfl⟩ := getf_val hs
        unfold okF at hok
        split at hok
        · next h12 =>
          rw [h12] at hcc
          subst hcc
          have hk9 : k < 9 := by
            rcases Nat.lt_or_ge k 9 with z | z
            · exact z
            · exfalso
              obtain ⟨es, tys, hK, hP, hlen, hes, hC⟩ := id hH
              obtain ⟨e0, h1, h2⟩ := ent_at hlen hes z hn
              obtain ⟨fs, -, h3, -⟩ := ER_obj (by omega) h2
              omega
          obtain ⟨g1, g2⟩ := hR_const hH k hk9
          rw [hn] at g1
          obtain ⟨i, hi3, rfl⟩ := K0_12 hk9 g1.symm
          have hSt := hE.2.2.2.2.2.2.2.1.1 i hi3
          rw [adr_lt hk9]
          rw [Bool.or_eq_true, Bool.and_eq_true, Bool.and_eq_true, decide_eq_true_eq, decide_eq_true_eq] at hok
          rcases hok with ⟨rfl, hw⟩ | ⟨rfl, hw⟩
          · refine vk_getf hx hb hSt.2.2.1 hV hown (hts _ (hasW_in hw)) (fun _ h => h) hdg (K _ _ _ _ _ _ ⟨hL, ⟨?_, hS1⟩, hH, hV, hc, hk⟩)
            show VR _ (avr (σ'.2.2.1 (2 + i) 0)) _
            rw [(g2 0).2]
            have : cR (2 + i) 0 = some (5 + i) := by
              match i, hi3 with
              | 0, _ => rfl
              | 1, _ => rfl
              | 2, _ => rfl
              | i + 3, h => omega
            rw [this]
            show adc (5 + i) = adr base adc (5 + i)
            rw [adr_lt (by omega)]
          · refine vk_getf hx hb hSt.2.1 hV hown (hts _ (hasW_in hw)) (fun _ h => h) hdg (K _ _ _ _ _ _ ⟨hL, ⟨?_, hS1⟩, hH, hV, hc, hk⟩)
            show (0 : Int32).toInt = σ'.1 (2 + i) 1
            rw [(g2 1).1]
            match i, hi3 with
            | 0, _ => rfl
            | 1, _ => rfl
            | 2, _ => rfl
            | i + 3, h => omega
        · next h12 =>
          simp only [Bool.and_eq_true, decide_eq_true_eq] at hok
          obtain ⟨o1, o2, o3, o4, hw⟩ := hok
          rw [← hcc] at o1 o2 o3 o4 hw
          have hk9 : 9 ≤ k := by
            rcases Nat.lt_or_ge k 9 with z | z
            · rcases K0_not z ((hR_const hH k z).1 ▸ hn) with u | u | u | u <;> omega
            · exact z
          obtain ⟨es, tys, hK, hP, hlen, hes, hC⟩ := id hH
          obtain ⟨e0, h1, h2⟩ := ent_at hlen hes hk9 hn
          obtain ⟨fs, rfl, h3, h4, h5, h6⟩ := ER_obj (by omega) h2
          obtain ⟨v, hv1, hv2⟩ := h6 (ec / 10 % 100) (by omega)
          have hT := C.2.2.2.2.2.2.2.2 cc o1
          rw [adr_ge hk9]
          refine va_get hx hb hts (okT_in hT) hown hK hP (k - 9) (wl_get h1) (clst_at o1) (ec / 10 % 100) o2 (hts _ (hasW_in hw)) (fun x hx => ?_) hv1 hdg (K _ _ _ _ _ _ ⟨hL, ⟨?_, hS1⟩, hH, hV, hc, hk⟩)
          · rw [o4] at hx; exact hx
          · rw [o3]; exact hv2
    · cases hs
  · cases hs
theorem w_putf (C : Chk) (hm : mi < 237) (T : CtX p R s m args meth c base adc mi d nc0 X) {idx : Nat} {q : Nat × Nat} {len : Nat} (hf : fch (cde mi) pc = some (.putfield q.1, len)) (hq : lk ftab (mO mi) idx = some q) (hs : s_putf q.1 (pc + 3) al ast σ = some (pc', al', ast', σ')) (hdg : decode (mB mi) pc = .ok (.putfield idx, 3))
    (K : WX p l e R s m args below meth c Q base adc D mi nc0 ks0 pc' al' ast' σ') : WX p l e R s m args below meth c Q base adc D mi nc0 ks0 pc al ast σ := by
  obtain ⟨hx, hb, hml, hown, hts, hE, hsz, hfr, hlo, hX, hin⟩ := T
  have hok := C.2.2.1 _ (lk_in hq)
  have hfin := List.all_eq_true.mp (C.1 mi hm).2 _ (fch_in hf)
  obtain ⟨ec, pl⟩ := q
  have hok : okF (mO mi) idx ec pl = true := hok
  simp only [Bool.or_eq_true, Bool.and_eq_true, decide_eq_true_eq, Bool.not_eq_true'] at hfin
  intro H locs cells slots ls st ⟨hL, hS, hH, hV, hc, hk⟩
  unfold s_putf at hs
  split at hs
  · next v k r =>
    obtain ⟨w, st, rfl, hw1, hS1⟩ := SR_c hS
    obtain ⟨st, rfl, hS2⟩ := SR_r hS1
    split at hs
    · next cc mm hn =>
      cases hcc : (Nat.beq cc (ec / 1000) && Nat.ble 9 k) with
      | false => simp only [hcc] at hs; cases hs
      | true =>
        simp only [hcc, cond_true] at hs
        rw [Bool.and_eq_true] at hcc
        have hk9 := Nat.le_of_ble_eq_true hcc.2
        have hcc := Nat.eq_of_beq_eq_true hcc.1
        obtain ⟨es, tys, hK, hP, hlen, hes, hC⟩ := id hH
        obtain ⟨e0, h1, h2⟩ := ent_at hlen hes hk9 hn
        unfold okF at hok
        split at hok
        · next h12 =>
          rw [h12] at hcc
          subst hcc
          obtain ⟨fs, -, h3, -⟩ := ER_obj (by omega) h2
          omega
        · next h12 =>
          simp only [Bool.and_eq_true, decide_eq_true_eq] at hok
          obtain ⟨o1, o2, o3, o4, hw⟩ := hok
          rw [← hcc] at o1 o2 o3 o4 hw hfin
          obtain ⟨fs, rfl, h3, h4, h5, h6⟩ := ER_obj (by omega) h2
          have hT := C.2.2.2.2.2.2.2.2 cc o1
          have hty := okT_ty hT (ec / 10 % 100) o2
          -- the general end
          have go : ∀ (u : Value) (σ2 : Sto), w = u → narrow (tyF cc (ec / 10 % 100)) u = u → fits (tyF cc (ec / 10 % 100)) u = true → σ2.2.2.2 = σ.2.2.2 → (∀ a, a ≠ k → ∀ j, σ2.1 a j = σ.1 a j ∧ σ2.2.1 a j = σ.2.1 a j ∧ σ2.2.2.1 a j = σ.2.2.1 a j) → (∀ j, j ≠ ec / 10 % 100 → fvl σ2 k j (fty cc j) = fvl σ k j (fty cc j)) → VR (adr base adc) (fvl σ2 k (ec / 10 % 100) (fty cc (ec / 10 % 100))) u →
              WX p l e R s m args below meth c Q base adc D mi nc0 ks0 (pc + 3) al r σ2 → W p l e R s m args below meth c H locs cells slots Q (F0 m pc ls (w :: .ref (adr base adc k) :: st)) := by
            intro u σ2 e1 e2 e3 e4 e5 e6 e7 K2
            subst e1
            have he : ER (adr base adc) tys σ2 k cc mm (.inr (cc, fs.set (ec / 10 % 100) w)) := by
              refine ⟨rfl, h3, h4, by rw [List.length_set]; exact h5, fun j hj => ?_⟩
              by_cases z : j = ec / 10 % 100
              · subst z
                exact ⟨w, by rw [List.getElem?_set_self (by omega)], e7⟩
              · obtain ⟨v, q1, q2⟩ := h6 j hj
                exact ⟨v, by rw [List.getElem?_set_ne (Ne.symm z)]; exact q1, by rw [e6 j z]; exact q2⟩
            rw [adr_ge hk9]
            have fin : ∀ (H1 : Heap) (locs1 : List Loc), va_P D clst ((wl base es).set (k - 9) (base + (k - 9), .inr (cc, fs.set (ec / 10 % 100) w))) H1 → va_D (fun q => base ≤ q) ((wl base es).set (k - 9) (base + (k - 9), .inr (cc, fs.set (ec / 10 % 100) w))) → va_S (fun q => base ≤ q) s.heap H1 locs1 → W p l e R s m args below meth c H1 locs1 cells slots Q (F0 m (pc + 3) ls st) := by
              intro H1 locs1 hP1 _ hV1
              rw [wl_set] at hP1
              exact K2 _ _ _ _ _ _ ⟨hL, hS2, HR_put hK hP1 hlen hes hC hk9 hn he e4 e5, hV1, by rw [e4]; exact hc, by rw [e4]; exact hk⟩
            have hsame : ∀ x, s.fieldFound? (TT cc (ec / 10 % 100)).1 (TT cc (ec / 10 % 100)).2.1 (TT cc (ec / 10 % 100)).2.2.1 = some x → s.fieldFound? (cn cc) (TT cc (ec / 10 % 100)).2.1 (TT cc (ec / 10 % 100)).2.2.1 = some x := fun x hx => by rw [o4] at hx; exact hx
            cases hf9 : (TT cc (ec / 10 % 100)).2.2.2 with
            | false => exact va_put hx hb hts (okT_in hT) (tyF cc) (fun j hj => (okT_ty hT j hj).1) (okT_nm hT) hown hK hP wl_D hV (k - 9) (wl_get h1) (clst_at o1) (ec / 10 % 100) o2 (hts _ (hasW_in hw)) hsame hf9 hty.1 e2 e3 (by omega) hdg fin
            | true =>
              rw [hf9] at hfin
              rcases hfin with z | ⟨z1, z2⟩
              · cases z
              · exact va_putF hx hb hts (okT_in hT) (tyF cc) (fun j hj => (okT_ty hT j hj).1) (okT_nm hT) hown hK hP wl_D hV (k - 9) (wl_get h1) (clst_at o1) (ec / 10 % 100) o2 (hts _ (hasW_in hw)) hsame hf9 (hin z1) (by rw [o4, z2]) hty.1 e2 e3 (by omega) hdg fin
          have htk := tyOk_of hty.2
          rw [← o3] at htk
          split at hs
          · next h0 =>
            cases hs
            obtain ⟨x, rfl, rfl⟩ := VR_i hw1
            rcases htk with ⟨-, t⟩ | ⟨z, -⟩ | ⟨z, -⟩ | ⟨z, -⟩
            · refine go _ (up σ.1 k (ec / 10 % 100) x.toInt, σ.2) rfl (by rw [t]; rfl) (by rw [t]; rfl) rfl (fun a ha j => ⟨up_ne ha, rfl, rfl⟩) (fun j hj => ?_) ?_ K
              · unfold fvl
                split <;> simp only [up_eq, hj, and_false, if_false]
              · rw [← o3, h0]
                show x.toInt = up _ _ _ _ _ _
                rw [up_eq, if_pos ⟨rfl, rfl⟩]
            · omega
            · omega
            · omega
          · next v0 q0 h0 =>
            cases hs
            have hw2 := VR_r hw1
            rcases htk with ⟨z, -⟩ | ⟨z, -⟩ | ⟨-, t⟩ | ⟨z, -⟩
            · omega
            · omega
            · refine go _ (σ.1, (σ.2.1, (up σ.2.2.1 k (ec / 10 % 100) (some q0), σ.2.2.2))) hw2 (by rcases t with ⟨_, t⟩ | ⟨_, t⟩ <;> (rw [t]; rfl)) (by rcases t with ⟨_, t⟩ | ⟨_, t⟩ <;> (rw [t]; rfl)) rfl (fun a ha j => ⟨rfl, rfl, up_ne ha⟩) (fun j hj => ?_) ?_ K
              · unfold fvl
                split <;> simp only [up_eq, hj, and_false, if_false]
              · rw [← o3, h0]
                show VR _ (avr (up _ _ _ _ _ _)) _
                rw [up_eq, if_pos ⟨rfl, rfl⟩]
                exact rfl
            · omega
          · next h0 =>
            split at hs
            · next h01 =>
              cases hs
              obtain ⟨x, rfl, rfl⟩ := VR_i hw1
              rcases htk with ⟨z, -⟩ | ⟨z, -⟩ | ⟨z, -⟩ | ⟨-, t⟩
              · omega
              · omega
              · omega
              · refine go _ (up σ.1 k (ec / 10 % 100) x.toInt, σ.2) rfl (by rw [t]; exact (nar01 h01).2.1) (by rw [t]; exact (nar01 h01).2.2) rfl (fun a ha j => ⟨up_ne ha, rfl, rfl⟩) (fun j hj => ?_) ?_ K
                · unfold fvl
                  split <;> simp only [up_eq, hj, and_false, if_false]
                · rw [← o3, h0]
                  show x.toInt = up _ _ _ _ _ _
                  rw [up_eq, if_pos ⟨rfl, rfl⟩]
            · cases hs
          · cases hs
    · cases hs
  · cases hs
end STEPF
