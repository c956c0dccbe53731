/-! cells: reading, writing, making -/
theorem sw_look {pc : Nat} {x : Int} : ∀ {ps l : List (Int × Int)} {d t : Int}, tgts pc ps = some l → tgt pc d = some t → (pc : Int) + Op.lookupswitch.offset ps d x = ((swt x t.toNat l : Nat) : Int)
  | [], l, d, t, h1, h2 => by
    cases h1
    unfold tgt at h2
    split at h2
    · cases h2
      show (pc : Int) + d = (((pc : Int) + d).toNat : Int)
      omega
    · cases h2
  | (a, o) :: r, l, d, t, h1, h2 => by
    unfold tgts at h1
    split at h1
    · next u v hu hv =>
      cases h1
      rw [Op.lookupswitch.offset_cons]
      unfold swt
      by_cases hx : x = a
      · rw [if_pos hx.symm, if_pos hx]
        unfold tgt at hu
        split at hu
        · cases hu; omega
        · cases hu
      · rw [if_neg (fun q => hx q.symm), if_neg hx]
        exact sw_look hv h2
    · cases h1
theorem sw_tab {pc : Nat} {x : Int} {d : Nat} : ∀ {os : List Int} {lo : Int} {l : List (Int × Int)}, tgts pc (os.mapIdx (fun i o => (lo + (i : Nat), o))) = some l → (∀ j off, os[j]? = some off → x = lo + (j : Nat) → (pc : Int) + off = ((swt x d l : Nat) : Int)) ∧ ((x < lo ∨ lo + (os.length : Nat) ≤ x) → swt x d l = d)
  | [], lo, l, h => by
    cases h
    exact ⟨fun j off h => by simp at h, fun _ => rfl⟩
  | o :: os, lo, l, h => by
    rw [List.mapIdx_cons] at h
    have hf : (fun (i : Nat) (o : Int) => (lo + ((i + 1 : Nat) : Int), o)) = (fun (i : Nat) (o : Int) => ((lo + 1) + (i : Int), o)) := by
      funext i o
      rw [Prod.mk.injEq]
      exact ⟨by omega, rfl⟩
    rw [hf] at h
    unfold tgts at h
    split at h
    · next u v hu hv =>
      cases h
      obtain ⟨h1, h2⟩ := sw_tab hv
      refine ⟨fun j off hj hx => ?_, fun hx => ?_⟩
      · unfold swt
        cases j with
        | zero =>
          rw [List.getElem?_cons_zero] at hj
          cases hj
          rw [if_pos (by simpa using hx)]
          unfold tgt at hu
          split at hu
          · cases hu; omega
          · cases hu
        | succ j =>
          rw [List.getElem?_cons_succ] at hj
          rw [if_neg (by simp; omega)]
          exact h1 j off hj (by omega)
      · unfold swt
        rw [if_neg (by simp at hx ⊢; omega)]
        exact h2 (by simp at hx ⊢; omega)
    · cases h
theorem ent_at {base : Nat} {adc : Nat → Nat} {σ : Sto} {es : List va_E} {tys : List (ClassId × FieldType)} {k t n : Nat} (hlen : es.length + 9 = σ.2.2.2.length) (hes : ∀ i e, es[i]? = some e → ∃ t n, nth σ.2.2.2 (9 + i) = some (t, n) ∧ ER (adr base adc) tys σ (9 + i) t n e) (hk : 9 ≤ k) (hn : nth σ.2.2.2 k = some (t, n)) : ∃ e, es[k - 9]? = some e ∧ ER (adr base adc) tys σ k t n e := by
  have h1 := nth_lt hn
  have h2 : k - 9 < es.length := by omega
  refine ⟨es[k - 9], List.getElem?_eq_getElem h2, ?_⟩
  obtain ⟨t', n', h3, h4⟩ := hes (k - 9) _ (List.getElem?_eq_getElem h2)
  rw [show 9 + (k - 9) = k by omega] at h3 h4
  rw [hn] at h3
  cases h3
  exact h4
theorem ER_100 {ad : Nat → Nat} {tys : List (ClassId × FieldType)} {σ : Sto} {k n : Nat} {e : va_E} (h : ER ad tys σ k 100 n e) : ∃ (cA : ClassId) (f : Nat → Int32) (t0 : Nat), e = .inl (cA, n, .inl f) ∧ tys[t0]? = some (cA, FieldType.int) ∧ ∀ j, j < n → (f j).toInt = σ.1 k j := by
  rcases e with ⟨cA, m, f | f | f | f | f⟩ | ⟨c, fs⟩
  · obtain ⟨rfl, b, c⟩ := h
    rcases b with ⟨-, b⟩ | ⟨b, -⟩
    · obtain ⟨t0, ht⟩ := List.getElem?_of_mem b
      exact ⟨cA, f, t0, rfl, ht, c⟩
    · cases b
  · obtain ⟨-, ⟨b, -⟩, -⟩ := h; cases b
  · exact absurd h id
  · exact absurd h id
  · obtain ⟨-, ⟨c, b1, b2, -⟩, -⟩ := h; omega
  · obtain ⟨b1, b2, -⟩ := h; omega
theorem ER_102 {ad : Nat → Nat} {tys : List (ClassId × FieldType)} {σ : Sto} {k n : Nat} {e : va_E} (h : ER ad tys σ k 102 n e) : ∃ (cA : ClassId) (f : Nat → Int32) (t0 : Nat), e = .inl (cA, n, .inl f) ∧ tys[t0]? = some (cA, FieldType.boolean) ∧ ∀ j, j < n → (f j).toInt = σ.1 k j := by
  rcases e with ⟨cA, m, f | f | f | f | f⟩ | ⟨c, fs⟩
  · obtain ⟨rfl, b, c⟩ := h
    rcases b with ⟨b, -⟩ | ⟨-, b⟩
    · cases b
    · obtain ⟨t0, ht⟩ := List.getElem?_of_mem b
      exact ⟨cA, f, t0, rfl, ht, c⟩
  · obtain ⟨-, ⟨b, -⟩, -⟩ := h; cases b
  · exact absurd h id
  · exact absurd h id
  · obtain ⟨-, ⟨c, b1, b2, -⟩, -⟩ := h; omega
  · obtain ⟨b1, b2, -⟩ := h; omega
theorem ER_103 {ad : Nat → Nat} {tys : List (ClassId × FieldType)} {σ : Sto} {k n : Nat} {e : va_E} (h : ER ad tys σ k 103 n e) : False := by
  rcases e with ⟨cA, m, f | f | f | f | f⟩ | ⟨c, fs⟩
  · obtain ⟨rfl, b, c⟩ := h
    rcases b with ⟨b, -⟩ | ⟨b, -⟩ <;> cases b
  · obtain ⟨-, ⟨b, -⟩, -⟩ := h; cases b
  · exact h
  · exact h
  · obtain ⟨-, ⟨c, b1, b2, -⟩, -⟩ := h; omega
  · obtain ⟨b1, b2, -⟩ := h; omega
theorem ER_101 {ad : Nat → Nat} {tys : List (ClassId × FieldType)} {σ : Sto} {k n : Nat} {e : va_E} (h : ER ad tys σ k 101 n e) : ∃ (cA : ClassId) (f : Nat → Int64) (t0 : Nat), e = .inl (cA, n, .inr (.inl f)) ∧ tys[t0]? = some (cA, FieldType.long) ∧ ∀ j, j < n → (f j).toInt = σ.2.1 k j := by
  rcases e with ⟨cA, m, f | f | f | f | f⟩ | ⟨c, fs⟩
  · obtain ⟨-, b, -⟩ := h
    rcases b with ⟨b, -⟩ | ⟨b, -⟩ <;> cases b
  · obtain ⟨rfl, ⟨-, b⟩, c⟩ := h
    obtain ⟨t0, ht⟩ := List.getElem?_of_mem b
    exact ⟨cA, f, t0, rfl, ht, c⟩
  · exact absurd h id
  · exact absurd h id
  · obtain ⟨-, ⟨c, b1, b2, -⟩, -⟩ := h; omega
  · obtain ⟨b1, b2, -⟩ := h; omega
theorem ER_110 {ad : Nat → Nat} {tys : List (ClassId × FieldType)} {σ : Sto} {k t n : Nat} {e : va_E} (ht : 110 ≤ t) (h : ER ad tys σ k t n e) : ∃ (cA : ClassId) (f : Nat → Option Nat) (t0 c : Nat), e = .inl (cA, n, .inr (.inr (.inr (.inr f)))) ∧ c < 12 ∧ t = 110 + c ∧ tys[t0]? = some (cA, FieldType.object (cn c)) ∧ ∀ j, j < n → f j = (σ.2.2.1 k j).map ad := by
  rcases e with ⟨cA, m, f | f | f | f | f⟩ | ⟨c, fs⟩
  · obtain ⟨-, b, -⟩ := h
    rcases b with ⟨b, -⟩ | ⟨b, -⟩ <;> omega
  · obtain ⟨-, ⟨b, -⟩, -⟩ := h; omega
  · exact absurd h id
  · exact absurd h id
  · obtain ⟨rfl, ⟨c, b1, b2, b3⟩, d⟩ := h
    obtain ⟨t0, ht⟩ := List.getElem?_of_mem b3
    exact ⟨cA, f, t0, c, rfl, b1, b2, ht, d⟩
  · obtain ⟨b1, b2, -⟩ := h; omega
theorem ER_obj {ad : Nat → Nat} {tys : List (ClassId × FieldType)} {σ : Sto} {k t n : Nat} {e : va_E} (ht : t < 13) (h : ER ad tys σ k t n e) : ∃ fs, e = .inr (t, fs) ∧ t < 12 ∧ n = nF t ∧ fs.length = n ∧ ∀ j, j < n → ∃ v, fs[j]? = some v ∧ VR ad (fvl σ k j (fty t j)) v := by
  rcases e with ⟨cA, m, f | f | f | f | f⟩ | ⟨c, fs⟩
  · obtain ⟨-, b, -⟩ := h
    rcases b with ⟨b, -⟩ | ⟨b, -⟩ <;> omega
  · obtain ⟨-, ⟨b, -⟩, -⟩ := h; omega
  · exact absurd h id
  · exact absurd h id
  · obtain ⟨-, ⟨c, b1, b2, -⟩, -⟩ := h; omega
  · obtain ⟨rfl, b2, b3, b4, b5⟩ := h
    exact ⟨fs, rfl, b2, b3, b4, b5⟩
theorem ER_len {ad : Nat → Nat} {tys : List (ClassId × FieldType)} {σ : Sto} {k t n : Nat} {e : va_E} (ht : 100 ≤ t) (h : ER ad tys σ k t n e) : ∃ (cA : ClassId) (x : _) (t0 : Nat) (ty : FieldType), e = .inl (cA, (n, x)) ∧ tys[t0]? = some (cA, ty) := by
  rcases e with ⟨cA, m, f | f | f | f | f⟩ | ⟨c, fs⟩
  · obtain ⟨rfl, b, -⟩ := h
    rcases b with ⟨-, b⟩ | ⟨-, b⟩
    · obtain ⟨t0, ht⟩ := List.getElem?_of_mem b
      exact ⟨cA, _, t0, _, rfl, ht⟩
    · obtain ⟨t0, ht⟩ := List.getElem?_of_mem b
      exact ⟨cA, _, t0, _, rfl, ht⟩
  · obtain ⟨rfl, ⟨-, b⟩, -⟩ := h
    obtain ⟨t0, ht⟩ := List.getElem?_of_mem b
    exact ⟨cA, _, t0, _, rfl, ht⟩
  · exact absurd h id
  · exact absurd h id
  · obtain ⟨rfl, ⟨c, -, -, b⟩, -⟩ := h
    obtain ⟨t0, ht⟩ := List.getElem?_of_mem b
    exact ⟨cA, _, t0, _, rfl, ht⟩
  · obtain ⟨b1, b2, -⟩ := h; omega
/-- a store that changes one cell, k -/
theorem HR_put {base : Nat} {adc : Nat → Nat} {D : va_G} {s : State} {σ σ' : Sto} {es : List va_E} {tys : List (ClassId × FieldType)} {k t n : Nat} {e' : va_E} {H1 : Heap} (hK : va_K D clst tys s) (hP : va_P D clst (wl base (es.set (k - 9) e')) H1) (hlen : es.length + 9 = σ.2.2.2.length) (hes : ∀ i e, es[i]? = some e → ∃ t n, nth σ.2.2.2 (9 + i) = some (t, n) ∧ ER (adr base adc) tys σ (9 + i) t n e) (hC : CR σ) (hk : 9 ≤ k) (hn : nth σ.2.2.2 k = some (t, n)) (he : ER (adr base adc) tys σ' k t n e') (hKs : σ'.2.2.2 = σ.2.2.2) (ho : ∀ a, a ≠ k → ∀ j, σ'.1 a j = σ.1 a j ∧ σ'.2.1 a j = σ.2.1 a j ∧ σ'.2.2.1 a j = σ.2.2.1 a j) : HR base adc D s σ' H1 := by
  refine ⟨es.set (k - 9) e', tys, hK, hP, by rw [List.length_set, hKs]; exact hlen, fun i e h => ?_, fun a ha => ?_⟩
  · rw [hKs]
    rw [List.getElem?_set] at h
    split at h
    · next hi =>
      split at h
      · cases h
        subst hi
        rw [show 9 + (k - 9) = k by omega]
        exact ⟨t, n, hn, he⟩
      · cases h
    · next hi =>
      obtain ⟨t', n', h1, h2⟩ := hes i e h
      have hne : 9 + i ≠ k := by omega
      exact ⟨t', n', h1, h2.same (fun j => (ho _ hne j).1) (fun j => (ho _ hne j).2.1) (fun j => (ho _ hne j).2.2)⟩
  · rw [hKs]
    refine ⟨(hC a ha).1, fun j => ?_⟩
    rw [(ho a (by omega) j).1, (ho a (by omega) j).2.2]
    exact (hC a ha).2 j
theorem adr_ge {base : Nat} {adc : Nat → Nat} {k : Nat} (h : 9 ≤ k) : adr base adc k = base + (k - 9) := by
  unfold adr
  rw [if_neg (by omega)]
theorem adr_lt {base : Nat} {adc : Nat → Nat} {k : Nat} (h : k < 9) : adr base adc k = adc k := by
  unfold adr
  rw [if_pos h]
theorem K0_100 : ∀ k, k < 9 → ∀ m, nth K0c k = some (100, m) → (k = 0 ∧ m = 7) ∨ (k = 1 ∧ m = 21) := by
  intro k hk m h
  match k, hk with
  | 0, _ => cases h; exact Or.inl ⟨rfl, rfl⟩
  | 1, _ => cases h; exact Or.inr ⟨rfl, rfl⟩
  | 2, _ => cases h
  | 3, _ => cases h
  | 4, _ => cases h
  | 5, _ => cases h
  | 6, _ => cases h
  | 7, _ => cases h
  | 8, _ => cases h
  | k + 9, h => omega
theorem K0_not {k t m : Nat} (hk : k < 9) (h : nth K0c k = some (t, m)) : t = 100 ∨ t = 12 ∨ t = 103 ∨ t = 199 := by
  match k, hk with
  | 0, _ => cases h; decide
  | 1, _ => cases h; decide
  | 2, _ => cases h; decide
  | 3, _ => cases h; decide
  | 4, _ => cases h; decide
  | 5, _ => cases h; decide
  | 6, _ => cases h; decide
  | 7, _ => cases h; decide
  | 8, _ => cases h; decide
  | k + 9, h => omega
theorem K0_103 {k m : Nat} (hk : k < 9) (h : nth K0c k = some (103, m)) : ∃ i, i < 3 ∧ k = 5 + i ∧ m = slen.getD i 0 := by
  match k, hk with
  | 0, _ => cases h
  | 1, _ => cases h
  | 2, _ => cases h
  | 3, _ => cases h
  | 4, _ => cases h
  | 5, _ => cases h; exact ⟨0, by decide, rfl, rfl⟩
  | 6, _ => cases h; exact ⟨1, by decide, rfl, rfl⟩
  | 7, _ => cases h; exact ⟨2, by decide, rfl, rfl⟩
  | 8, _ => cases h
  | k + 9, h => omega
theorem K0_12 {k m : Nat} (hk : k < 9) (h : nth K0c k = some (12, m)) : ∃ i, i < 3 ∧ k = 2 + i := by
  match k, hk with
  | 0, _ => cases h
  | 1, _ => cases h
  | 2, _ => exact ⟨0, by decide, rfl⟩
  | 3, _ => exact ⟨1, by decide, rfl⟩
  | 4, _ => exact ⟨2, by decide, rfl⟩
  | 5, _ => cases h
  | 6, _ => cases h
  | 7, _ => cases h
  | 8, _ => cases h
  | k + 9, h => omega
theorem cI_0 : ∀ j, j < 7 → (Int32.ofInt (cI 0 j)).toInt = cI 0 j := by decide +kernel
theorem cI_1 : ∀ j, j < 21 → (Int32.ofInt (cI 1 j)).toInt = cI 1 j := by decide +kernel
theorem cI_s : ∀ i, i < 3 → ∀ j, j < slen.getD i 0 → ((sbyt.getD i []).getD j 0).toInt = cI (5 + i) j := by decide +kernel
section STEPZ
variable {p : Program} {l : Launch} {e : Jvm.Env} {R : Room} {s : State} {m : MethodId} {args : Array Value} {below : List Frame} {meth : Method} {c : Code} {Q : State → Prop}
variable {base : Nat} {adc : Nat → Nat} {D : va_G} {mi d nc0 ks0 : Nat} {X : Option (Nat × (Nat → Int))}
variable {pc pc' : Nat} {al al' ast ast' : List AV} {σ σ' : Sto}
theorem w_iald (T : CtX p R s m args meth c base adc mi d nc0 X) (hs : s_iald X (pc + 1) al ast σ = some (pc', al', ast', σ')) (hdg : decode (mB mi) pc = .ok (.iaload, 1))
    (K : WX p l e R s m args below meth c Q base adc D mi nc0 ks0 pc' al' ast' σ') : WX p l e R s m args below meth c Q base adc D mi nc0 ks0 pc al ast σ := by
  obtain ⟨hx, hb, hml, hown, hts, hE, hsz, hfr, hlo, hX, hin⟩ := T
  intro H locs cells slots ls st ⟨hL, hS, hH, hV, hc, hk⟩
  unfold s_iald at hs
  split at hs
  · next i k r =>
    obtain ⟨i, st, rfl, rfl, hS1⟩ := SR_i hS
    obtain ⟨st, rfl, hS2⟩ := SR_r hS1
    split at hs
    · split at hs
      · next mm hn =>
        split at hs
        · next hi =>
          cases hs
          by_cases hk9 : 9 ≤ k
          · obtain ⟨es, tys, hK, hP, hlen, hes, hC⟩ := id hH
            obtain ⟨e0, h1, h2⟩ := ent_at hlen hes hk9 hn
            obtain ⟨cA, f, t0, rfl, ht, hf⟩ := ER_100 h2
            rw [adr_ge hk9]
            refine va_iald hx hb hK hP (k - 9) t0 (wl_get h1) ht (toI_in hi) hdg ?_
            exact K _ _ _ _ _ _ ⟨hL, ⟨by rw [toI_nat]; exact hf _ (by omega), hS2⟩, hH, hV, hc, hk⟩
          · have hk9 : k < 9 := by omega
            have hC := hH.choose_spec.choose_spec.2.2.2.2
            obtain ⟨g1, g2⟩ := hC k hk9
            rw [hn] at g1
            rw [adr_lt hk9]
            obtain ⟨-, -, -, -, -, hT0, hT1, -⟩ := hE
            rcases K0_100 k hk9 mm g1.symm with ⟨rfl, rfl⟩ | ⟨rfl, rfl⟩
            · refine va_ti hx hb hT0 hV (toI_in hi) rfl hdg (K _ _ _ _ _ _ ⟨hL, ⟨?_, hS2⟩, hH, hV, hc, hk⟩)
              show (Int32.ofInt (cI 0 i.toNatClampNeg)).toInt = _
              rw [(g2 _).1, toI_nat]
              exact cI_0 _ (by omega)
            · refine va_ti hx hb hT1 hV (toI_in hi) rfl hdg (K _ _ _ _ _ _ ⟨hL, ⟨?_, hS2⟩, hH, hV, hc, hk⟩)
              show (Int32.ofInt (cI 1 i.toNatClampNeg)).toInt = _
              rw [(g2 _).1, toI_nat]
              exact cI_1 _ (by omega)
        · cases hs
      · cases hs
    · next mm xs hk8 =>
      split at hs
      · next h8 =>
        split at hs
        · next hi =>
          cases hs
          obtain ⟨ys, hys, hva, hlt, hnb⟩ := hX _ _ rfl
          subst h8
          rw [adr_lt (by decide)]
          refine va_sld hx hb hva hlt hnb hV (toI_in hi) hdg (K _ _ _ _ _ _ ⟨hL, ⟨?_, hS2⟩, hH, hV, hc, hk⟩)
          rw [toI_nat]
          exact hys _
        · cases hs
      · cases hs
  · cases hs
theorem toI_ofNat {n : Nat} (h : n < 2147483648) : (Int32.ofNat n).toInt = (n : Int) := nI_toInt h
theorem w_alen (T : CtX p R s m args meth c base adc mi d nc0 X) (hs : s_alen X (pc + 1) al ast σ = some (pc', al', ast', σ')) (hdg : decode (mB mi) pc = .ok (.arraylength, 1))
    (K : WX p l e R s m args below meth c Q base adc D mi nc0 ks0 pc' al' ast' σ') : WX p l e R s m args below meth c Q base adc D mi nc0 ks0 pc al ast σ := by
  obtain ⟨hx, hb, hml, hown, hts, hE, hsz, hfr, hlo, hX, hin⟩ := T
  intro H locs cells slots ls st ⟨hL, hS, hH, hV, hc, hk⟩
  unfold s_alen at hs
  split at hs
  · next k r =>
    obtain ⟨st, rfl, hS1⟩ := SR_r hS
    split at hs
    · split at hs
      · next t mm hn =>
        split at hs
        · next hi =>
          cases hs
          by_cases hk9 : 9 ≤ k
          · obtain ⟨es, tys, hK, hP, hlen, hes, hC⟩ := id hH
            obtain ⟨e0, h1, h2⟩ := ent_at hlen hes hk9 hn
            obtain ⟨cA, x, t0, ty, rfl, ht⟩ := ER_len hi.1.1 h2
            rw [adr_ge hk9]
            exact va_alen hx hb hK hP (k - 9) t0 (wl_get h1) ht rfl hdg (K _ _ _ _ _ _ ⟨hL, ⟨toI_ofNat hi.2, hS1⟩, hH, hV, hc, hk⟩)
          · have hk9 : k < 9 := by omega
            have hC := hH.choose_spec.choose_spec.2.2.2.2
            obtain ⟨g1, g2⟩ := hC k hk9
            rw [hn] at g1
            rw [adr_lt hk9]
            obtain ⟨-, -, -, -, -, hT0, hT1, hSt, -⟩ := hE
            have go : ∀ (ty : FieldType) (f : Nat → Value), va_T ty (adc k) mm f (fun q => base ≤ q) s s.heap → W p l e R s m args below meth c H locs cells slots Q (F0 m pc ls (.ref (adc k) :: st)) := by
              intro ty f ⟨cl0, z1, z2, z3, z4, z5, z6, z7⟩
              refine W.alen (n := Int32.ofNat mm) hx hb (cell := cl0) (ty := ty) (by rw [hV.2.1 _ (Array.getElem?_eq_some_iff.mp z1).1 z7]; exact z1) z2 z5 rfl rfl hdg ?_
              exact K _ _ _ _ _ _ ⟨hL, ⟨toI_ofNat hi.2, hS1⟩, hH, hV, hc, hk⟩
            rcases K0_not hk9 g1.symm with rfl | rfl | rfl | rfl
            · rcases K0_100 k hk9 mm g1.symm with ⟨rfl, rfl⟩ | ⟨rfl, rfl⟩
              · exact go _ _ hT0
              · exact go _ _ hT1
            · omega
            · obtain ⟨i, hi3, rfl, rfl⟩ := K0_103 hk9 g1.symm
              exact go _ _ (hSt.1 i hi3).2.2.2
            · omega
        · cases hs
      · cases hs
    · next mm xs =>
      split at hs
      · next h8 =>
        cases hs
        obtain ⟨ys, hys, hva, hlt, hnb⟩ := hX _ _ rfl
        obtain ⟨rfl, h9⟩ := h8
        rw [adr_lt (by decide)]
        exact va_slen hx hb hva hlt hnb hV hdg (K _ _ _ _ _ _ ⟨hL, ⟨toI_ofNat h9, hS1⟩, hH, hV, hc, hk⟩)
      · cases hs
  · cases hs
end STEPZ
