/-! the law's start: what the statement gives, in the abstract machine's words -/
noncomputable def hasT (n : Nat) (w : Jvm.Cond) : Bool := decide (lw_tbl[n]? = some w)
theorem hasT_in {n : Nat} {w : Jvm.Cond} (h : hasT n w = true) : w ∈ lw_tbl := List.mem_of_getElem? (of_decide_eq_true h)
noncomputable def givs : List Jvm.Cond := flatC (Jvm.Cond.and given_1 narrow_1)
noncomputable def hasG (w : Jvm.Cond) : Bool := decide (w ∈ givs)
theorem hasG_in {w : Jvm.Cond} (h : hasG w = true) : w ∈ flatC (Jvm.Cond.and given_1 narrow_1) := of_decide_eq_true h
theorem nest_on : nestP.all (fun p => (lw_tbl[p]?).all Jvm.Cond.onTables) = true := by decide +kernel
noncomputable def arrG (tm : Jvm.Term) (k N : Nat) : Bool := hasG (.arrayOf tm .int) && (hasG (.eq (.length tm) (.int (Int32.ofNat N))) && (List.range N).all (fun j => hasG (.eq (.elem tm (.int (Int32.ofNat j))) (.int (Int32.ofInt (cI k j))))))
theorem arr_ok {s : State} {args : Array Value} (hs : ∀ c ∈ flatC (Jvm.Cond.and given_1 narrow_1), c.before args s = true) {tm : Jvm.Term} {k N : Nat} (hN : N < 2 ^ 31) (h : arrG tm k N = true) : ∃ t : Nat, tm.eval args s none [] s = some (.ref t) ∧ va_T .int t N (fun j => .int (Int32.ofInt (cI k j))) (fun q => s.heap.size ≤ q) s s.heap := by
  unfold arrG at h
  rw [Bool.and_eq_true, Bool.and_eq_true] at h
  obtain ⟨h1, h2, h3⟩ := h
  refine va_Tof hN (hs _ (hasG_in h1)) (va_eqt (hs _ (hasG_in h2))) (fun j hj => va_eqt (hs _ (hasG_in (List.all_eq_true.mp h3 j (List.mem_range.mpr hj))))) (fun a h q => absurd h (Nat.not_lt.mpr q))
abbrev tmS (i : Nat) : Jvm.Term := .string "CaseElsewhere$Text" (stxt i).1
noncomputable def strG (i : Nat) : Bool := (hasG (.exactly (tmS i) "java/lang/String") && hasG (.eq (.field (tmS i) "java/lang/String" "coder" "B") (.int 0))) && (hasG (.arrayOf (.field (tmS i) "java/lang/String" "value" "[B") .byte) && (hasG (.eq (.length (.field (tmS i) "java/lang/String" "value" "[B")) (.int (Int32.ofNat (slen.getD i 0)))) && (List.range (slen.getD i 0)).all (fun j => hasG (.eq (.elem (.field (tmS i) "java/lang/String" "value" "[B") (.int (Int32.ofNat j))) (.int ((sbyt.getD i []).getD j 0))))))
theorem strG_ok : (List.range 3).all strG = true := by decide +kernel
noncomputable def neG (i j : Nat) : Bool := decide (i = j) || (hasG (.not (.eq (tmS i) (tmS j))) || hasG (.not (.eq (tmS j) (tmS i))))
theorem neG_ok : (List.range 3).all (fun i => (List.range 3).all (fun j => neG i j)) = true := by decide +kernel
theorem slen_lt : ∀ i : Nat, i < 3 → slen.getD i 0 < 2 ^ 31 := by decide +kernel
theorem arrG0 : arrG (.static "CaseElsewhere" "ABOVE" "[I") 0 7 = true := by decide +kernel
theorem arrG1 : arrG (.static "CaseElsewhere$Acts" "BODIES" "[I") 1 21 = true := by decide +kernel
def adF (ta tb : Nat) (adK adV : Nat → Nat) (b : Nat) (k : Nat) : Nat := match k with
  | 0 => ta
  | 1 => tb
  | 2 => adK 0
  | 3 => adK 1
  | 4 => adK 2
  | 5 => adV 0
  | 6 => adV 1
  | 7 => adV 2
  | _ => b
theorem env_ok {s : State} {args : Array Value} (b : Nat) (hts : ∀ w ∈ lw_tbl, w.before args s = true) (hgv : (Jvm.Cond.and given_1 narrow_1).before args s = true) : ∃ adc : Nat → Nat, adc 8 = b ∧ EnvX s.heap.size adc s s.heap := by
  have hs := flat_of_before _ hgv
  have hA : ∀ a : Nat, a < s.heap.size → ¬ (fun q => s.heap.size ≤ q) a := fun a h q => absurd h (Nat.not_lt.mpr q)
  obtain ⟨ta, ea, hTa⟩ := arr_ok hs (by decide) arrG0
  obtain ⟨tb, eb, hTb⟩ := arr_ok hs (by decide) arrG1
  have hst : ∀ i, i < 3 → strG i = true := fun i hi => List.all_eq_true.mp strG_ok i (List.mem_range.mpr hi)
  have hst2 : ∀ i, i < 3 → (Jvm.Cond.exactly (tmS i) "java/lang/String").before args s = true ∧ (Jvm.Cond.eq (.field (tmS i) "java/lang/String" "coder" "B") (.int 0)).before args s = true ∧ (Jvm.Cond.arrayOf (.field (tmS i) "java/lang/String" "value" "[B") .byte).before args s = true ∧ (Jvm.Cond.eq (.length (.field (tmS i) "java/lang/String" "value" "[B")) (.int (Int32.ofNat (slen.getD i 0)))).before args s = true ∧ ∀ j : Nat, j < slen.getD i 0 → (Jvm.Cond.eq (.elem (.field (tmS i) "java/lang/String" "value" "[B") (.int (Int32.ofNat j))) (.int ((sbyt.getD i []).getD j 0))).before args s = true := by
    intro i hi
    have h := hst i hi
    unfold strG at h
    rw [Bool.and_eq_true, Bool.and_eq_true, Bool.and_eq_true, Bool.and_eq_true] at h
    obtain ⟨⟨h1, h2⟩, h3, h4, h5⟩ := h
    exact ⟨hs _ (hasG_in h1), hs _ (hasG_in h2), hs _ (hasG_in h3), hs _ (hasG_in h4), fun j hj => hs _ (hasG_in (List.all_eq_true.mp h5 j (List.mem_range.mpr hj)))⟩
  obtain ⟨adK, adV, hS, hK⟩ := vk_Sof (args := args) (s := s) (N := 3) (tm := tmS) (len := slen) (byt := sbyt) (A := fun q => s.heap.size ≤ q) slen_lt (fun i hi => (hst2 i hi).1) (fun i hi => (hst2 i hi).2.1) (fun i hi => (hst2 i hi).2.2.1) (fun i hi => (hst2 i hi).2.2.2.1) (fun i hi => (hst2 i hi).2.2.2.2) (fun i j hi hj hij => by
    have h := List.all_eq_true.mp (List.all_eq_true.mp neG_ok i (List.mem_range.mpr hi)) j (List.mem_range.mpr hj)
    unfold neG at h
    rw [Bool.or_eq_true, Bool.or_eq_true] at h
    rcases h with h | h | h
    · exact absurd (of_decide_eq_true h) hij
    · exact Or.inl (hs _ (hasG_in h))
    · exact Or.inr (hs _ (hasG_in h))) hA
  refine ⟨adF ta tb adK adV b, rfl, ?_, ?_, ?_, ?_, ?_, hTa, hTb, ?_, ?_, ?_⟩
  · intro p hp w hw
    have h := List.all_eq_true.mp nest_on p hp
    rw [hw] at h
    exact va_Nw.of h (hts w (List.mem_of_getElem? hw))
  · exact va_Zref (hts _ (hasT_in (n := 972) (by decide +kernel))) (hts _ (hasT_in (n := 84) (by decide +kernel))) ea hA
  · exact va_Zref (hts _ (hasT_in (n := 970) (by decide +kernel))) (hts _ (hasT_in (n := 93) (by decide +kernel))) eb hA
  · exact va_Zof (hts _ (hasT_in (n := 559) (by decide +kernel))) (hts _ (hasT_in (n := 98) (by decide +kernel))) (va_eqi (hs _ (hasG_in (by decide +kernel)))) hA
  · exact va_Zqof (hts _ (hasT_in (n := 567) (by decide +kernel))) (hts _ (hasT_in (n := 100) (by decide +kernel))) (hs _ (hasG_in (by decide +kernel))) hA
  · refine ⟨fun i hi => ?_, fun i j hi hj e => hS.2 i j hi hj ?_⟩
    · match i, hi with
      | 0, _ => exact hS.1 0 (by omega)
      | 1, _ => exact hS.1 1 (by omega)
      | 2, _ => exact hS.1 2 (by omega)
      | n + 3, h => exact absurd h (by omega)
    · match i, j, hi, hj, e with
      | 0, 0, _, _, _ => rfl
      | 0, 1, _, _, e => exact e
      | 0, 2, _, _, e => exact e
      | 1, 0, _, _, e => exact e
      | 1, 1, _, _, _ => rfl
      | 1, 2, _, _, e => exact e
      | 2, 0, _, _, e => exact e
      | 2, 1, _, _, e => exact e
      | 2, 2, _, _, _ => rfl
      | n + 3, _, h, _, _ => exact absurd h (by omega)
      | _, n + 3, _, h, _ => exact absurd h (by omega)
  · intro i hi
    match i, hi with
    | 0, _ => exact vk_R.of (hts _ (hasT_in (n := 549) (by decide +kernel))) (hK 0 (by omega))
    | 1, _ => exact vk_R.of (hts _ (hasT_in (n := 615) (by decide +kernel))) (hK 1 (by omega))
    | 2, _ => exact vk_R.of (hts _ (hasT_in (n := 678) (by decide +kernel))) (hK 2 (by omega))
    | n + 3, h => exact absurd h (by omega)
  · intro c hc
    rcases hc with rfl | rfl
    · exact va_AO.of (hts _ (hasT_in (n := 120) (by decide +kernel)))
    · exact va_AO.of (hts _ (hasT_in (n := 261) (by decide +kernel)))
/-- the classes are known -/
theorem inst_ok : (List.range 12).all (fun c => decide (Jvm.Cond.instantiable (cn c) (nF c) ∈ lw_tbl)) = true := by decide +kernel
theorem clst_eq : (List.range 12).all (fun c => decide ((clst.map (fun r => (r.1, r.2.2)))[c]? = some (cn c, nF c))) = true := by decide +kernel
theorem clst_at2 : ∀ (c : Nat) (q : vw_C), clst[c]? = some q → c < 12 ∧ q = (cn c, (TT c, nF c)) := by
  intro c q h
  have hc : c < clst.length := (List.getElem?_eq_some_iff.mp h).1
  have hl : clst.length = 12 := rfl
  rw [hl] at hc
  refine ⟨hc, ?_⟩
  match c, hc with
  | 0, _ => cases h; rfl
  | 1, _ => cases h; rfl
  | 2, _ => cases h; rfl
  | 3, _ => cases h; rfl
  | 4, _ => cases h; rfl
  | 5, _ => cases h; rfl
  | 6, _ => cases h; rfl
  | 7, _ => cases h; rfl
  | 8, _ => cases h; rfl
  | 9, _ => cases h; rfl
  | 10, _ => cases h; rfl
  | 11, _ => cases h; rfl
  | n + 12, h => exact absurd h (by omega)
theorem kn_ok {s : State} {args : Array Value} (hts : ∀ w ∈ lw_tbl, w.before args s = true) : ∃ D : va_G, va_K D clst [] s := by
  have h : ∀ c : Nat, ∃ q : ClassId × (Nat → Nat), c < 12 → u_Kn s (cn c) (TT c) (nF c) q.1 q.2 := by
    intro c
    by_cases hc : c < 12
    · have h1 := chk.2.2.2.2.2.2.2.2 c hc
      unfold okT at h1
      rw [Bool.and_eq_true] at h1
      obtain ⟨a, b, hK⟩ := u_known (n := nF c) hts (C := cn c) (T := TT c) (N := nF c) (fun w hw => by
        have h2 := List.all_eq_true.mp h1.1 w hw
        rw [Bool.and_eq_true] at h2
        exact of_decide_eq_true h2.1) (hts _ (of_decide_eq_true (List.all_eq_true.mp inst_ok c (List.mem_range.mpr hc))))
      exact ⟨(a, b), fun _ => hK⟩
    · exact ⟨(0, fun _ => 0), fun h => absurd h hc⟩
  obtain ⟨f, hf⟩ := Classical.axiomOfChoice h
  refine ⟨(fun c => (f c).1, fun c => (f c).2), fun c q hq => ?_, fun k q hq => by cases hq⟩
  obtain ⟨hc, rfl⟩ := clst_at2 c q hq
  exact hf c hc
