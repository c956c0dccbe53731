/-! the law's own run, over the abstract machine (by wip/whole/gen95.py) -/
abbrev lwLS (i : Int) : List AV := [vr 8, vr 9, vr 92, vi i]
abbrev lwLX (n : Nat) (xs : Nat → Int) : Option (Nat × (Nat → Int)) := some (n, xs)
noncomputable def argAt (pc : Nat) (k : Int) : Bool := decide (fch (cde 236) pc = some (.aload 0, 1)) && (decide (fch (cde 236) (pc + 1) = some (.iload 3, 1)) && (decide (fch (cde 236) (pc + 2) = some (.iconst k, 1)) && (decide (fch (cde 236) (pc + 3) = some (.iadd, 1)) && decide (fch (cde 236) (pc + 4) = some (.iaload, 1)))))
noncomputable def argsAt : Nat → List Int → Bool
  | _, [] => true
  | pc, k :: l => argAt pc k && argsAt (pc + 5) l
noncomputable def caseAt (pc : Nat) (ks : List Int) (c m : Nat) : Bool :=
  (decide (fch (cde 236) pc = some (.aload 1, 1)) && (argsAt (pc + 1) ks && decide (fch (cde 236) (pc + 1 + 5 * ks.length) = some (.invokestatic c, 3)))) &&
  ((decide (fch (cde 236) (pc + 4 + 5 * ks.length) = some (.aload 2, 1)) && (argsAt (pc + 5 + 5 * ks.length) ks && decide (fch (cde 236) (pc + 5 + 10 * ks.length) = some (.invokestatic m, 3)))) &&
  ((decide (nar c = ks.length + 1) && decide (nar m = ks.length + 1)) && (decide (rcv c = 2) && decide (rcv m = 13))))
noncomputable def caseIAt (pc : Nat) (ks : List Int) (c m : Nat) : Bool := caseAt pc ks c m && decide (fch (cde 236) (pc + 8 + 10 * ks.length) = some (.if_icmp .eq 1356, 3))
noncomputable def caseLAt (pc : Nat) (ks : List Int) (c m : Nat) : Bool := caseAt pc ks c m && (decide (fch (cde 236) (pc + 8 + 10 * ks.length) = some (.lcmp, 1)) && decide (fch (cde 236) (pc + 9 + 10 * ks.length) = some (.ifCond .eq 1356, 3)))
theorem popA_app : ∀ (s r acc : List AV), popA s.length (s ++ r) acc = some (s.reverse ++ acc, r)
  | [], r, acc => rfl
  | v :: s, r, acc => by
    show popA s.length (s ++ r) (v :: acc) = _
    rw [popA_app s r (v :: acc)]
    simp
def lcpL : List Nat := [184, 227, 260, 323, 356, 399, 432, 455, 468, 517, 561, 615, 648, 671, 704, 737, 770, 793, 816, 860, 893, 916, 939, 962, 995, 1008, 1021, 1064, 1087, 1120, 1143, 1186, 1259, 1293]
def lcp (k : Nat) : Nat := (nth lcpL k).getD 1356
section LAW
variable {F : Cal} {n : Nat} {xs : Nat → Int} {σ : Sto} {r : List AV} {i : Int} {I L : Fn}
theorem p_arg {pc : Nat} {k : Int} {r : List AV} (h : argAt pc k = true) (h1 : 0 ≤ i + k ∧ i + k < n) (h2 : n ≤ 3072) : RunX (lwLX n xs) F 236 pc (lwLS i) r σ = RunX (lwLX n xs) F 236 (pc + 5) (lwLS i) (vi (xs (i + k).toNat) :: r) σ := by
  unfold argAt at h
  simp only [Bool.and_eq_true, decide_eq_true_eq] at h
  obtain ⟨f1, f2, f3, f4, f5⟩ := h
  refine Eq.trans (Run_stp f1 rfl rfl (pc' := pc + 1) (ls' := lwLS i) (st' := vr 8 :: r) (σ' := σ) rfl) ?_
  refine Eq.trans (Run_stp f2 rfl rfl (pc' := pc + 2) (ls' := lwLS i) (st' := vi i :: vr 8 :: r) (σ' := σ) rfl) ?_
  refine Eq.trans (Run_stp f3 rfl rfl (pc' := pc + 3) (ls' := lwLS i) (st' := vi k :: vi i :: vr 8 :: r) (σ' := σ) rfl) ?_
  refine Eq.trans (Run_stp f4 rfl rfl (pc' := pc + 4) (ls' := lwLS i) (st' := vi (i + k) :: vr 8 :: r) (σ' := σ) ?_) ?_
  · show some (pc + 3 + 1, lwLS i, vi (w32 (i + k)) :: vr 8 :: r, σ) = _
    rw [w32_id (by omega) (by omega)]
  · refine Run_stp f5 rfl rfl (pc' := pc + 5) ?_
    show (if (8 : Nat) = 8 then (if 0 ≤ i + k ∧ i + k < n then some (pc + 4 + 1, lwLS i, vi (xs (i + k).toNat) :: r, σ) else none) else none) = _
    rw [if_pos rfl, if_pos h1]
theorem p_args : ∀ (l : List Int) {pc : Nat} {r : List AV}, argsAt pc l = true → (∀ k ∈ l, 0 ≤ i + k ∧ i + k < n) → n ≤ 3072 → RunX (lwLX n xs) F 236 pc (lwLS i) r σ = RunX (lwLX n xs) F 236 (pc + 5 * l.length) (lwLS i) ((l.map (fun k => vi (xs (i + k).toNat))).reverse ++ r) σ
  | [], pc, r, _, _, _ => rfl
  | k :: l, pc, r, h, h1, h2 => by
    unfold argsAt at h
    rw [Bool.and_eq_true] at h
    rw [p_arg (i := i) h.1 (h1 k List.mem_cons_self) h2, p_args l h.2 (fun k hk => h1 k (List.mem_cons_of_mem _ hk)) h2]
    have e1 : pc + 5 + 5 * l.length = pc + 5 * (k :: l).length := by rw [List.length_cons]; omega
    have e2 : (l.map (fun k => vi (xs (i + k).toNat))).reverse ++ (vi (xs (i + k).toNat) :: r) = ((k :: l).map (fun k => vi (xs (i + k).toNat))).reverse ++ r := by simp
    rw [e1, e2]
/-- one call: its object, its arguments, the call -/
theorem p_obj {pc e q o t z c : Nat} {as : List AV} {v : Option AV} {I1 L1 : Fn} (f1 : fch (cde 236) pc = some (.aload q, 1)) (hq : ldl (lwLS i) q = vr o) (hp : ∀ r, RunX (lwLX n xs) F 236 (pc + 1) (lwLS i) r (S I L) = RunX (lwLX n xs) F 236 e (lwLS i) (as.reverse ++ r) (S I L)) (f2 : fch (cde 236) e = some (.invokestatic c, 3)) (hn : nar c = as.length + 1) (hk : nth K0 o = some (t, z)) (hr : rcv c = t + 2) (hw : Nat.ble (wsum r) 8 = true) (hF : F c (vr o :: as) (S I L) = some (v, S I1 L1)) : RunX (lwLX n xs) F 236 pc (lwLS i) r (S I L) = RunX (lwLX n xs) F 236 (e + 3) (lwLS i) (v.toList ++ r) (S I1 L1) := by
  refine Eq.trans (Run_stp f1 rfl rfl (pc' := pc + 1) (ls' := lwLS i) (st' := vr o :: r) (σ' := S I L) ?_) ?_
  · show s_aload q (pc + 1) (lwLS i) r (S I L) = _
    unfold s_aload
    rw [hq]
  · rw [hp (vr o :: r)]
    have e1 : popA (nar c) (as.reverse ++ vr o :: r) [] = some (vr o :: as, r) := by
      have h := popA_app (as.reverse ++ [vr o]) r []
      rw [hn]
      simp at h ⊢
      exact h
    rw [Run_call f2 e1 (by rw [hw, cok_k hr hk]; rfl), hF]
    rfl
/-- what a case of the law does: both answer alike -/
def lwLC (n : Nat) (xs : Nat → Int) (i : Int) (k : Nat) (I L : Fn) : Prop := ∃ I' L', RunX (lwLX n xs) (CallD 60) 236 (lcp k) (lwLS i) [] (S I L) = RunX (lwLX n xs) (CallD 60) 236 1356 (lwLS i) [] (S I' L') ∧ Rel I' L'
theorem case_I {pc e1 e2 c m : Nat} {as : List AV} (f1 : fch (cde 236) pc = some (.aload 1, 1)) (hp1 : ∀ r σ, RunX (lwLX n xs) (CallD 60) 236 (pc + 1) (lwLS i) r σ = RunX (lwLX n xs) (CallD 60) 236 e1 (lwLS i) (as.reverse ++ r) σ) (f2 : fch (cde 236) e1 = some (.invokestatic c, 3)) (hn1 : nar c = as.length + 1) (hr1 : rcv c = 2)
    (f3 : fch (cde 236) (e1 + 3) = some (.aload 2, 1)) (hp2 : ∀ r σ, RunX (lwLX n xs) (CallD 60) 236 (e1 + 4) (lwLS i) r σ = RunX (lwLX n xs) (CallD 60) 236 e2 (lwLS i) (as.reverse ++ r) σ) (f4 : fch (cde 236) e2 = some (.invokestatic m, 3)) (hn2 : nar m = as.length + 1) (hr2 : rcv m = 13) (f5 : fch (cde 236) (e2 + 3) = some (.if_icmp .eq 1356, 3)) (hS : SameI c m as I L) :
    ∃ I' L', RunX (lwLX n xs) (CallD 60) 236 pc (lwLS i) [] (S I L) = RunX (lwLX n xs) (CallD 60) 236 1356 (lwLS i) [] (S I' L') ∧ Rel I' L' := by
  obtain ⟨v, I1, L1, I2, L2, g1, g2, g3⟩ := hS
  refine ⟨I2, L2, ?_, g3⟩
  rw [p_obj (o := 9) (t := 0) (z := 10) f1 rfl (fun r => hp1 r _) f2 hn1 rfl hr1 rfl g1]
  rw [p_obj (o := 92) (t := 11) (z := 67) f3 rfl (fun r => hp2 r _) f4 hn2 rfl hr2 rfl g2]
  refine Run_stp f5 rfl rfl ?_
  show some (bif cnd .eq v v then (1356 : Int).toNat else e2 + 3 + 3, lwLS i, [], S I2 L2) = _
  rw [show cnd .eq v v = true from decide_eq_true rfl]
  rfl
theorem case_L {pc e1 e2 c m : Nat} {as : List AV} (f1 : fch (cde 236) pc = some (.aload 1, 1)) (hp1 : ∀ r σ, RunX (lwLX n xs) (CallD 60) 236 (pc + 1) (lwLS i) r σ = RunX (lwLX n xs) (CallD 60) 236 e1 (lwLS i) (as.reverse ++ r) σ) (f2 : fch (cde 236) e1 = some (.invokestatic c, 3)) (hn1 : nar c = as.length + 1) (hr1 : rcv c = 2)
    (f3 : fch (cde 236) (e1 + 3) = some (.aload 2, 1)) (hp2 : ∀ r σ, RunX (lwLX n xs) (CallD 60) 236 (e1 + 4) (lwLS i) r σ = RunX (lwLX n xs) (CallD 60) 236 e2 (lwLS i) (as.reverse ++ r) σ) (f4 : fch (cde 236) e2 = some (.invokestatic m, 3)) (hn2 : nar m = as.length + 1) (hr2 : rcv m = 13) (f5 : fch (cde 236) (e2 + 3) = some (.lcmp, 1)) (f6 : fch (cde 236) (e2 + 4) = some (.ifCond .eq 1356, 3)) (hS : SameL c m as I L) :
    ∃ I' L', RunX (lwLX n xs) (CallD 60) 236 pc (lwLS i) [] (S I L) = RunX (lwLX n xs) (CallD 60) 236 1356 (lwLS i) [] (S I' L') ∧ Rel I' L' := by
  obtain ⟨v, I1, L1, I2, L2, g1, g2, g3⟩ := hS
  refine ⟨I2, L2, ?_, g3⟩
  rw [p_obj (o := 9) (t := 0) (z := 10) f1 rfl (fun r => hp1 r _) f2 hn1 rfl hr1 rfl g1]
  rw [p_obj (o := 92) (t := 11) (z := 67) f3 rfl (fun r => hp2 r _) f4 hn2 rfl hr2 rfl g2]
  refine Eq.trans (Run_stp f5 rfl rfl (pc' := e2 + 4) (ls' := lwLS i) (st' := [vi 0]) (σ' := S I2 L2) ?_) ?_
  · show some (e2 + 3 + 1, lwLS i, [vi (if v < v then -1 else if v = v then 0 else 1)], S I2 L2) = _
    rw [if_neg (by omega), if_pos rfl]
  · refine Run_stp f6 rfl rfl ?_
    rfl
theorem case_of {pc c m : Nat} {ks : List Int} (h : caseAt pc ks c m = true) (h0 : 0 ≤ i) (h6 : i + 6 ≤ n) (hn : n ≤ 3072) (hk : ∀ k ∈ ks, 0 ≤ k ∧ k < 6) :
    fch (cde 236) pc = some (.aload 1, 1) ∧ (∀ r σ, RunX (lwLX n xs) (CallD 60) 236 (pc + 1) (lwLS i) r σ = RunX (lwLX n xs) (CallD 60) 236 (pc + 1 + 5 * ks.length) (lwLS i) ((ks.map (fun k => vi (xs (i + k).toNat))).reverse ++ r) σ) ∧ fch (cde 236) (pc + 1 + 5 * ks.length) = some (.invokestatic c, 3) ∧ nar c = (ks.map (fun k => vi (xs (i + k).toNat))).length + 1 ∧ rcv c = 2 ∧
    fch (cde 236) (pc + 1 + 5 * ks.length + 3) = some (.aload 2, 1) ∧ (∀ r σ, RunX (lwLX n xs) (CallD 60) 236 (pc + 1 + 5 * ks.length + 4) (lwLS i) r σ = RunX (lwLX n xs) (CallD 60) 236 (pc + 5 + 10 * ks.length) (lwLS i) ((ks.map (fun k => vi (xs (i + k).toNat))).reverse ++ r) σ) ∧ fch (cde 236) (pc + 5 + 10 * ks.length) = some (.invokestatic m, 3) ∧ nar m = (ks.map (fun k => vi (xs (i + k).toNat))).length + 1 ∧ rcv m = 13 := by
  unfold caseAt at h
  simp only [Bool.and_eq_true, decide_eq_true_eq] at h
  obtain ⟨⟨f1, f2, f3⟩, ⟨f4, f5, f6⟩, ⟨n1, n2⟩, r1, r2⟩ := h
  have hr : ∀ k ∈ ks, 0 ≤ i + k ∧ i + k < n := fun k hq => by have := hk k hq; omega
  refine ⟨f1, fun r σ => p_args ks f2 hr hn, f3, by rw [List.length_map]; exact n1, r1, by rw [show pc + 1 + 5 * ks.length + 3 = pc + 4 + 5 * ks.length by omega]; exact f4, fun r σ => ?_, f6, by rw [List.length_map]; exact n2, r2⟩
  have e1 : pc + 1 + 5 * ks.length + 4 = pc + 5 + 5 * ks.length := by omega
  have e2 : pc + 5 + 10 * ks.length = pc + 5 + 5 * ks.length + 5 * ks.length := by omega
  rw [e1, e2]
  exact p_args ks f5 hr hn
theorem law_I {k pc c m : Nat} {ks : List Int} (h : (decide (lcp k = pc) && caseIAt pc ks c m) = true) (h0 : 0 ≤ i) (h6 : i + 6 ≤ n) (hn : n ≤ 3072) (hk : ks.all (fun k => decide (0 ≤ k ∧ k < 6)) = true) (hS : SameI c m (ks.map (fun k => vi (xs (i + k).toNat))) I L) : lwLC n xs i k I L := by
  unfold caseIAt at h
  rw [Bool.and_eq_true, Bool.and_eq_true, decide_eq_true_eq, decide_eq_true_eq] at h
  obtain ⟨hpc, h, f5⟩ := h
  obtain ⟨a1, a2, a3, a4, a5, a6, a7, a8, a9, a10⟩ := case_of (xs := xs) h h0 h6 hn (fun k hq => of_decide_eq_true (List.all_eq_true.mp hk k hq))
  unfold lwLC
  rw [hpc]
  exact case_I a1 a2 a3 a4 a5 a6 a7 a8 a9 a10 (by rw [show pc + 5 + 10 * ks.length + 3 = pc + 8 + 10 * ks.length by omega]; exact f5) hS
theorem law_L {k pc c m : Nat} {ks : List Int} (h : (decide (lcp k = pc) && caseLAt pc ks c m) = true) (h0 : 0 ≤ i) (h6 : i + 6 ≤ n) (hn : n ≤ 3072) (hk : ks.all (fun k => decide (0 ≤ k ∧ k < 6)) = true) (hS : SameL c m (ks.map (fun k => vi (xs (i + k).toNat))) I L) : lwLC n xs i k I L := by
  unfold caseLAt at h
  rw [Bool.and_eq_true, Bool.and_eq_true, Bool.and_eq_true, decide_eq_true_eq, decide_eq_true_eq, decide_eq_true_eq] at h
  obtain ⟨hpc, h, f5, f6⟩ := h
  obtain ⟨a1, a2, a3, a4, a5, a6, a7, a8, a9, a10⟩ := case_of (xs := xs) h h0 h6 hn (fun k hq => of_decide_eq_true (List.all_eq_true.mp hk k hq))
  unfold lwLC
  rw [hpc]
  exact case_L a1 a2 a3 a4 a5 a6 a7 a8 a9 a10 (by rw [show pc + 5 + 10 * ks.length + 3 = pc + 8 + 10 * ks.length by omega]; exact f5) (by rw [show pc + 5 + 10 * ks.length + 4 = pc + 9 + 10 * ks.length by omega]; exact f6) hS
theorem lc_0 (hR : Rel I L) (h0 : 0 ≤ i) (h6 : i + 6 ≤ n) (hn : n ≤ 3072) (hX : ∀ j, -2147483648 ≤ xs j ∧ xs j < 2147483648) : lwLC n xs i 0 I L := law_I (k := 0) (pc := 184) (ks := [1, 2, 3]) (c := 12) (m := 141) (by decide +kernel) h0 h6 hn (by decide) (k_leads hR)
theorem lc_1 (hR : Rel I L) (h0 : 0 ≤ i) (h6 : i + 6 ≤ n) (hn : n ≤ 3072) (hX : ∀ j, -2147483648 ≤ xs j ∧ xs j < 2147483648) : lwLC n xs i 1 I L := law_I (k := 1) (pc := 227) (ks := [1, 2]) (c := 14) (m := 144) (by decide +kernel) h0 h6 hn (by decide) (k_near hR)
theorem lc_2 (hR : Rel I L) (h0 : 0 ≤ i) (h6 : i + 6 ≤ n) (hn : n ≤ 3072) (hX : ∀ j, -2147483648 ≤ xs j ∧ xs j < 2147483648) : lwLC n xs i 2 I L := law_I (k := 2) (pc := 260) (ks := [1, 2, 3, 4, 5]) (c := 17) (m := 146) (by decide +kernel) h0 h6 hn (by decide) (k_bag hR)
theorem lc_3 (hR : Rel I L) (h0 : 0 ≤ i) (h6 : i + 6 ≤ n) (hn : n ≤ 3072) (hX : ∀ j, -2147483648 ≤ xs j ∧ xs j < 2147483648) : lwLC n xs i 3 I L := law_I (k := 3) (pc := 323) (ks := [1, 2]) (c := 21) (m := 168) (by decide +kernel) h0 h6 hn (by decide) (k_of hR)
theorem lc_4 (hR : Rel I L) (h0 : 0 ≤ i) (h6 : i + 6 ≤ n) (hn : n ≤ 3072) (hX : ∀ j, -2147483648 ≤ xs j ∧ xs j < 2147483648) : lwLC n xs i 4 I L := law_I (k := 4) (pc := 356) (ks := [1, 2, 3]) (c := 31) (m := 148) (by decide +kernel) h0 h6 hn (by decide) (k_set hR)
theorem lc_5 (hR : Rel I L) (h0 : 0 ≤ i) (h6 : i + 6 ≤ n) (hn : n ≤ 3072) (hX : ∀ j, -2147483648 ≤ xs j ∧ xs j < 2147483648) : lwLC n xs i 5 I L := law_I (k := 5) (pc := 399) (ks := [1, 2]) (c := 32) (m := 150) (by decide +kernel) h0 h6 hn (by decide) (k_owner hR)
theorem lc_6 (hR : Rel I L) (h0 : 0 ≤ i) (h6 : i + 6 ≤ n) (hn : n ≤ 3072) (hX : ∀ j, -2147483648 ≤ xs j ∧ xs j < 2147483648) : lwLC n xs i 6 I L := law_I (k := 6) (pc := 432) (ks := [1]) (c := 33) (m := 151) (by decide +kernel) h0 h6 hn (by decide) (k_feed hR)
theorem lc_7 (hR : Rel I L) (h0 : 0 ≤ i) (h6 : i + 6 ≤ n) (hn : n ≤ 3072) (hX : ∀ j, -2147483648 ≤ xs j ∧ xs j < 2147483648) : lwLC n xs i 7 I L := law_I (k := 7) (pc := 455) (ks := []) (c := 36) (m := 152) (by decide +kernel) h0 h6 hn (by decide) (k_hall hR)
def bz (x : Int) : Int := if x = 0 then 0 else 1
noncomputable def boolAt (pc : Nat) (t u : Nat) : Bool := (decide (fch (cde 236) pc = some (.ifCond .eq t, 3)) && decide (fch (cde 236) (pc + 3) = some (.iconst 1, 1))) && (decide (fch (cde 236) (pc + 4) = some (.goto u, 3)) && decide (fch (cde 236) t = some (.iconst 0, 1)))
theorem p_bool {pc t u : Nat} {r : List AV} {x : Int} (h : boolAt pc t u = true) (hu : t + 1 = u) : RunX (lwLX n xs) F 236 pc (lwLS i) (vi x :: r) σ = RunX (lwLX n xs) F 236 u (lwLS i) (vi (bz x) :: r) σ := by
  unfold boolAt at h
  simp only [Bool.and_eq_true, decide_eq_true_eq] at h
  obtain ⟨⟨f1, f2⟩, f3, f4⟩ := h
  subst hu
  by_cases hx : x = 0
  · refine Eq.trans (Run_stp f1 rfl rfl (pc' := t) (ls' := lwLS i) (st' := r) (σ' := σ) ?_) ?_
    · show some (bif cnd .eq x 0 then ((t : Nat) : Int).toNat else pc + 3, lwLS i, r, σ) = _
      rw [show cnd .eq x 0 = true from decide_eq_true hx]
      rfl
    · refine Eq.trans (Run_stp f4 rfl rfl (pc' := t + 1) (ls' := lwLS i) (st' := vi 0 :: r) (σ' := σ) rfl) ?_
      rw [bz, if_pos hx]
  · refine Eq.trans (Run_stp f1 rfl rfl (pc' := pc + 3) (ls' := lwLS i) (st' := r) (σ' := σ) ?_) ?_
    · show some (bif cnd .eq x 0 then ((t : Nat) : Int).toNat else pc + 3, lwLS i, r, σ) = _
      rw [show cnd .eq x 0 = false from decide_eq_false hx]
      rfl
    · refine Eq.trans (Run_stp f2 rfl rfl (pc' := pc + 4) (ls' := lwLS i) (st' := vi 1 :: r) (σ' := σ) rfl) ?_
      refine Eq.trans (Run_stp f3 rfl rfl (pc' := t + 1) (ls' := lwLS i) (st' := vi 1 :: r) (σ' := σ) ?_) ?_
      · show some ((((t + 1 : Nat) : Int)).toNat, lwLS i, vi 1 :: r, σ) = _
        rfl
      · rw [bz, if_neg hx]
theorem lc_8 (hR : Rel I L) (h0 : 0 ≤ i) (h6 : i + 6 ≤ n) (hn : n ≤ 3072) (hX : ∀ j, -2147483648 ≤ xs j ∧ xs j < 2147483648) : lwLC n xs i 8 I L := by
  unfold lwLC
  rw [show lcp 8 = 468 from rfl]
  refine case_I (pc := 468) (e1 := 487) (e2 := 509) (c := 63) (m := 177) (as := [vi (xs (i + 1).toNat), vi (bz (xs (i + 2).toNat))]) (by decide +kernel) (fun r σ => ?_) (by decide +kernel) rfl (by decide +kernel) (by decide +kernel) (fun r σ => ?_) (by decide +kernel) rfl (by decide +kernel) (by decide +kernel) (k_ride hR)
  · rw [p_arg (i := i) (pc := 468 + 1) (k := 1) (by decide +kernel) (by omega) hn, p_arg (i := i) (pc := 468 + 1 + 5) (k := 2) (by decide +kernel) (by omega) hn, p_bool (i := i) (pc := 468 + 1 + 5 + 5) (t := 486) (u := 487) (by decide +kernel) rfl]
    rfl
  · rw [p_arg (i := i) (pc := 487 + 4) (k := 1) (by decide +kernel) (by omega) hn, p_arg (i := i) (pc := 487 + 4 + 5) (k := 2) (by decide +kernel) (by omega) hn, p_bool (i := i) (pc := 487 + 4 + 5 + 5) (t := 508) (u := 509) (by decide +kernel) rfl]
    rfl
theorem lc_9 (hR : Rel I L) (h0 : 0 ≤ i) (h6 : i + 6 ≤ n) (hn : n ≤ 3072) (hX : ∀ j, -2147483648 ≤ xs j ∧ xs j < 2147483648) : lwLC n xs i 9 I L := law_L (k := 9) (pc := 517) (ks := [1, 2, 3]) (c := 66) (m := 179) (by decide +kernel) h0 h6 hn (by decide) (k_by hR)
theorem lc_10 (hR : Rel I L) (h0 : 0 ≤ i) (h6 : i + 6 ≤ n) (hn : n ≤ 3072) (hX : ∀ j, -2147483648 ≤ xs j ∧ xs j < 2147483648) : lwLC n xs i 10 I L := law_L (k := 10) (pc := 561) (ks := [1, 2, 3, 4]) (c := 71) (m := 184) (by decide +kernel) h0 h6 hn (by decide) (k_where hR)
theorem lc_11 (hR : Rel I L) (h0 : 0 ≤ i) (h6 : i + 6 ≤ n) (hn : n ≤ 3072) (hX : ∀ j, -2147483648 ≤ xs j ∧ xs j < 2147483648) : lwLC n xs i 11 I L := law_I (k := 11) (pc := 615) (ks := [1, 2]) (c := 72) (m := 185) (by decide +kernel) h0 h6 hn (by decide) (k_soonest hR)
theorem lc_12 (hR : Rel I L) (h0 : 0 ≤ i) (h6 : i + 6 ≤ n) (hn : n ≤ 3072) (hX : ∀ j, -2147483648 ≤ xs j ∧ xs j < 2147483648) : lwLC n xs i 12 I L := law_I (k := 12) (pc := 648) (ks := [1]) (c := 75) (m := 188) (by decide +kernel) h0 h6 hn (by decide) (k_ring hR)
theorem lc_13 (hR : Rel I L) (h0 : 0 ≤ i) (h6 : i + 6 ≤ n) (hn : n ≤ 3072) (hX : ∀ j, -2147483648 ≤ xs j ∧ xs j < 2147483648) : lwLC n xs i 13 I L := law_I (k := 13) (pc := 671) (ks := [1, 2]) (c := 77) (m := 191) (by decide +kernel) h0 h6 hn (by decide) (k_steps hR)
theorem lc_14 (hR : Rel I L) (h0 : 0 ≤ i) (h6 : i + 6 ≤ n) (hn : n ≤ 3072) (hX : ∀ j, -2147483648 ≤ xs j ∧ xs j < 2147483648) : lwLC n xs i 14 I L := law_I (k := 14) (pc := 704) (ks := [1, 2]) (c := 79) (m := 193) (by decide +kernel) h0 h6 hn (by decide) (k_like hR)
theorem lc_15 (hR : Rel I L) (h0 : 0 ≤ i) (h6 : i + 6 ≤ n) (hn : n ≤ 3072) (hX : ∀ j, -2147483648 ≤ xs j ∧ xs j < 2147483648) : lwLC n xs i 15 I L := law_I (k := 15) (pc := 737) (ks := [1, 2]) (c := 82) (m := 195) (by decide +kernel) h0 h6 hn (by decide) (k_fit hR)
theorem lc_16 (hR : Rel I L) (h0 : 0 ≤ i) (h6 : i + 6 ≤ n) (hn : n ≤ 3072) (hX : ∀ j, -2147483648 ≤ xs j ∧ xs j < 2147483648) : lwLC n xs i 16 I L := law_I (k := 16) (pc := 770) (ks := [1]) (c := 85) (m := 197) (by decide +kernel) h0 h6 hn (by decide) (k_whose hR)
theorem lc_17 (hR : Rel I L) (h0 : 0 ≤ i) (h6 : i + 6 ≤ n) (hn : n ≤ 3072) (hX : ∀ j, -2147483648 ≤ xs j ∧ xs j < 2147483648) : lwLC n xs i 17 I L := law_I (k := 17) (pc := 793) (ks := [1]) (c := 93) (m := 201) (by decide +kernel) h0 h6 hn (by decide) (k_changed hR)
theorem lc_18 (hR : Rel I L) (h0 : 0 ≤ i) (h6 : i + 6 ≤ n) (hn : n ≤ 3072) (hX : ∀ j, -2147483648 ≤ xs j ∧ xs j < 2147483648) : lwLC n xs i 18 I L := law_L (k := 18) (pc := 816) (ks := [1, 2, 3]) (c := 98) (m := 204) (by decide +kernel) h0 h6 hn (by decide) (k_change hR)
theorem lc_19 (hR : Rel I L) (h0 : 0 ≤ i) (h6 : i + 6 ≤ n) (hn : n ≤ 3072) (hX : ∀ j, -2147483648 ≤ xs j ∧ xs j < 2147483648) : lwLC n xs i 19 I L := law_I (k := 19) (pc := 860) (ks := [1, 2]) (c := 103) (m := 207) (by decide +kernel) h0 h6 hn (by decide) (k_need hR)
theorem lc_20 (hR : Rel I L) (h0 : 0 ≤ i) (h6 : i + 6 ≤ n) (hn : n ≤ 3072) (hX : ∀ j, -2147483648 ≤ xs j ∧ xs j < 2147483648) : lwLC n xs i 20 I L := law_I (k := 20) (pc := 893) (ks := [1]) (c := 105) (m := 208) (by decide +kernel) h0 h6 hn (by decide) (k_room hR)
theorem lc_21 (hR : Rel I L) (h0 : 0 ≤ i) (h6 : i + 6 ≤ n) (hn : n ≤ 3072) (hX : ∀ j, -2147483648 ≤ xs j ∧ xs j < 2147483648) : lwLC n xs i 21 I L := law_I (k := 21) (pc := 916) (ks := [1]) (c := 109) (m := 211) (by decide +kernel) h0 h6 hn (by decide) (k_film hR)
theorem lc_22 (hR : Rel I L) (h0 : 0 ≤ i) (h6 : i + 6 ≤ n) (hn : n ≤ 3072) (hX : ∀ j, -2147483648 ≤ xs j ∧ xs j < 2147483648) : lwLC n xs i 22 I L := law_I (k := 22) (pc := 939) (ks := [1]) (c := 110) (m := 212) (by decide +kernel) h0 h6 hn (by decide) (k_could hR)
theorem lc_23 (hR : Rel I L) (h0 : 0 ≤ i) (h6 : i + 6 ≤ n) (hn : n ≤ 3072) (hX : ∀ j, -2147483648 ≤ xs j ∧ xs j < 2147483648) : lwLC n xs i 23 I L := law_I (k := 23) (pc := 962) (ks := [1, 2]) (c := 113) (m := 213) (by decide +kernel) h0 h6 hn (by decide) (k_judge hR (hX _))
theorem lc_24 (hR : Rel I L) (h0 : 0 ≤ i) (h6 : i + 6 ≤ n) (hn : n ≤ 3072) (hX : ∀ j, -2147483648 ≤ xs j ∧ xs j < 2147483648) : lwLC n xs i 24 I L := law_I (k := 24) (pc := 995) (ks := []) (c := 118) (m := 215) (by decide +kernel) h0 h6 hn (by decide) (k_image hR)
theorem lc_25 (hR : Rel I L) (h0 : 0 ≤ i) (h6 : i + 6 ≤ n) (hn : n ≤ 3072) (hX : ∀ j, -2147483648 ≤ xs j ∧ xs j < 2147483648) : lwLC n xs i 25 I L := law_I (k := 25) (pc := 1008) (ks := []) (c := 121) (m := 216) (by decide +kernel) h0 h6 hn (by decide) (k_undo hR)
theorem lc_26 (hR : Rel I L) (h0 : 0 ≤ i) (h6 : i + 6 ≤ n) (hn : n ≤ 3072) (hX : ∀ j, -2147483648 ≤ xs j ∧ xs j < 2147483648) : lwLC n xs i 26 I L := law_I (k := 26) (pc := 1021) (ks := [1, 2, 3]) (c := 122) (m := 217) (by decide +kernel) h0 h6 hn (by decide) (k_act hR)
theorem lc_27 (hR : Rel I L) (h0 : 0 ≤ i) (h6 : i + 6 ≤ n) (hn : n ≤ 3072) (hX : ∀ j, -2147483648 ≤ xs j ∧ xs j < 2147483648) : lwLC n xs i 27 I L := law_I (k := 27) (pc := 1064) (ks := [1]) (c := 126) (m := 226) (by decide +kernel) h0 h6 hn (by decide) (k_trace hR)
theorem lc_28 (hR : Rel I L) (h0 : 0 ≤ i) (h6 : i + 6 ≤ n) (hn : n ≤ 3072) (hX : ∀ j, -2147483648 ≤ xs j ∧ xs j < 2147483648) : lwLC n xs i 28 I L := law_I (k := 28) (pc := 1087) (ks := [1, 2]) (c := 128) (m := 227) (by decide +kernel) h0 h6 hn (by decide) (k_taken hR)
theorem lc_29 (hR : Rel I L) (h0 : 0 ≤ i) (h6 : i + 6 ≤ n) (hn : n ≤ 3072) (hX : ∀ j, -2147483648 ≤ xs j ∧ xs j < 2147483648) : lwLC n xs i 29 I L := law_I (k := 29) (pc := 1120) (ks := [1]) (c := 130) (m := 228) (by decide +kernel) h0 h6 hn (by decide) (k_count hR)
theorem lc_30 (hR : Rel I L) (h0 : 0 ≤ i) (h6 : i + 6 ≤ n) (hn : n ≤ 3072) (hX : ∀ j, -2147483648 ≤ xs j ∧ xs j < 2147483648) : lwLC n xs i 30 I L := law_I (k := 30) (pc := 1143) (ks := [1, 2, 3]) (c := 131) (m := 229) (by decide +kernel) h0 h6 hn (by decide) (k_tape hR)
noncomputable def longAt (pc : Nat) : Bool := (argAt pc 3 && (decide (fch (cde 236) (pc + 5) = some (.i2l, 1)) && (decide (fch (cde 236) (pc + 6) = some (.iconst 32, 2)) && decide (fch (cde 236) (pc + 8) = some (.lshl, 1))))) && (argAt (pc + 9) 4 && ((decide (fch (cde 236) (pc + 14) = some (.i2l, 1)) && decide (fch (cde 236) (pc + 15) = some (.sipush 4294967295, 3))) && (decide (fch (cde 236) (pc + 18) = some (.land, 1)) && decide (fch (cde 236) (pc + 19) = some (.lor, 1)))))
theorem p_long {pc : Nat} {r : List AV} (h : longAt pc = true) (h0 : 0 ≤ i) (h6 : i + 6 ≤ n) (hn : n ≤ 3072) : RunX (lwLX n xs) F 236 pc (lwLS i) r σ = RunX (lwLX n xs) F 236 (pc + 20) (lwLS i) (vl (or64 (shl64 (xs (i + 3).toNat) 32) (and64 (xs (i + 4).toNat) 4294967295)) :: r) σ := by
  unfold longAt at h
  simp only [Bool.and_eq_true, decide_eq_true_eq] at h
  obtain ⟨⟨a1, f1, f2, f3⟩, a2, ⟨f4, f5⟩, f6, f7⟩ := h
  rw [p_arg (i := i) a1 (by omega) hn]
  generalize xs (i + 3).toNat = x
  refine Eq.trans (Run_stp f1 rfl rfl (pc' := pc + 6) (ls' := lwLS i) (st' := vl x :: r) (σ' := σ) rfl) ?_
  refine Eq.trans (Run_stp f2 rfl rfl (pc' := pc + 8) (ls' := lwLS i) (st' := vi 32 :: vl x :: r) (σ' := σ) rfl) ?_
  refine Eq.trans (Run_stp f3 rfl rfl (pc' := pc + 9) (ls' := lwLS i) (st' := vl (shl64 x 32) :: r) (σ' := σ) rfl) ?_
  rw [p_arg (i := i) a2 (by omega) hn]
  generalize xs (i + 4).toNat = y
  refine Eq.trans (Run_stp f4 rfl rfl (pc' := pc + 15) (ls' := lwLS i) (st' := vl y :: vl (shl64 x 32) :: r) (σ' := σ) rfl) ?_
  refine Eq.trans (Run_stp f5 rfl rfl (pc' := pc + 18) (ls' := lwLS i) (st' := vl 4294967295 :: vl y :: vl (shl64 x 32) :: r) (σ' := σ) rfl) ?_
  refine Eq.trans (Run_stp f6 rfl rfl (pc' := pc + 19) (ls' := lwLS i) (st' := vl (and64 y 4294967295) :: vl (shl64 x 32) :: r) (σ' := σ) rfl) ?_
  exact Run_stp f7 rfl rfl rfl
theorem lc_31 (hR : Rel I L) (h0 : 0 ≤ i) (h6 : i + 6 ≤ n) (hn : n ≤ 3072) (hX : ∀ j, -2147483648 ≤ xs j ∧ xs j < 2147483648) : lwLC n xs i 31 I L := by
  unfold lwLC
  rw [show lcp 31 = 1186 from rfl]
  refine case_I (pc := 1186) (e1 := 1217) (e2 := 1251) (c := 133) (m := 230) (as := [vi (xs (i + 1).toNat), vi (xs (i + 2).toNat), vl (or64 (shl64 (xs (i + 3).toNat) 32) (and64 (xs (i + 4).toNat) 4294967295))]) (by decide +kernel) (fun r σ => ?_) (by decide +kernel) rfl (by decide +kernel) (by decide +kernel) (fun r σ => ?_) (by decide +kernel) rfl (by decide +kernel) (by decide +kernel) (k_item hR)
  · rw [p_arg (i := i) (pc := 1186 + 1) (k := 1) (by decide +kernel) (by omega) hn, p_arg (i := i) (pc := 1186 + 1 + 5) (k := 2) (by decide +kernel) (by omega) hn, p_long (i := i) (pc := 1186 + 1 + 5 + 5) (by decide +kernel) h0 h6 hn]
    rfl
  · rw [p_arg (i := i) (pc := 1217 + 4) (k := 1) (by decide +kernel) (by omega) hn, p_arg (i := i) (pc := 1217 + 4 + 5) (k := 2) (by decide +kernel) (by omega) hn, p_long (i := i) (pc := 1217 + 4 + 5 + 5) (by decide +kernel) h0 h6 hn]
    rfl
theorem lc_32 (hR : Rel I L) (h0 : 0 ≤ i) (h6 : i + 6 ≤ n) (hn : n ≤ 3072) (hX : ∀ j, -2147483648 ≤ xs j ∧ xs j < 2147483648) : lwLC n xs i 32 I L := law_L (k := 32) (pc := 1259) (ks := [1, 2]) (c := 136) (m := 232) (by decide +kernel) h0 h6 hn (by decide) (k_read hR)
theorem lc_33 (hR : Rel I L) (h0 : 0 ≤ i) (h6 : i + 6 ≤ n) (hn : n ≤ 3072) (hX : ∀ j, -2147483648 ≤ xs j ∧ xs j < 2147483648) : lwLC n xs i 33 I L := law_I (k := 33) (pc := 1293) (ks := [1, 2, 3, 4, 5]) (c := 137) (m := 233) (by decide +kernel) h0 h6 hn (by decide) (k_shift hR (hX _))
end LAW
theorem swt_out (x : Int) (d : Nat) : ∀ l : List (Int × Int), (∀ q ∈ l, x ≠ q.1) → swt x d l = d
  | [], _ => rfl
  | (k, t) :: r, h => by
    have h1 : swt x d ((k, t) :: r) = swt x d r := if_neg (h (k, t) List.mem_cons_self)
    rw [h1]
    exact swt_out x d r (fun q hq => h q (List.mem_cons_of_mem _ hq))
def lawPs : List (Int × Int) := [(0, 184), (1, 227), (2, 260), (3, 323), (4, 356), (5, 399), (6, 432), (7, 455), (8, 468), (9, 517), (10, 561), (11, 615), (12, 648), (13, 671), (14, 704), (15, 737), (16, 770), (17, 793), (18, 816), (19, 860), (20, 893), (21, 916), (22, 939), (23, 962), (24, 995), (25, 1008), (26, 1021), (27, 1064), (28, 1087), (29, 1120), (30, 1143), (31, 1186), (32, 1259), (33, 1293)]
theorem f_law33 : fch (cde 236) 33 = some (.lookupswitch 1356 lawPs.toArray, 151) := by decide +kernel
theorem law_sw (k : Nat) (hk : k < 34) : swt (k : Int) (1356 : Int).toNat lawPs = lcp k := by
  have h : (List.range 34).all (fun k => decide (swt (k : Int) (1356 : Int).toNat lawPs = lcp k)) = true := by decide +kernel
  exact of_decide_eq_true (List.all_eq_true.mp h k (List.mem_range.mpr hk))
theorem law_sw_out {x : Int} (hx : ¬ (0 ≤ x ∧ x < 34)) : swt x (1356 : Int).toNat lawPs = 1356 := by
  refine swt_out x _ lawPs (fun q hq => ?_)
  have h : lawPs.all (fun q => decide (0 ≤ q.1 ∧ q.1 < 34)) = true := by decide +kernel
  have h2 := of_decide_eq_true (List.all_eq_true.mp h q hq)
  omega
theorem law_cases {n : Nat} {xs : Nat → Int} {i : Int} {I L : Fn} (hR : Rel I L) (h0 : 0 ≤ i) (h6 : i + 6 ≤ n) (hn : n ≤ 3072) (hX : ∀ j, -2147483648 ≤ xs j ∧ xs j < 2147483648) (k : Nat) (hk : k < 34) : lwLC n xs i k I L := by
  match k, hk with
  | 0, _ => exact lc_0 hR h0 h6 hn hX
  | 1, _ => exact lc_1 hR h0 h6 hn hX
  | 2, _ => exact lc_2 hR h0 h6 hn hX
  | 3, _ => exact lc_3 hR h0 h6 hn hX
  | 4, _ => exact lc_4 hR h0 h6 hn hX
  | 5, _ => exact lc_5 hR h0 h6 hn hX
  | 6, _ => exact lc_6 hR h0 h6 hn hX
  | 7, _ => exact lc_7 hR h0 h6 hn hX
  | 8, _ => exact lc_8 hR h0 h6 hn hX
  | 9, _ => exact lc_9 hR h0 h6 hn hX
  | 10, _ => exact lc_10 hR h0 h6 hn hX
  | 11, _ => exact lc_11 hR h0 h6 hn hX
  | 12, _ => exact lc_12 hR h0 h6 hn hX
  | 13, _ => exact lc_13 hR h0 h6 hn hX
  | 14, _ => exact lc_14 hR h0 h6 hn hX
  | 15, _ => exact lc_15 hR h0 h6 hn hX
  | 16, _ => exact lc_16 hR h0 h6 hn hX
  | 17, _ => exact lc_17 hR h0 h6 hn hX
  | 18, _ => exact lc_18 hR h0 h6 hn hX
  | 19, _ => exact lc_19 hR h0 h6 hn hX
  | 20, _ => exact lc_20 hR h0 h6 hn hX
  | 21, _ => exact lc_21 hR h0 h6 hn hX
  | 22, _ => exact lc_22 hR h0 h6 hn hX
  | 23, _ => exact lc_23 hR h0 h6 hn hX
  | 24, _ => exact lc_24 hR h0 h6 hn hX
  | 25, _ => exact lc_25 hR h0 h6 hn hX
  | 26, _ => exact lc_26 hR h0 h6 hn hX
  | 27, _ => exact lc_27 hR h0 h6 hn hX
  | 28, _ => exact lc_28 hR h0 h6 hn hX
  | 29, _ => exact lc_29 hR h0 h6 hn hX
  | 30, _ => exact lc_30 hR h0 h6 hn hX
  | 31, _ => exact lc_31 hR h0 h6 hn hX
  | 32, _ => exact lc_32 hR h0 h6 hn hX
  | 33, _ => exact lc_33 hR h0 h6 hn hX
  | k + 34, h => exact absurd h (by omega)
theorem f_law18 : fch (cde 236) 18 = some (.iload 3, 1) := by decide +kernel
theorem f_law19 : fch (cde 236) 19 = some (.aload 0, 1) := by decide +kernel
theorem f_law20 : fch (cde 236) 20 = some (.arraylength, 1) := by decide +kernel
theorem f_law21 : fch (cde 236) 21 = some (.iconst 6, 2) := by decide +kernel
theorem f_law23 : fch (cde 236) 23 = some (.isub, 1) := by decide +kernel
theorem f_law24 : fch (cde 236) 24 = some (.if_icmp .gt 1362, 3) := by decide +kernel
theorem f_law27 : fch (cde 236) 27 = some (.aload 0, 1) := by decide +kernel
theorem f_law28 : fch (cde 236) 28 = some (.iload 3, 1) := by decide +kernel
theorem f_law29 : fch (cde 236) 29 = some (.iaload, 1) := by decide +kernel
theorem f_law30 : fch (cde 236) 30 = some (.iconst 63, 2) := by decide +kernel
theorem f_law32 : fch (cde 236) 32 = some (.iand, 1) := by decide +kernel
theorem f_law1356 : fch (cde 236) 1356 = some (.iinc 3 6, 3) := by decide +kernel
theorem f_law1359 : fch (cde 236) 1359 = some (.goto 18, 3) := by decide +kernel
theorem f_law1362 : fch (cde 236) 1362 = some (.iconst 1, 1) := by decide +kernel
theorem f_law1363 : fch (cde 236) 1363 = some (.ireturn, 1) := by decide +kernel
theorem law_top {n : Nat} {xs : Nat → Int} {F : Cal} {i : Int} {σ : Sto} (hn : n ≤ 3072) : RunX (lwLX n xs) F 236 18 (lwLS i) [] σ = RunX (lwLX n xs) F 236 24 (lwLS i) [vi (n - 6), vi i] σ := by
  refine Eq.trans (Run_stp f_law18 rfl rfl (pc' := 19) (ls' := lwLS i) (st' := [vi i]) (σ' := σ) rfl) ?_
  refine Eq.trans (Run_stp f_law19 rfl rfl (pc' := 20) (ls' := lwLS i) (st' := [vr 8, vi i]) (σ' := σ) rfl) ?_
  refine Eq.trans (Run_stp f_law20 rfl rfl (pc' := 21) (ls' := lwLS i) (st' := [vi n, vi i]) (σ' := σ) ?_) ?_
  · show (if (8 : Nat) = 8 ∧ n < 2147483648 then some (20 + 1, lwLS i, vi n :: [vi i], σ) else none) = _
    exact if_pos ⟨rfl, by omega⟩
  refine Eq.trans (Run_stp f_law21 rfl rfl (pc' := 23) (ls' := lwLS i) (st' := [vi 6, vi n, vi i]) (σ' := σ) rfl) ?_
  refine Run_stp f_law23 rfl rfl ?_
  show some (23 + 1, lwLS i, vi (w32 ((n : Int) - 6)) :: [vi i], σ) = _
  rw [w32_id (by omega) (by omega)]
theorem law_loop {n : Nat} {xs : Nat → Int} (hn : n ≤ 3072) (hX : ∀ j, -2147483648 ≤ xs j ∧ xs j < 2147483648) : ∀ (w : Nat) (i : Int) (I L : Fn), Rel I L → 0 ≤ i → i ≤ 6000 → (n : Int) - i ≤ w → ∃ I' L', RunX (lwLX n xs) (CallD 60) 236 18 (lwLS i) [] (S I L) = some (some (vi 1), S I' L') := by
  intro w
  induction w with
  | zero =>
    intro i I L hR h0 h9 hw
    refine ⟨I, L, ?_⟩
    rw [law_top hn]
    refine Eq.trans (Run_stp f_law24 rfl rfl (pc' := 1362) (ls' := lwLS i) (st' := []) (σ' := S I L) ?_) ?_
    · show some (bif cnd .gt i ((n : Int) - 6) then (1362 : Int).toNat else 24 + 3, lwLS i, [], S I L) = _
      rw [show cnd .gt i ((n : Int) - 6) = true from decide_eq_true (by omega)]
      rfl
    · refine Eq.trans (Run_stp f_law1362 rfl rfl (pc' := 1363) (ls' := lwLS i) (st' := [vi 1]) (σ' := S I L) rfl) ?_
      exact Run_ret f_law1363 (v := some (some (vi 1))) (by decide +kernel)
  | succ w ih =>
    intro i I L hR h0 h9 hw
    by_cases hi : i + 6 ≤ n
    · rw [law_top hn]
      have step : ∃ I' L', RunX (lwLX n xs) (CallD 60) 236 24 (lwLS i) [vi ((n : Int) - 6), vi i] (S I L) = RunX (lwLX n xs) (CallD 60) 236 1356 (lwLS i) [] (S I' L') ∧ Rel I' L' := by
        have e1 : RunX (lwLX n xs) (CallD 60) 236 24 (lwLS i) [vi ((n : Int) - 6), vi i] (S I L) = RunX (lwLX n xs) (CallD 60) 236 33 (lwLS i) [vi (and32 (xs i.toNat) 63)] (S I L) := by
          refine Eq.trans (Run_stp f_law24 rfl rfl (pc' := 27) (ls' := lwLS i) (st' := []) (σ' := S I L) ?_) ?_
          · show some (bif cnd .gt i ((n : Int) - 6) then (1362 : Int).toNat else 24 + 3, lwLS i, [], S I L) = _
            rw [show cnd .gt i ((n : Int) - 6) = false from decide_eq_false (by omega)]
            rfl
          refine Eq.trans (Run_stp f_law27 rfl rfl (pc' := 28) (ls' := lwLS i) (st' := [vr 8]) (σ' := S I L) rfl) ?_
          refine Eq.trans (Run_stp f_law28 rfl rfl (pc' := 29) (ls' := lwLS i) (st' := [vi i, vr 8]) (σ' := S I L) rfl) ?_
          refine Eq.trans (Run_stp f_law29 rfl rfl (pc' := 30) (ls' := lwLS i) (st' := [vi (xs i.toNat)]) (σ' := S I L) ?_) ?_
          · show (if (8 : Nat) = 8 then (if 0 ≤ i ∧ i < n then some (29 + 1, lwLS i, [vi (xs i.toNat)], S I L) else none) else none) = _
            rw [if_pos rfl, if_pos ⟨h0, by omega⟩]
          refine Eq.trans (Run_stp f_law30 rfl rfl (pc' := 32) (ls' := lwLS i) (st' := [vi 63, vi (xs i.toNat)]) (σ' := S I L) rfl) ?_
          exact Run_stp f_law32 rfl rfl rfl
        rw [e1]
        generalize and32 (xs i.toNat) 63 = v
        by_cases hv : 0 ≤ v ∧ v < 34
        · obtain ⟨I', L', g1, g2⟩ := law_cases hR h0 hi hn hX v.toNat (by omega)
          refine ⟨I', L', ?_, g2⟩
          rw [← g1]
          refine Run_stp f_law33 rfl rfl ?_
          show some (swt v (1356 : Int).toNat lawPs, lwLS i, [], S I L) = _
          have e2 : v = ((v.toNat : Nat) : Int) := by omega
          rw [← law_sw v.toNat (by omega), ← e2]
        · refine ⟨I, L, ?_, hR⟩
          refine Run_stp f_law33 rfl rfl ?_
          show some (swt v (1356 : Int).toNat lawPs, lwLS i, [], S I L) = _
          rw [law_sw_out hv]
      obtain ⟨I', L', g1, g2⟩ := step
      rw [g1]
      obtain ⟨I2, L2, g3⟩ := ih (i + 6) I' L' g2 (by omega) (by omega) (by omega)
      refine ⟨I2, L2, ?_⟩
      rw [← g3]
      refine Eq.trans (Run_stp f_law1356 rfl rfl (pc' := 1359) (ls' := lwLS (i + 6)) (st' := []) (σ' := S I' L') ?_) ?_
      · show some (1356 + 3, stl (lwLS i) 3 (vi (w32 (i + 6))), [], S I' L') = _
        rw [w32_id (by omega) (by omega)]
        rfl
      · exact Run_stp f_law1359 rfl rfl rfl
    · refine ⟨I, L, ?_⟩
      rw [law_top hn]
      refine Eq.trans (Run_stp f_law24 rfl rfl (pc' := 1362) (ls' := lwLS i) (st' := []) (σ' := S I L) ?_) ?_
      · show some (bif cnd .gt i ((n : Int) - 6) then (1362 : Int).toNat else 24 + 3, lwLS i, [], S I L) = _
        rw [show cnd .gt i ((n : Int) - 6) = true from decide_eq_true (by omega)]
        rfl
      · refine Eq.trans (Run_stp f_law1362 rfl rfl (pc' := 1363) (ls' := lwLS i) (st' := [vi 1]) (σ' := S I L) rfl) ?_
        exact Run_ret f_law1363 (v := some (some (vi 1))) (by decide +kernel)
