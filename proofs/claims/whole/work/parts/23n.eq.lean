/-! the methods' equations, path by path (by wip/whole/gen22run.py) -/
def lv_209 : List (Nat × Nat) := [(0, 1), (1, 1), (2, 3), (3, 3), (6, 3), (7, 7), (8, 7), (9, 7), (12, 7), (15, 7), (16, 7), (19, 7), (20, 7), (21, 7), (22, 7), (25, 5), (26, 5), (29, 5), (30, 5), (31, 5), (34, 7), (35, 5), (36, 7), (39, 7), (42, 2)]
theorem okl_209 : okL lv_209 (cde 209) = true := by decide +kernel
def g209_0_3 : List (Jvm.ClassFile.Instr × Nat) := [(.iconst 3, 1), (.istore 1, 1), (.aload 0, 1)]
theorem k209_0_3 : okB (cde 209) 0 g209_0_3 = true := by decide +kernel
theorem f209_3 : fch (cde 209) 3 = some (.invokestatic 172, 3) := by decide +kernel
def g209_6_1 : List (Jvm.ClassFile.Instr × Nat) := [(.istore 2, 1)]
theorem k209_6_1 : okB (cde 209) 6 g209_6_1 = true := by decide +kernel
def g209_7_2 : List (Jvm.ClassFile.Instr × Nat) := [(.iload 2, 1), (.aload 0, 1)]
theorem k209_7_2 : okB (cde 209) 7 g209_7_2 = true := by decide +kernel
theorem f209_9 : fch (cde 209) 9 = some (.invokestatic 173, 3) := by decide +kernel
theorem f209_12 : fch (cde 209) 12 = some (.if_icmp .ge 42, 3) := by decide +kernel
def g209_42_1 : List (Jvm.ClassFile.Instr × Nat) := [(.iload 1, 1)]
theorem k209_42_1 : okB (cde 209) 42 g209_42_1 = true := by decide +kernel
theorem f209_43 : fch (cde 209) 43 = some (.ireturn, 1) := by decide +kernel
def g209_15_3 : List (Jvm.ClassFile.Instr × Nat) := [(.aload 0, 1), (.getfield 11222, 3), (.iload 2, 1)]
theorem k209_15_3 : okB (cde 209) 15 g209_15_3 = true := by decide +kernel
theorem f209_20 : fch (cde 209) 20 = some (.iaload, 1) := by decide +kernel
def g209_21_1 : List (Jvm.ClassFile.Instr × Nat) := [(.iconst 3, 1)]
theorem k209_21_1 : okB (cde 209) 21 g209_21_1 = true := by decide +kernel
theorem f209_22 : fch (cde 209) 22 = some (.if_icmp .ne 34, 3) := by decide +kernel
def g209_34_3 : List (Jvm.ClassFile.Instr × Nat) := [(.iload 1, 1), (.istore 1, 1), (.iinc 2 1, 3)]
theorem k209_34_3 : okB (cde 209) 34 g209_34_3 = true := by decide +kernel
def g209_39_1 : List (Jvm.ClassFile.Instr × Nat) := [(.goto 7, 3)]
theorem k209_39_1 : okB (cde 209) 39 g209_39_1 = true := by decide +kernel
def g209_25_3 : List (Jvm.ClassFile.Instr × Nat) := [(.aload 0, 1), (.getfield 11232, 3), (.iload 2, 1)]
theorem k209_25_3 : okB (cde 209) 25 g209_25_3 = true := by decide +kernel
theorem f209_30 : fch (cde 209) 30 = some (.iaload, 1) := by decide +kernel
def g209_31_3 : List (Jvm.ClassFile.Instr × Nat) := [(.goto 35, 3), (.istore 1, 1), (.iinc 2 1, 3)]
theorem k209_31_3 : okB (cde 209) 31 g209_31_3 = true := by decide +kernel
noncomputable def y209_7 (F : Cal) (x1 : Int) (x2 : Int) (I L : Fn) : Option Ans := RunX none F 209 7 [vr 92, vi x1, vi x2] [] (S I L)
theorem e209_1 {d : Nat} {I1 L1 : Fn} {v2 : Int} {I L : Fn} (h1 : (CallD d) 172 [vr 92] (S I L) = some (some (vi v2), S I1 L1)) : CallD (d + 1) 209 [vr 92] (S I L) = y209_7 (CallD d) 3 v2 I1 L1 :=
  Eq.trans (Call_eq rfl (ls := [vr 92, vu, vu]) rfl) (Eq.trans (Run_blk (pc' := 3) (ls' := [vr 92, vi 3, vu]) (st' := [vr 92]) (σ' := S I L) k209_0_3 (rfl)) (Eq.trans (p_call f209_3 (as := [vr 92]) (r := []) rfl rfl (rfl) h1) (Eq.trans (Run_blk (pc' := 7) (ls' := [vr 92, vi 3, vi v2]) (st' := []) (σ' := S I1 L1) k209_6_1 (rfl)) (rfl))))
theorem y209_7_1 {F : Cal} {x1 x2 v2 : Int} {I1 L1 : Fn} {I L : Fn} (h1 : F 173 [vr 92] (S I L) = some (some (vi v2), S I1 L1)) (h2 : v2 ≤ x2) : y209_7 F x1 x2 I L = some (some (vi x1), S I1 L1) :=
  Eq.trans (Run_blk (pc' := 9) (ls' := [vr 92, vi x1, vi x2]) (st' := [vr 92, vi x2]) (σ' := S I L) k209_7_2 (rfl)) (Eq.trans (p_call f209_9 (as := [vr 92]) (r := [vi x2]) rfl rfl (rfl) h1) (Eq.trans (p_ic f209_12 (decide_eq_true h2)) (Eq.trans (Run_blk (pc' := 43) (ls' := [vr 92, vi x1, vi x2]) (st' := [vi x1]) (σ' := S I1 L1) k209_42_1 (rfl)) (p_ri f209_43 rfl))))
theorem y209_7_2 {F : Cal} {x1 x2 v2 v3 v4 : Int} {I1 L1 : Fn} {I L : Fn} (h1 : F 173 [vr 92] (S I L) = some (some (vi v2), S I1 L1)) (h2 : x2 < v2) (h3 : 0 ≤ x2 ∧ x2 < 60) (h4 : I1 108 x2.toNat = v3) (h5 : ¬ v3 = 3) (h6 : w32 (x2 + 1) = v4) : y209_7 F x1 x2 I L = y209_7 F x1 v4 I1 L1 :=
  Eq.trans (Run_blk (pc' := 9) (ls' := [vr 92, vi x1, vi x2]) (st' := [vr 92, vi x2]) (σ' := S I L) k209_7_2 (rfl)) (Eq.trans (p_call f209_9 (as := [vr 92]) (r := [vi x2]) rfl rfl (rfl) h1) (Eq.trans (p_icn f209_12 (decide_eq_false (Int.not_le.mpr h2))) (Eq.trans (Run_blk (pc' := 20) (ls' := [vr 92, vi x1, vi x2]) (st' := [vi x2, vr 108]) (σ' := S I1 L1) k209_15_3 (rfl)) (Eq.trans (p_iald f209_20 rfl h3 h4) (Eq.trans (Run_blk (pc' := 22) (ls' := [vr 92, vi x1, vi x2]) (st' := [vi 3, vi v3]) (σ' := S I1 L1) k209_21_1 (rfl)) (Eq.trans (p_ic f209_22 (decide_eq_true h5)) (Eq.trans (Run_blk (pc' := 39) (ls' := [vr 92, vi x1, vi v4]) (st' := []) (σ' := S I1 L1) k209_34_3 (by subst h6; rfl)) (Eq.trans (Run_blk (pc' := 7) (ls' := [vr 92, vi x1, vi v4]) (st' := []) (σ' := S I1 L1) k209_39_1 (rfl)) (rfl)))))))))
theorem y209_7_3 {F : Cal} {x1 x2 v2 v3 v4 v5 : Int} {I1 L1 : Fn} {I L : Fn} (h1 : F 173 [vr 92] (S I L) = some (some (vi v2), S I1 L1)) (h2 : x2 < v2) (h3 : 0 ≤ x2 ∧ x2 < 60) (h4 : I1 108 x2.toNat = v3) (h5 : v3 = 3) (h6 : I1 109 x2.toNat = v4) (h7 : w32 (x2 + 1) = v5) : y209_7 F x1 x2 I L = y209_7 F v4 v5 I1 L1 :=
  Eq.trans (Run_blk (pc' := 9) (ls' := [vr 92, vi x1, vi x2]) (st' := [vr 92, vi x2]) (σ' := S I L) k209_7_2 (rfl)) (Eq.trans (p_call f209_9 (as := [vr 92]) (r := [vi x2]) rfl rfl (rfl) h1) (Eq.trans (p_icn f209_12 (decide_eq_false (Int.not_le.mpr h2))) (Eq.trans (Run_blk (pc' := 20) (ls' := [vr 92, vi x1, vi x2]) (st' := [vi x2, vr 108]) (σ' := S I1 L1) k209_15_3 (rfl)) (Eq.trans (p_iald f209_20 rfl h3 h4) (Eq.trans (Run_blk (pc' := 22) (ls' := [vr 92, vi x1, vi x2]) (st' := [vi 3, vi v3]) (σ' := S I1 L1) k209_21_1 (rfl)) (Eq.trans (p_icn f209_22 (decide_eq_false (not_not_intro h5))) (Eq.trans (Run_blk (pc' := 30) (ls' := [vr 92, vi x1, vi x2]) (st' := [vi x2, vr 109]) (σ' := S I1 L1) k209_25_3 (rfl)) (Eq.trans (p_iald f209_30 rfl h3 h6) (Eq.trans (Run_blk (pc' := 39) (ls' := [vr 92, vi v4, vi v5]) (st' := []) (σ' := S I1 L1) k209_31_3 (by subst h7; rfl)) (Eq.trans (Run_blk (pc' := 7) (ls' := [vr 92, vi v4, vi v5]) (st' := []) (σ' := S I1 L1) k209_39_1 (rfl)) (rfl)))))))))))
def lv_210 : List (Nat × Nat) := [(0, 1), (1, 1), (2, 3), (3, 3), (4, 7), (5, 7), (6, 7), (9, 7), (12, 7), (13, 5), (14, 5), (17, 5), (18, 5), (19, 5), (20, 5), (23, 5), (24, 5), (25, 5), (28, 5), (29, 5), (32, 5), (33, 5), (34, 5), (35, 7), (38, 7), (41, 2)]
theorem okl_210 : okL lv_210 (cde 210) = true := by decide +kernel
def g210_0_4 : List (Jvm.ClassFile.Instr × Nat) := [(.iconst 0, 1), (.istore 1, 1), (.iconst 0, 1), (.istore 2, 1)]
theorem k210_0_4 : okB (cde 210) 0 g210_0_4 = true := by decide +kernel
def g210_4_3 : List (Jvm.ClassFile.Instr × Nat) := [(.iload 2, 1), (.aload 0, 1), (.getfield 11020, 3)]
theorem k210_4_3 : okB (cde 210) 4 g210_4_3 = true := by decide +kernel
theorem f210_9 : fch (cde 210) 9 = some (.if_icmp .ge 41, 3) := by decide +kernel
def g210_41_1 : List (Jvm.ClassFile.Instr × Nat) := [(.iload 1, 1)]
theorem k210_41_1 : okB (cde 210) 41 g210_41_1 = true := by decide +kernel
theorem f210_42 : fch (cde 210) 42 = some (.ireturn, 1) := by decide +kernel
def g210_12_4 : List (Jvm.ClassFile.Instr × Nat) := [(.iload 1, 1), (.aload 0, 1), (.getfield 11062, 3), (.iload 2, 1)]
theorem k210_12_4 : okB (cde 210) 12 g210_12_4 = true := by decide +kernel
theorem f210_18 : fch (cde 210) 18 = some (.iaload, 1) := by decide +kernel
def g210_19_3 : List (Jvm.ClassFile.Instr × Nat) := [(.aload 0, 1), (.getfield 11072, 3), (.iload 2, 1)]
theorem k210_19_3 : okB (cde 210) 19 g210_19_3 = true := by decide +kernel
theorem f210_24 : fch (cde 210) 24 = some (.iaload, 1) := by decide +kernel
theorem f210_25 : fch (cde 210) 25 = some (.if_icmp .ne 32, 3) := by decide +kernel
def g210_32_2 : List (Jvm.ClassFile.Instr × Nat) := [(.iconst 0, 1), (.iadd, 1)]
theorem k210_32_2 : okB (cde 210) 32 g210_32_2 = true := by decide +kernel
def g210_34_2 : List (Jvm.ClassFile.Instr × Nat) := [(.istore 1, 1), (.iinc 2 1, 3)]
theorem k210_34_2 : okB (cde 210) 34 g210_34_2 = true := by decide +kernel
def g210_38_1 : List (Jvm.ClassFile.Instr × Nat) := [(.goto 4, 3)]
theorem k210_38_1 : okB (cde 210) 38 g210_38_1 = true := by decide +kernel
def g210_28_3 : List (Jvm.ClassFile.Instr × Nat) := [(.iconst 1, 1), (.goto 33, 3), (.iadd, 1)]
theorem k210_28_3 : okB (cde 210) 28 g210_28_3 = true := by decide +kernel
noncomputable def y210_4 (F : Cal) (x1 : Int) (x2 : Int) (I L : Fn) : Option Ans := RunX none F 210 4 [vr 92, vi x1, vi x2] [] (S I L)
theorem e210_1 {d : Nat} {I L : Fn} : CallD (d + 1) 210 [vr 92] (S I L) = y210_4 (CallD d) 0 0 I L :=
  Eq.trans (Call_eq rfl (ls := [vr 92, vu, vu]) rfl) (Eq.trans (Run_blk (pc' := 4) (ls' := [vr 92, vi 0, vi 0]) (st' := []) (σ' := S I L) k210_0_4 (rfl)) (rfl))
theorem y210_4_1 {F : Cal} {x1 x2 v1 : Int} {I L : Fn} (h1 : (I 92 2) = v1) (h2 : v1 ≤ x2) : y210_4 F x1 x2 I L = some (some (vi x1), S I L) :=
  Eq.trans (Run_blk (pc' := 9) (ls' := [vr 92, vi x1, vi x2]) (st' := [vi (I 92 2), vi x2]) (σ' := S I L) k210_4_3 (rfl)) (Eq.trans (p_nm h1) (Eq.trans (p_ic f210_9 (decide_eq_true h2)) (Eq.trans (Run_blk (pc' := 42) (ls' := [vr 92, vi x1, vi x2]) (st' := [vi x1]) (σ' := S I L) k210_41_1 (rfl)) (p_ri f210_42 rfl))))
theorem y210_4_2 {F : Cal} {x1 x2 v1 v2 v3 v4 v5 : Int} {I L : Fn} (h1 : (I 92 2) = v1) (h2 : x2 < v1) (h3 : 0 ≤ x2 ∧ x2 < 6) (h4 : I 97 x2.toNat = v2) (h5 : I 98 x2.toNat = v3) (h6 : ¬ v2 = v3) (h7 : (w32 (x1 + 0)) = v4) (h8 : w32 (x2 + 1) = v5) : y210_4 F x1 x2 I L = y210_4 F v4 v5 I L :=
  Eq.trans (Run_blk (pc' := 9) (ls' := [vr 92, vi x1, vi x2]) (st' := [vi (I 92 2), vi x2]) (σ' := S I L) k210_4_3 (rfl)) (Eq.trans (p_nm h1) (Eq.trans (p_icn f210_9 (decide_eq_false (Int.not_le.mpr h2))) (Eq.trans (Run_blk (pc' := 18) (ls' := [vr 92, vi x1, vi x2]) (st' := [vi x2, vr 97, vi x1]) (σ' := S I L) k210_12_4 (rfl)) (Eq.trans (p_iald f210_18 rfl h3 h4) (Eq.trans (Run_blk (pc' := 24) (ls' := [vr 92, vi x1, vi x2]) (st' := [vi x2, vr 98, vi v2, vi x1]) (σ' := S I L) k210_19_3 (rfl)) (Eq.trans (p_iald f210_24 rfl h3 h5) (Eq.trans (p_ic f210_25 (decide_eq_true h6)) (Eq.trans (Run_blk (pc' := 34) (ls' := [vr 92, vi x1, vi x2]) (st' := [vi (w32 (x1 + 0))]) (σ' := S I L) k210_32_2 (rfl)) (Eq.trans (p_nm h7) (Eq.trans (Run_blk (pc' := 38) (ls' := [vr 92, vi v4, vi v5]) (st' := []) (σ' := S I L) k210_34_2 (by subst h8; rfl)) (Eq.trans (Run_blk (pc' := 4) (ls' := [vr 92, vi v4, vi v5]) (st' := []) (σ' := S I L) k210_38_1 (rfl)) (rfl))))))))))))
theorem y210_4_3 {F : Cal} {x1 x2 v1 v2 v3 v4 v5 : Int} {I L : Fn} (h1 : (I 92 2) = v1) (h2 : x2 < v1) (h3 : 0 ≤ x2 ∧ x2 < 6) (h4 : I 97 x2.toNat = v2) (h5 : I 98 x2.toNat = v3) (h6 : v2 = v3) (h7 : (w32 (x1 + 1)) = v4) (h8 : w32 (x2 + 1) = v5) : y210_4 F x1 x2 I L = y210_4 F v4 v5 I L :=
  Eq.trans (Run_blk (pc' := 9) (ls' := [vr 92, vi x1, vi x2]) (st' := [vi (I 92 2), vi x2]) (σ' := S I L) k210_4_3 (rfl)) (Eq.trans (p_nm h1) (Eq.trans (p_icn f210_9 (decide_eq_false (Int.not_le.mpr h2))) (Eq.trans (Run_blk (pc' := 18) (ls' := [vr 92, vi x1, vi x2]) (st' := [vi x2, vr 97, vi x1]) (σ' := S I L) k210_12_4 (rfl)) (Eq.trans (p_iald f210_18 rfl h3 h4) (Eq.trans (Run_blk (pc' := 24) (ls' := [vr 92, vi x1, vi x2]) (st' := [vi x2, vr 98, vi v2, vi x1]) (σ' := S I L) k210_19_3 (rfl)) (Eq.trans (p_iald f210_24 rfl h3 h5) (Eq.trans (p_icn f210_25 (decide_eq_false (not_not_intro h6))) (Eq.trans (Run_blk (pc' := 34) (ls' := [vr 92, vi x1, vi x2]) (st' := [vi (w32 (x1 + 1))]) (σ' := S I L) k210_28_3 (rfl)) (Eq.trans (p_nm h7) (Eq.trans (Run_blk (pc' := 38) (ls' := [vr 92, vi v4, vi v5]) (st' := []) (σ' := S I L) k210_34_2 (by subst h8; rfl)) (Eq.trans (Run_blk (pc' := 4) (ls' := [vr 92, vi v4, vi v5]) (st' := []) (σ' := S I L) k210_38_1 (rfl)) (rfl))))))))))))
def lv_211 : List (Nat × Nat) := [(0, 3), (1, 3), (2, 3), (5, 1), (12, 3), (13, 3), (14, 3), (17, 3), (22, 3), (23, 3), (26, 3), (28, 3), (34, 3), (35, 3), (38, 3), (39, 3), (42, 3), (43, 1), (44, 1), (45, 1), (46, 1), (49, 1), (50, 1), (51, 1), (54, 1)]
theorem okl_211 : okL lv_211 (cde 211) = true := by decide +kernel
def g211_0_2 : List (Jvm.ClassFile.Instr × Nat) := [(.iload 1, 1), (.iconst (-1), 1)]
theorem k211_0_2 : okB (cde 211) 0 g211_0_2 = true := by decide +kernel
theorem f211_2 : fch (cde 211) 2 = some (.if_icmp .ne 12, 3) := by decide +kernel
def g211_12_2 : List (Jvm.ClassFile.Instr × Nat) := [(.aload 0, 1), (.iload 1, 1)]
theorem k211_12_2 : okB (cde 211) 12 g211_12_2 = true := by decide +kernel
theorem f211_14 : fch (cde 211) 14 = some (.invokestatic 142, 3) := by decide +kernel
theorem f211_17 : fch (cde 211) 17 = some (.ifCond .ne 22, 3) := by decide +kernel
def g211_22_2 : List (Jvm.ClassFile.Instr × Nat) := [(.aload 0, 1), (.getfield 11410, 3)]
theorem k211_22_2 : okB (cde 211) 22 g211_22_2 = true := by decide +kernel
def g211_26_1 : List (Jvm.ClassFile.Instr × Nat) := [(.iconst 12, 2)]
theorem k211_26_1 : okB (cde 211) 26 g211_26_1 = true := by decide +kernel
theorem f211_28 : fch (cde 211) 28 = some (.if_icmp .ne 34, 3) := by decide +kernel
def g211_34_4 : List (Jvm.ClassFile.Instr × Nat) := [(.aload 0, 1), (.getfield 11422, 3), (.aload 0, 1), (.getfield 11410, 3)]
theorem k211_34_4 : okB (cde 211) 34 g211_34_4 = true := by decide +kernel
def g211_42_1 : List (Jvm.ClassFile.Instr × Nat) := [(.iload 1, 1)]
theorem k211_42_1 : okB (cde 211) 42 g211_42_1 = true := by decide +kernel
theorem f211_43 : fch (cde 211) 43 = some (.iastore, 1) := by decide +kernel
def g211_44_3 : List (Jvm.ClassFile.Instr × Nat) := [(.aload 0, 1), (.dup, 1), (.getfield 11410, 3)]
theorem k211_44_3 : okB (cde 211) 44 g211_44_3 = true := by decide +kernel
def g211_49_2 : List (Jvm.ClassFile.Instr × Nat) := [(.iconst 1, 1), (.iadd, 1)]
theorem k211_49_2 : okB (cde 211) 49 g211_49_2 = true := by decide +kernel
def g211_51_3 : List (Jvm.ClassFile.Instr × Nat) := [(.putfield 11410, 3), (.aload 0, 1), (.getfield 11410, 3)]
theorem k211_51_3 : okB (cde 211) 51 g211_51_3 = true := by decide +kernel
theorem f211_58 : fch (cde 211) 58 = some (.ireturn, 1) := by decide +kernel
def g211_31_1 : List (Jvm.ClassFile.Instr × Nat) := [(.iconst (-4), 2)]
theorem k211_31_1 : okB (cde 211) 31 g211_31_1 = true := by decide +kernel
theorem f211_33 : fch (cde 211) 33 = some (.ireturn, 1) := by decide +kernel
def g211_20_1 : List (Jvm.ClassFile.Instr × Nat) := [(.iconst (-1), 1)]
theorem k211_20_1 : okB (cde 211) 20 g211_20_1 = true := by decide +kernel
theorem f211_21 : fch (cde 211) 21 = some (.ireturn, 1) := by decide +kernel
def g211_5_4 : List (Jvm.ClassFile.Instr × Nat) := [(.aload 0, 1), (.iconst 0, 1), (.putfield 11410, 3), (.iconst 0, 1)]
theorem k211_5_4 : okB (cde 211) 5 g211_5_4 = true := by decide +kernel
theorem f211_11 : fch (cde 211) 11 = some (.ireturn, 1) := by decide +kernel
theorem e211_1 {d : Nat} {a1 v2 v3 v4 : Int} {I1 L1 : Fn} {I L : Fn} (h1 : ¬ a1 = (-1)) (h2 : (CallD d) 142 [vr 92, vi a1] (S I L) = some (some (vi v2), S I1 L1)) (h3 : ¬ v2 = 0) (h4 : (I1 92 41) = v3) (h5 : ¬ v3 = 12) (h6 : 0 ≤ v3 ∧ v3 < 12) (h7 : (w32 (v3 + 1)) = v4) : CallD (d + 1) 211 [vr 92, vi a1] (S I L) = some (some (vi v4), S (up (up I1 123 v3.toNat a1) 92 41 v4) L1) :=
  Eq.trans (Call_eq rfl (ls := [vr 92, vi a1]) rfl) (Eq.trans (Run_blk (pc' := 2) (ls' := [vr 92, vi a1]) (st' := [vi (-1), vi a1]) (σ' := S I L) k211_0_2 (rfl)) (Eq.trans (p_ic f211_2 (decide_eq_true h1)) (Eq.trans (Run_blk (pc' := 14) (ls' := [vr 92, vi a1]) (st' := [vi a1, vr 92]) (σ' := S I L) k211_12_2 (rfl)) (Eq.trans (p_call f211_14 (as := [vr 92, vi a1]) (r := []) rfl rfl (rfl) h2) (Eq.trans (p_if f211_17 (decide_eq_true h3)) (Eq.trans (Run_blk (pc' := 26) (ls' := [vr 92, vi a1]) (st' := [vi (I1 92 41)]) (σ' := S I1 L1) k211_22_2 (rfl)) (Eq.trans (p_nm h4) (Eq.trans (Run_blk (pc' := 28) (ls' := [vr 92, vi a1]) (st' := [vi 12, vi v3]) (σ' := S I1 L1) k211_26_1 (rfl)) (Eq.trans (p_ic f211_28 (decide_eq_true h5)) (Eq.trans (Run_blk (pc' := 42) (ls' := [vr 92, vi a1]) (st' := [vi (I1 92 41), vr 123]) (σ' := S I1 L1) k211_34_4 (rfl)) (Eq.trans (p_nm h4) (Eq.trans (Run_blk (pc' := 43) (ls' := [vr 92, vi a1]) (st' := [vi a1, vi v3, vr 123]) (σ' := S I1 L1) k211_42_1 (rfl)) (Eq.trans (p_iast f211_43 rfl (by decide) h6) (Eq.trans (Run_blk (pc' := 49) (ls' := [vr 92, vi a1]) (st' := [vi (I1 92 41), vr 92]) (σ' := S (up I1 123 v3.toNat a1) L1) k211_44_3 (rfl)) (Eq.trans (p_nm h4) (Eq.trans (Run_blk (pc' := 51) (ls' := [vr 92, vi a1]) (st' := [vi (w32 (v3 + 1)), vr 92]) (σ' := S (up I1 123 v3.toNat a1) L1) k211_49_2 (rfl)) (Eq.trans (p_nm h7) (Eq.trans (Run_blk (pc' := 58) (ls' := [vr 92, vi a1]) (st' := [vi v4]) (σ' := S (up (up I1 123 v3.toNat a1) 92 41 v4) L1) k211_51_3 (rfl)) (p_ri f211_58 rfl)))))))))))))))))))
theorem e211_2 {d : Nat} {a1 v2 v3 : Int} {I1 L1 : Fn} {I L : Fn} (h1 : ¬ a1 = (-1)) (h2 : (CallD d) 142 [vr 92, vi a1] (S I L) = some (some (vi v2), S I1 L1)) (h3 : ¬ v2 = 0) (h4 : (I1 92 41) = v3) (h5 : v3 = 12) : CallD (d + 1) 211 [vr 92, vi a1] (S I L) = some (some (vi (-4)), S I1 L1) :=
  Eq.trans (Call_eq rfl (ls := [vr 92, vi a1]) rfl) (Eq.trans (Run_blk (pc' := 2) (ls' := [vr 92, vi a1]) (st' := [vi (-1), vi a1]) (σ' := S I L) k211_0_2 (rfl)) (Eq.trans (p_ic f211_2 (decide_eq_true h1)) (Eq.trans (Run_blk (pc' := 14) (ls' := [vr 92, vi a1]) (st' := [vi a1, vr 92]) (σ' := S I L) k211_12_2 (rfl)) (Eq.trans (p_call f211_14 (as := [vr 92, vi a1]) (r := []) rfl rfl (rfl) h2) (Eq.trans (p_if f211_17 (decide_eq_true h3)) (Eq.trans (Run_blk (pc' := 26) (ls' := [vr 92, vi a1]) (st' := [vi (I1 92 41)]) (σ' := S I1 L1) k211_22_2 (rfl)) (Eq.trans (p_nm h4) (Eq.trans (Run_blk (pc' := 28) (ls' := [vr 92, vi a1]) (st' := [vi 12, vi v3]) (σ' := S I1 L1) k211_26_1 (rfl)) (Eq.trans (p_icn f211_28 (decide_eq_false (not_not_intro h5))) (Eq.trans (Run_blk (pc' := 33) (ls' := [vr 92, vi a1]) (st' := [vi (-4)]) (σ' := S I1 L1) k211_31_1 (rfl)) (p_ri f211_33 rfl)))))))))))
theorem e211_3 {d : Nat} {a1 v2 : Int} {I1 L1 : Fn} {I L : Fn} (h1 : ¬ a1 = (-1)) (h2 : (CallD d) 142 [vr 92, vi a1] (S I L) = some (some (vi v2), S I1 L1)) (h3 : v2 = 0) : CallD (d + 1) 211 [vr 92, vi a1] (S I L) = some (some (vi (-1)), S I1 L1) :=
  Eq.trans (Call_eq rfl (ls := [vr 92, vi a1]) rfl) (Eq.trans (Run_blk (pc' := 2) (ls' := [vr 92, vi a1]) (st' := [vi (-1), vi a1]) (σ' := S I L) k211_0_2 (rfl)) (Eq.trans (p_ic f211_2 (decide_eq_true h1)) (Eq.trans (Run_blk (pc' := 14) (ls' := [vr 92, vi a1]) (st' := [vi a1, vr 92]) (σ' := S I L) k211_12_2 (rfl)) (Eq.trans (p_call f211_14 (as := [vr 92, vi a1]) (r := []) rfl rfl (rfl) h2) (Eq.trans (p_ifn f211_17 (decide_eq_false (not_not_intro h3))) (Eq.trans (Run_blk (pc' := 21) (ls' := [vr 92, vi a1]) (st' := [vi (-1)]) (σ' := S I1 L1) k211_20_1 (rfl)) (p_ri f211_21 rfl)))))))
theorem e211_4 {d : Nat} {a1 : Int} {I L : Fn} (h1 : a1 = (-1)) : CallD (d + 1) 211 [vr 92, vi a1] (S I L) = some (some (vi 0), S (up I 92 41 0) L) :=
  Eq.trans (Call_eq rfl (ls := [vr 92, vi a1]) rfl) (Eq.trans (Run_blk (pc' := 2) (ls' := [vr 92, vi a1]) (st' := [vi (-1), vi a1]) (σ' := S I L) k211_0_2 (rfl)) (Eq.trans (p_icn f211_2 (decide_eq_false (not_not_intro h1))) (Eq.trans (Run_blk (pc' := 11) (ls' := [vr 92, vi a1]) (st' := [vi 0]) (σ' := S (up I 92 41 0) L) k211_5_4 (rfl)) (p_ri f211_11 rfl))))
def lv_212 : List (Nat × Nat) := [(0, 3), (1, 3), (2, 3), (5, 3), (10, 3), (11, 3), (12, 3), (15, 3), (16, 3), (17, 3), (20, 3), (21, 3), (24, 3), (25, 3), (26, 3), (27, 7), (28, 7), (29, 15), (30, 15), (31, 15), (34, 15), (37, 15), (38, 15), (41, 15), (42, 15), (45, 15), (46, 15), (47, 15), (48, 11), (51, 11), (52, 11), (55, 11), (56, 11), (59, 15), (60, 15), (61, 15), (64, 15), (65, 15), (66, 15), (69, 15), (70, 15), (73, 15), (74, 15), (75, 15), (76, 11), (79, 11), (80, 11), (83, 11), (84, 11), (87, 15), (88, 15), (91, 15), (92, 15), (93, 15), (94, 15), (95, 15), (96, 15), (99, 15), (102, 15), (103, 15), (106, 15), (107, 15), (108, 15), (109, 15), (110, 11), (111, 11), (114, 11), (117, 11), (118, 11), (121, 11), (122, 11), (124, 27), (126, 11), (129, 8), (131, 11), (132, 11), (135, 11), (136, 11), (137, 11), (138, 15), (141, 15)]
theorem okl_212 : okL lv_212 (cde 212) = true := by decide +kernel
def g212_0_2 : List (Jvm.ClassFile.Instr × Nat) := [(.aload 0, 1), (.iload 1, 1)]
theorem k212_0_2 : okB (cde 212) 0 g212_0_2 = true := by decide +kernel
theorem f212_2 : fch (cde 212) 2 = some (.invokestatic 149, 3) := by decide +kernel
theorem f212_5 : fch (cde 212) 5 = some (.ifCond .ne 10, 3) := by decide +kernel
def g212_10_4 : List (Jvm.ClassFile.Instr × Nat) := [(.aload 0, 1), (.aload 0, 1), (.getfield 11072, 3), (.iload 1, 1)]
theorem k212_10_4 : okB (cde 212) 10 g212_10_4 = true := by decide +kernel
theorem f212_16 : fch (cde 212) 16 = some (.iaload, 1) := by decide +kernel
theorem f212_17 : fch (cde 212) 17 = some (.invokestatic 145, 3) := by decide +kernel
def g212_20_3 : List (Jvm.ClassFile.Instr × Nat) := [(.aload 0, 1), (.getfield 11062, 3), (.iload 1, 1)]
theorem k212_20_3 : okB (cde 212) 20 g212_20_3 = true := by decide +kernel
theorem f212_25 : fch (cde 212) 25 = some (.iaload, 1) := by decide +kernel
def g212_26_3 : List (Jvm.ClassFile.Instr × Nat) := [(.istore 2, 1), (.iconst 0, 1), (.istore 3, 1)]
theorem k212_26_3 : okB (cde 212) 26 g212_26_3 = true := by decide +kernel
def g212_8_1 : List (Jvm.ClassFile.Instr × Nat) := [(.iconst (-1), 1)]
theorem k212_8_1 : okB (cde 212) 8 g212_8_1 = true := by decide +kernel
theorem f212_9 : fch (cde 212) 9 = some (.ireturn, 1) := by decide +kernel
def g212_29_3 : List (Jvm.ClassFile.Instr × Nat) := [(.iload 3, 1), (.aload 0, 1), (.getfield 11410, 3)]
theorem k212_29_3 : okB (cde 212) 29 g212_29_3 = true := by decide +kernel
theorem f212_34 : fch (cde 212) 34 = some (.if_icmp .ge 144, 3) := by decide +kernel
def g212_144_1 : List (Jvm.ClassFile.Instr × Nat) := [(.iconst (-5), 2)]
theorem k212_144_1 : okB (cde 212) 144 g212_144_1 = true := by decide +kernel
theorem f212_146 : fch (cde 212) 146 = some (.ireturn, 1) := by decide +kernel
def g212_37_1 : List (Jvm.ClassFile.Instr × Nat) := [(.iload 3, 1)]
theorem k212_37_1 : okB (cde 212) 37 g212_37_1 = true := by decide +kernel
theorem f212_38 : fch (cde 212) 38 = some (.ifCond .ne 59, 3) := by decide +kernel
def g212_59_4 : List (Jvm.ClassFile.Instr × Nat) := [(.iload 2, 1), (.aload 0, 1), (.getfield 11072, 3), (.iload 1, 1)]
theorem k212_59_4 : okB (cde 212) 59 g212_59_4 = true := by decide +kernel
theorem f212_65 : fch (cde 212) 65 = some (.iaload, 1) := by decide +kernel
theorem f212_66 : fch (cde 212) 66 = some (.if_icmp .ne 87, 3) := by decide +kernel
def g212_87_3 : List (Jvm.ClassFile.Instr × Nat) := [(.aload 0, 1), (.getfield 11422, 3), (.iload 3, 1)]
theorem k212_87_3 : okB (cde 212) 87 g212_87_3 = true := by decide +kernel
theorem f212_92 : fch (cde 212) 92 = some (.iaload, 1) := by decide +kernel
def g212_93_3 : List (Jvm.ClassFile.Instr × Nat) := [(.aload 0, 1), (.iload 2, 1), (.iconst 1, 1)]
theorem k212_93_3 : okB (cde 212) 93 g212_93_3 = true := by decide +kernel
theorem f212_96 : fch (cde 212) 96 = some (.invokestatic 178, 3) := by decide +kernel
theorem f212_99 : fch (cde 212) 99 = some (.if_icmp .eq 117, 3) := by decide +kernel
def g212_117_4 : List (Jvm.ClassFile.Instr × Nat) := [(.iconst 1, 1), (.goto 122, 3), (.istore 4, 2), (.iload 4, 2)]
theorem k212_117_4 : okB (cde 212) 117 g212_117_4 = true := by decide +kernel
theorem f212_126 : fch (cde 212) 126 = some (.ifCond .ne 131, 3) := by decide +kernel
def g212_131_3 : List (Jvm.ClassFile.Instr × Nat) := [(.aload 0, 1), (.getfield 11422, 3), (.iload 3, 1)]
theorem k212_131_3 : okB (cde 212) 131 g212_131_3 = true := by decide +kernel
theorem f212_136 : fch (cde 212) 136 = some (.iaload, 1) := by decide +kernel
def g212_137_2 : List (Jvm.ClassFile.Instr × Nat) := [(.istore 2, 1), (.iinc 3 1, 3)]
theorem k212_137_2 : okB (cde 212) 137 g212_137_2 = true := by decide +kernel
def g212_141_1 : List (Jvm.ClassFile.Instr × Nat) := [(.goto 29, 3)]
theorem k212_141_1 : okB (cde 212) 141 g212_141_1 = true := by decide +kernel
def g212_102_3 : List (Jvm.ClassFile.Instr × Nat) := [(.aload 0, 1), (.getfield 11422, 3), (.iload 3, 1)]
theorem k212_102_3 : okB (cde 212) 102 g212_102_3 = true := by decide +kernel
theorem f212_107 : fch (cde 212) 107 = some (.iaload, 1) := by decide +kernel
def g212_108_3 : List (Jvm.ClassFile.Instr × Nat) := [(.aload 0, 1), (.iload 2, 1), (.iconst 0, 1)]
theorem k212_108_3 : okB (cde 212) 108 g212_108_3 = true := by decide +kernel
theorem f212_111 : fch (cde 212) 111 = some (.invokestatic 178, 3) := by decide +kernel
theorem f212_114 : fch (cde 212) 114 = some (.if_icmp .ne 121, 3) := by decide +kernel
def g212_121_3 : List (Jvm.ClassFile.Instr × Nat) := [(.iconst 0, 1), (.istore 4, 2), (.iload 4, 2)]
theorem k212_121_3 : okB (cde 212) 121 g212_121_3 = true := by decide +kernel
def g212_129_1 : List (Jvm.ClassFile.Instr × Nat) := [(.iload 3, 1)]
theorem k212_129_1 : okB (cde 212) 129 g212_129_1 = true := by decide +kernel
theorem f212_130 : fch (cde 212) 130 = some (.ireturn, 1) := by decide +kernel
def g212_69_3 : List (Jvm.ClassFile.Instr × Nat) := [(.aload 0, 1), (.getfield 11422, 3), (.iload 3, 1)]
theorem k212_69_3 : okB (cde 212) 69 g212_69_3 = true := by decide +kernel
theorem f212_74 : fch (cde 212) 74 = some (.iaload, 1) := by decide +kernel
def g212_75_1 : List (Jvm.ClassFile.Instr × Nat) := [(.iload 2, 1)]
theorem k212_75_1 : okB (cde 212) 75 g212_75_1 = true := by decide +kernel
theorem f212_76 : fch (cde 212) 76 = some (.if_icmp .ne 83, 3) := by decide +kernel
def g212_83_4 : List (Jvm.ClassFile.Instr × Nat) := [(.iconst 0, 1), (.goto 122, 3), (.istore 4, 2), (.iload 4, 2)]
theorem k212_83_4 : okB (cde 212) 83 g212_83_4 = true := by decide +kernel
def g212_79_4 : List (Jvm.ClassFile.Instr × Nat) := [(.iconst 1, 1), (.goto 122, 3), (.istore 4, 2), (.iload 4, 2)]
theorem k212_79_4 : okB (cde 212) 79 g212_79_4 = true := by decide +kernel
def g212_41_3 : List (Jvm.ClassFile.Instr × Nat) := [(.aload 0, 1), (.getfield 11422, 3), (.iconst 0, 1)]
theorem k212_41_3 : okB (cde 212) 41 g212_41_3 = true := by decide +kernel
theorem f212_46 : fch (cde 212) 46 = some (.iaload, 1) := by decide +kernel
def g212_47_1 : List (Jvm.ClassFile.Instr × Nat) := [(.iload 2, 1)]
theorem k212_47_1 : okB (cde 212) 47 g212_47_1 = true := by decide +kernel
theorem f212_48 : fch (cde 212) 48 = some (.if_icmp .ne 55, 3) := by decide +kernel
def g212_55_4 : List (Jvm.ClassFile.Instr × Nat) := [(.iconst 0, 1), (.goto 122, 3), (.istore 4, 2), (.iload 4, 2)]
theorem k212_55_4 : okB (cde 212) 55 g212_55_4 = true := by decide +kernel
def g212_51_4 : List (Jvm.ClassFile.Instr × Nat) := [(.iconst 1, 1), (.goto 122, 3), (.istore 4, 2), (.iload 4, 2)]
theorem k212_51_4 : okB (cde 212) 51 g212_51_4 = true := by decide +kernel
noncomputable def y212_29 (F : Cal) (x1 : Int) (x2 : Int) (x3 : Int) (I L : Fn) : Option Ans := RunX none F 212 29 [vr 92, vi x1, vi x2, vi x3, vu] [] (S I L)
theorem e212_1 {d : Nat} {a1 v2 v3 v5 : Int} {I1 L1 I4 L4 : Fn} {I L : Fn} (h1 : (CallD d) 149 [vr 92, vi a1] (S I L) = some (some (vi v2), S I1 L1)) (h2 : ¬ v2 = 0) (h3 : 0 ≤ a1 ∧ a1 < 6) (h4 : I1 98 a1.toNat = v3) (h5 : (CallD d) 145 [vr 92, vi v3] (S I1 L1) = some (none, S I4 L4)) (h6 : I4 97 a1.toNat = v5) : CallD (d + 1) 212 [vr 92, vi a1] (S I L) = y212_29 (CallD d) a1 v5 0 I4 L4 :=
  Eq.trans (Call_eq rfl (ls := [vr 92, vi a1, vu, vu, vu]) rfl) (Eq.trans (Run_blk (pc' := 2) (ls' := [vr 92, vi a1, vu, vu, vu]) (st' := [vi a1, vr 92]) (σ' := S I L) k212_0_2 (rfl)) (Eq.trans (p_call f212_2 (as := [vr 92, vi a1]) (r := []) rfl rfl (rfl) h1) (Eq.trans (p_if f212_5 (decide_eq_true h2)) (Eq.trans (Run_blk (pc' := 16) (ls' := [vr 92, vi a1, vu, vu, vu]) (st' := [vi a1, vr 98, vr 92]) (σ' := S I1 L1) k212_10_4 (rfl)) (Eq.trans (p_iald f212_16 rfl h3 h4) (Eq.trans (p_call f212_17 (as := [vr 92, vi v3]) (r := []) rfl rfl (rfl) h5) (Eq.trans (Run_blk (pc' := 25) (ls' := [vr 92, vi a1, vu, vu, vu]) (st' := [vi a1, vr 97]) (σ' := S I4 L4) k212_20_3 (rfl)) (Eq.trans (p_iald f212_25 rfl h3 h6) (Eq.trans (Run_blk (pc' := 29) (ls' := [vr 92, vi a1, vi v5, vi 0, vu]) (st' := []) (σ' := S I4 L4) k212_26_3 (rfl)) (rfl))))))))))
theorem e212_2 {d : Nat} {a1 v2 : Int} {I1 L1 : Fn} {I L : Fn} (h1 : (CallD d) 149 [vr 92, vi a1] (S I L) = some (some (vi v2), S I1 L1)) (h2 : v2 = 0) : CallD (d + 1) 212 [vr 92, vi a1] (S I L) = some (some (vi (-1)), S I1 L1) :=
  Eq.trans (Call_eq rfl (ls := [vr 92, vi a1, vu, vu, vu]) rfl) (Eq.trans (Run_blk (pc' := 2) (ls' := [vr 92, vi a1, vu, vu, vu]) (st' := [vi a1, vr 92]) (σ' := S I L) k212_0_2 (rfl)) (Eq.trans (p_call f212_2 (as := [vr 92, vi a1]) (r := []) rfl rfl (rfl) h1) (Eq.trans (p_ifn f212_5 (decide_eq_false (not_not_intro h2))) (Eq.trans (Run_blk (pc' := 9) (ls' := [vr 92, vi a1, vu, vu, vu]) (st' := [vi (-1)]) (σ' := S I1 L1) k212_8_1 (rfl)) (p_ri f212_9 rfl)))))
theorem y212_29_1 {F : Cal} {x1 x2 x3 v1 : Int} {I L : Fn} (h1 : (I 92 41) = v1) (h2 : v1 ≤ x3) : y212_29 F x1 x2 x3 I L = some (some (vi (-5)), S I L) :=
  Eq.trans (Run_blk (pc' := 34) (ls' := [vr 92, vi x1, vi x2, vi x3, vu]) (st' := [vi (I 92 41), vi x3]) (σ' := S I L) k212_29_3 (rfl)) (Eq.trans (p_nm h1) (Eq.trans (p_ic f212_34 (decide_eq_true h2)) (Eq.trans (Run_blk (pc' := 146) (ls' := [vr 92, vi x1, vi x2, vi x3, vu]) (st' := [vi (-5)]) (σ' := S I L) k212_144_1 (rfl)) (p_ri f212_146 rfl))))
theorem y212_29_2 {F : Cal} {x1 x2 x3 v1 v2 v3 v5 v6 v7 : Int} {I4 L4 : Fn} {I L : Fn} (h1 : (I 92 41) = v1) (h2 : x3 < v1) (h3 : ¬ x3 = 0) (h4 : 0 ≤ x1 ∧ x1 < 6) (h5 : I 98 x1.toNat = v2) (h6 : ¬ x2 = v2) (h7 : 0 ≤ x3 ∧ x3 < 12) (h8 : I 123 x3.toNat = v3) (h9 : F 178 [vr 92, vi x2, vi 1] (S I L) = some (some (vi v5), S I4 L4)) (h10 : v3 = v5) (h11 : I4 123 x3.toNat = v6) (h12 : w32 (x3 + 1) = v7) : y212_29 F x1 x2 x3 I L = y212_29 F x1 v6 v7 I4 L4 :=
  Eq.trans (Run_blk (pc' := 34) (ls' := [vr 92, vi x1, vi x2, vi x3, vu]) (st' := [vi (I 92 41), vi x3]) (σ' := S I L) k212_29_3 (rfl)) (Eq.trans (p_nm h1) (Eq.trans (p_icn f212_34 (decide_eq_false (Int.not_le.mpr h2))) (Eq.trans (Run_blk (pc' := 38) (ls' := [vr 92, vi x1, vi x2, vi x3, vu]) (st' := [vi x3]) (σ' := S I L) k212_37_1 (rfl)) (Eq.trans (p_if f212_38 (decide_eq_true h3)) (Eq.trans (Run_blk (pc' := 65) (ls' := [vr 92, vi x1, vi x2, vi x3, vu]) (st' := [vi x1, vr 98, vi x2]) (σ' := S I L) k212_59_4 (rfl)) (Eq.trans (p_iald f212_65 rfl h4 h5) (Eq.trans (p_ic f212_66 (decide_eq_true h6)) (Eq.trans (Run_blk (pc' := 92) (ls' := [vr 92, vi x1, vi x2, vi x3, vu]) (st' := [vi x3, vr 123]) (σ' := S I L) k212_87_3 (rfl)) (Eq.trans (p_iald f212_92 rfl h7 h8) (Eq.trans (Run_blk (pc' := 96) (ls' := [vr 92, vi x1, vi x2, vi x3, vu]) (st' := [vi 1, vi x2, vr 92, vi v3]) (σ' := S I L) k212_93_3 (rfl)) (Eq.trans (p_call f212_96 (as := [vr 92, vi x2, vi 1]) (r := [vi v3]) rfl rfl (rfl) h9) (Eq.trans (p_ic f212_99 (decide_eq_true h10)) (Eq.trans (Run_blk (pc' := 126) (ls' := [vr 92, vi x1, vi x2, vi x3, vi 1]) (st' := [vi 1]) (σ' := S I4 L4) k212_117_4 (rfl)) (Eq.trans (p_if f212_126 rfl) (Eq.trans (Run_blk (pc' := 136) (ls' := [vr 92, vi x1, vi x2, vi x3, vi 1]) (st' := [vi x3, vr 123]) (σ' := S I4 L4) k212_131_3 (rfl)) (Eq.trans (p_iald f212_136 rfl h7 h11) (Eq.trans (Run_blk (pc' := 141) (ls' := [vr 92, vi x1, vi v6, vi v7, vi 1]) (st' := []) (σ' := S I4 L4) k212_137_2 (by subst h12; rfl)) (Eq.trans (Run_blk (pc' := 29) (ls' := [vr 92, vi x1, vi v6, vi v7, vi 1]) (st' := []) (σ' := S I4 L4) k212_141_1 (rfl)) (Eq.trans (Run_clr okl_212 (b := [vr 92, vi x1, vi v6, vi v7, vu]) rfl) (rfl))))))))))))))))))))
theorem y212_29_3 {F : Cal} {x1 x2 x3 v1 v2 v3 v5 v6 v8 : Int} {I4 L4 I7 L7 : Fn} {I L : Fn} (h1 : (I 92 41) = v1) (h2 : x3 < v1) (h3 : ¬ x3 = 0) (h4 : 0 ≤ x1 ∧ x1 < 6) (h5 : I 98 x1.toNat = v2) (h6 : ¬ x2 = v2) (h7 : 0 ≤ x3 ∧ x3 < 12) (h8 : I 123 x3.toNat = v3) (h9 : F 178 [vr 92, vi x2, vi 1] (S I L) = some (some (vi v5), S I4 L4)) (h10 : ¬ v3 = v5) (h11 : I4 123 x3.toNat = v6) (h12 : F 178 [vr 92, vi x2, vi 0] (S I4 L4) = some (some (vi v8), S I7 L7)) (h13 : ¬ v6 = v8) : y212_29 F x1 x2 x3 I L = some (some (vi x3), S I7 L7) :=
  Eq.trans (Run_blk (pc' := 34) (ls' := [vr 92, vi x1, vi x2, vi x3, vu]) (st' := [vi (I 92 41), vi x3]) (σ' := S I L) k212_29_3 (rfl)) (Eq.trans (p_nm h1) (Eq.trans (p_icn f212_34 (decide_eq_false (Int.not_le.mpr h2))) (Eq.trans (Run_blk (pc' := 38) (ls' := [vr 92, vi x1, vi x2, vi x3, vu]) (st' := [vi x3]) (σ' := S I L) k212_37_1 (rfl)) (Eq.trans (p_if f212_38 (decide_eq_true h3)) (Eq.trans (Run_blk (pc' := 65) (ls' := [vr 92, vi x1, vi x2, vi x3, vu]) (st' := [vi x1, vr 98, vi x2]) (σ' := S I L) k212_59_4 (rfl)) (Eq.trans (p_iald f212_65 rfl h4 h5) (Eq.trans (p_ic f212_66 (decide_eq_true h6)) (Eq.trans (Run_blk (pc' := 92) (ls' := [vr 92, vi x1, vi x2, vi x3, vu]) (st' := [vi x3, vr 123]) (σ' := S I L) k212_87_3 (rfl)) (Eq.trans (p_iald f212_92 rfl h7 h8) (Eq.trans (Run_blk (pc' := 96) (ls' := [vr 92, vi x1, vi x2, vi x3, vu]) (st' := [vi 1, vi x2, vr 92, vi v3]) (σ' := S I L) k212_93_3 (rfl)) (Eq.trans (p_call f212_96 (as := [vr 92, vi x2, vi 1]) (r := [vi v3]) rfl rfl (rfl) h9) (Eq.trans (p_icn f212_99 (decide_eq_false h10)) (Eq.trans (Run_blk (pc' := 107) (ls' := [vr 92, vi x1, vi x2, vi x3, vu]) (st' := [vi x3, vr 123]) (σ' := S I4 L4) k212_102_3 (rfl)) (Eq.trans (p_iald f212_107 rfl h7 h11) (Eq.trans (Run_blk (pc' := 111) (ls' := [vr 92, vi x1, vi x2, vi x3, vu]) (st' := [vi 0, vi x2, vr 92, vi v6]) (σ' := S I4 L4) k212_108_3 (rfl)) (Eq.trans (p_call f212_111 (as := [vr 92, vi x2, vi 0]) (r := [vi v6]) rfl rfl (rfl) h12) (Eq.trans (p_ic f212_114 (decide_eq_true h13)) (Eq.trans (Run_blk (pc' := 126) (ls' := [vr 92, vi x1, vi x2, vi x3, vi 0]) (st' := [vi 0]) (σ' := S I7 L7) k212_121_3 (rfl)) (Eq.trans (p_ifn f212_126 rfl) (Eq.trans (Run_blk (pc' := 130) (ls' := [vr 92, vi x1, vi x2, vi x3, vi 0]) (st' := [vi x3]) (σ' := S I7 L7) k212_129_1 (rfl)) (p_ri f212_130 rfl)))))))))))))))))))))
theorem y212_29_4 {F : Cal} {x1 x2 x3 v1 v2 v3 v5 v6 v8 v9 v10 : Int} {I4 L4 I7 L7 : Fn} {I L : Fn} (h1 : (I 92 41) = v1) (h2 : x3 < v1) (h3 : ¬ x3 = 0) (h4 : 0 ≤ x1 ∧ x1 < 6) (h5 : I 98 x1.toNat = v2) (h6 : ¬ x2 = v2) (h7 : 0 ≤ x3 ∧ x3 < 12) (h8 : I 123 x3.toNat = v3) (h9 : F 178 [vr 92, vi x2, vi 1] (S I L) = some (some (vi v5), S I4 L4)) (h10 : ¬ v3 = v5) (h11 : I4 123 x3.toNat = v6) (h12 : F 178 [vr 92, vi x2, vi 0] (S I4 L4) = some (some (vi v8), S I7 L7)) (h13 : v6 = v8) (h14 : I7 123 x3.toNat = v9) (h15 : w32 (x3 + 1) = v10) : y212_29 F x1 x2 x3 I L = y212_29 F x1 v9 v10 I7 L7 :=
  Eq.trans (Run_blk (pc' := 34) (ls' := [vr 92, vi x1, vi x2, vi x3, vu]) (st' := [vi (I 92 41), vi x3]) (σ' := S I L) k212_29_3 (rfl)) (Eq.trans (p_nm h1) (Eq.trans (p_icn f212_34 (decide_eq_false (Int.not_le.mpr h2))) (Eq.trans (Run_blk (pc' := 38) (ls' := [vr 92, vi x1, vi x2, vi x3, vu]) (st' := [vi x3]) (σ' := S I L) k212_37_1 (rfl)) (Eq.trans (p_if f212_38 (decide_eq_true h3)) (Eq.trans (Run_blk (pc' := 65) (ls' := [vr 92, vi x1, vi x2, vi x3, vu]) (st' := [vi x1, vr 98, vi x2]) (σ' := S I L) k212_59_4 (rfl)) (Eq.trans (p_iald f212_65 rfl h4 h5) (Eq.trans (p_ic f212_66 (decide_eq_true h6)) (Eq.trans (Run_blk (pc' := 92) (ls' := [vr 92, vi x1, vi x2, vi x3, vu]) (st' := [vi x3, vr 123]) (σ' := S I L) k212_87_3 (rfl)) (Eq.trans (p_iald f212_92 rfl h7 h8) (Eq.trans (Run_blk (pc' := 96) (ls' := [vr 92, vi x1, vi x2, vi x3, vu]) (st' := [vi 1, vi x2, vr 92, vi v3]) (σ' := S I L) k212_93_3 (rfl)) (Eq.trans (p_call f212_96 (as := [vr 92, vi x2, vi 1]) (r := [vi v3]) rfl rfl (rfl) h9) (Eq.trans (p_icn f212_99 (decide_eq_false h10)) (Eq.trans (Run_blk (pc' := 107) (ls' := [vr 92, vi x1, vi x2, vi x3, vu]) (st' := [vi x3, vr 123]) (σ' := S I4 L4) k212_102_3 (rfl)) (Eq.trans (p_iald f212_107 rfl h7 h11) (Eq.trans (Run_blk (pc' := 111) (ls' := [vr 92, vi x1, vi x2, vi x3, vu]) (st' := [vi 0, vi x2, vr 92, vi v6]) (σ' := S I4 L4) k212_108_3 (rfl)) (Eq.trans (p_call f212_111 (as := [vr 92, vi x2, vi 0]) (r := [vi v6]) rfl rfl (rfl) h12) (Eq.trans (p_icn f212_114 (decide_eq_false (not_not_intro h13))) (Eq.trans (Run_blk (pc' := 126) (ls' := [vr 92, vi x1, vi x2, vi x3, vi 1]) (st' := [vi 1]) (σ' := S I7 L7) k212_117_4 (rfl)) (Eq.trans (p_if f212_126 rfl) (Eq.trans (Run_blk (pc' := 136) (ls' := [vr 92, vi x1, vi x2, vi x3, vi 1]) (st' := [vi x3, vr 123]) (σ' := S I7 L7) k212_131_3 (rfl)) (Eq.trans (p_iald f212_136 rfl h7 h14) (Eq.trans (Run_blk (pc' := 141) (ls' := [vr 92, vi x1, vi v9, vi v10, vi 1]) (st' := []) (σ' := S I7 L7) k212_137_2 (by subst h15; rfl)) (Eq.trans (Run_blk (pc' := 29) (ls' := [vr 92, vi x1, vi v9, vi v10, vi 1]) (st' := []) (σ' := S I7 L7) k212_141_1 (rfl)) (Eq.trans (Run_clr okl_212 (b := [vr 92, vi x1, vi v9, vi v10, vu]) rfl) (rfl)))))))))))))))))))))))))
theorem y212_29_5 {F : Cal} {x1 x2 x3 v1 v2 v3 : Int} {I L : Fn} (h1 : (I 92 41) = v1) (h2 : x3 < v1) (h3 : ¬ x3 = 0) (h4 : 0 ≤ x1 ∧ x1 < 6) (h5 : I 98 x1.toNat = v2) (h6 : x2 = v2) (h7 : 0 ≤ x3 ∧ x3 < 12) (h8 : I 123 x3.toNat = v3) (h9 : ¬ v3 = x2) : y212_29 F x1 x2 x3 I L = some (some (vi x3), S I L) :=
  Eq.trans (Run_blk (pc' := 34) (ls' := [vr 92, vi x1, vi x2, vi x3, vu]) (st' := [vi (I 92 41), vi x3]) (σ' := S I L) k212_29_3 (rfl)) (Eq.trans (p_nm h1) (Eq.trans (p_icn f212_34 (decide_eq_false (Int.not_le.mpr h2))) (Eq.trans (Run_blk (pc' := 38) (ls' := [vr 92, vi x1, vi x2, vi x3, vu]) (st' := [vi x3]) (σ' := S I L) k212_37_1 (rfl)) (Eq.trans (p_if f212_38 (decide_eq_true h3)) (Eq.trans (Run_blk (pc' := 65) (ls' := [vr 92, vi x1, vi x2, vi x3, vu]) (st' := [vi x1, vr 98, vi x2]) (σ' := S I L) k212_59_4 (rfl)) (Eq.trans (p_iald f212_65 rfl h4 h5) (Eq.trans (p_icn f212_66 (decide_eq_false (not_not_intro h6))) (Eq.trans (Run_blk (pc' := 74) (ls' := [vr 92, vi x1, vi x2, vi x3, vu]) (st' := [vi x3, vr 123]) (σ' := S I L) k212_69_3 (rfl)) (Eq.trans (p_iald f212_74 rfl h7 h8) (Eq.trans (Run_blk (pc' := 76) (ls' := [vr 92, vi x1, vi x2, vi x3, vu]) (st' := [vi x2, vi v3]) (σ' := S I L) k212_75_1 (rfl)) (Eq.trans (p_ic f212_76 (decide_eq_true h9)) (Eq.trans (Run_blk (pc' := 126) (ls' := [vr 92, vi x1, vi x2, vi x3, vi 0]) (st' := [vi 0]) (σ' := S I L) k212_83_4 (rfl)) (Eq.trans (p_ifn f212_126 rfl) (Eq.trans (Run_blk (pc' := 130) (ls' := [vr 92, vi x1, vi x2, vi x3, vi 0]) (st' := [vi x3]) (σ' := S I L) k212_129_1 (rfl)) (p_ri f212_130 rfl)))))))))))))))
theorem y212_29_6 {F : Cal} {x1 x2 x3 v1 v2 v3 v4 : Int} {I L : Fn} (h1 : (I 92 41) = v1) (h2 : x3 < v1) (h3 : ¬ x3 = 0) (h4 : 0 ≤ x1 ∧ x1 < 6) (h5 : I 98 x1.toNat = v2) (h6 : x2 = v2) (h7 : 0 ≤ x3 ∧ x3 < 12) (h8 : I 123 x3.toNat = v3) (h9 : v3 = x2) (h10 : w32 (x3 + 1) = v4) : y212_29 F x1 x2 x3 I L = y212_29 F x1 v3 v4 I L :=
  Eq.trans (Run_blk (pc' := 34) (ls' := [vr 92, vi x1, vi x2, vi x3, vu]) (st' := [vi (I 92 41), vi x3]) (σ' := S I L) k212_29_3 (rfl)) (Eq.trans (p_nm h1) (Eq.trans (p_icn f212_34 (decide_eq_false (Int.not_le.mpr h2))) (Eq.trans (Run_blk (pc' := 38) (ls' := [vr 92, vi x1, vi x2, vi x3, vu]) (st' := [vi x3]) (σ' := S I L) k212_37_1 (rfl)) (Eq.trans (p_if f212_38 (decide_eq_true h3)) (Eq.trans (Run_blk (pc' := 65) (ls' := [vr 92, vi x1, vi x2, vi x3, vu]) (st' := [vi x1, vr 98, vi x2]) (σ' := S I L) k212_59_4 (rfl)) (Eq.trans (p_iald f212_65 rfl h4 h5) (Eq.trans (p_icn f212_66 (decide_eq_false (not_not_intro h6))) (Eq.trans (Run_blk (pc' := 74) (ls' := [vr 92, vi x1, vi x2, vi x3, vu]) (st' := [vi x3, vr 123]) (σ' := S I L) k212_69_3 (rfl)) (Eq.trans (p_iald f212_74 rfl h7 h8) (Eq.trans (Run_blk (pc' := 76) (ls' := [vr 92, vi x1, vi x2, vi x3, vu]) (st' := [vi x2, vi v3]) (σ' := S I L) k212_75_1 (rfl)) (Eq.trans (p_icn f212_76 (decide_eq_false (not_not_intro h9))) (Eq.trans (Run_blk (pc' := 126) (ls' := [vr 92, vi x1, vi x2, vi x3, vi 1]) (st' := [vi 1]) (σ' := S I L) k212_79_4 (rfl)) (Eq.trans (p_if f212_126 rfl) (Eq.trans (Run_blk (pc' := 136) (ls' := [vr 92, vi x1, vi x2, vi x3, vi 1]) (st' := [vi x3, vr 123]) (σ' := S I L) k212_131_3 (rfl)) (Eq.trans (p_iald f212_136 rfl h7 h8) (Eq.trans (Run_blk (pc' := 141) (ls' := [vr 92, vi x1, vi v3, vi v4, vi 1]) (st' := []) (σ' := S I L) k212_137_2 (by subst h10; rfl)) (Eq.trans (Run_blk (pc' := 29) (ls' := [vr 92, vi x1, vi v3, vi v4, vi 1]) (st' := []) (σ' := S I L) k212_141_1 (rfl)) (Eq.trans (Run_clr okl_212 (b := [vr 92, vi x1, vi v3, vi v4, vu]) rfl) (rfl)))))))))))))))))))
theorem y212_29_7 {F : Cal} {x1 x2 x3 v1 v2 : Int} {I L : Fn} (h1 : (I 92 41) = v1) (h2 : x3 < v1) (h3 : x3 = 0) (h4 : I 123 0 = v2) (h5 : ¬ v2 = x2) : y212_29 F x1 x2 x3 I L = some (some (vi x3), S I L) :=
  Eq.trans (Run_blk (pc' := 34) (ls' := [vr 92, vi x1, vi x2, vi x3, vu]) (st' := [vi (I 92 41), vi x3]) (σ' := S I L) k212_29_3 (rfl)) (Eq.trans (p_nm h1) (Eq.trans (p_icn f212_34 (decide_eq_false (Int.not_le.mpr h2))) (Eq.trans (Run_blk (pc' := 38) (ls' := [vr 92, vi x1, vi x2, vi x3, vu]) (st' := [vi x3]) (σ' := S I L) k212_37_1 (rfl)) (Eq.trans (p_ifn f212_38 (decide_eq_false (not_not_intro h3))) (Eq.trans (Run_blk (pc' := 46) (ls' := [vr 92, vi x1, vi x2, vi x3, vu]) (st' := [vi 0, vr 123]) (σ' := S I L) k212_41_3 (rfl)) (Eq.trans (p_iald f212_46 rfl (by decide) h4) (Eq.trans (Run_blk (pc' := 48) (ls' := [vr 92, vi x1, vi x2, vi x3, vu]) (st' := [vi x2, vi v2]) (σ' := S I L) k212_47_1 (rfl)) (Eq.trans (p_ic f212_48 (decide_eq_true h5)) (Eq.trans (Run_blk (pc' := 126) (ls' := [vr 92, vi x1, vi x2, vi x3, vi 0]) (st' := [vi 0]) (σ' := S I L) k212_55_4 (rfl)) (Eq.trans (p_ifn f212_126 rfl) (Eq.trans (Run_blk (pc' := 130) (ls' := [vr 92, vi x1, vi x2, vi x3, vi 0]) (st' := [vi x3]) (σ' := S I L) k212_129_1 (rfl)) (p_ri f212_130 rfl))))))))))))
theorem y212_29_8 {F : Cal} {x1 x2 x3 v1 v2 v3 v4 : Int} {I L : Fn} (h1 : (I 92 41) = v1) (h2 : x3 < v1) (h3 : x3 = 0) (h4 : I 123 0 = v2) (h5 : v2 = x2) (h6 : 0 ≤ x3 ∧ x3 < 12) (h7 : I 123 x3.toNat = v3) (h8 : w32 (x3 + 1) = v4) : y212_29 F x1 x2 x3 I L = y212_29 F x1 v3 v4 I L :=
  Eq.trans (Run_blk (pc' := 34) (ls' := [vr 92, vi x1, vi x2, vi x3, vu]) (st' := [vi (I 92 41), vi x3]) (σ' := S I L) k212_29_3 (rfl)) (Eq.trans (p_nm h1) (Eq.trans (p_icn f212_34 (decide_eq_false (Int.not_le.mpr h2))) (Eq.trans (Run_blk (pc' := 38) (ls' := [vr 92, vi x1, vi x2, vi x3, vu]) (st' := [vi x3]) (σ' := S I L) k212_37_1 (rfl)) (Eq.trans (p_ifn f212_38 (decide_eq_false (not_not_intro h3))) (Eq.trans (Run_blk (pc' := 46) (ls' := [vr 92, vi x1, vi x2, vi x3, vu]) (st' := [vi 0, vr 123]) (σ' := S I L) k212_41_3 (rfl)) (Eq.trans (p_iald f212_46 rfl (by decide) h4) (Eq.trans (Run_blk (pc' := 48) (ls' := [vr 92, vi x1, vi x2, vi x3, vu]) (st' := [vi x2, vi v2]) (σ' := S I L) k212_47_1 (rfl)) (Eq.trans (p_icn f212_48 (decide_eq_false (not_not_intro h5))) (Eq.trans (Run_blk (pc' := 126) (ls' := [vr 92, vi x1, vi x2, vi x3, vi 1]) (st' := [vi 1]) (σ' := S I L) k212_51_4 (rfl)) (Eq.trans (p_if f212_126 rfl) (Eq.trans (Run_blk (pc' := 136) (ls' := [vr 92, vi x1, vi x2, vi x3, vi 1]) (st' := [vi x3, vr 123]) (σ' := S I L) k212_131_3 (rfl)) (Eq.trans (p_iald f212_136 rfl h6 h7) (Eq.trans (Run_blk (pc' := 141) (ls' := [vr 92, vi x1, vi v3, vi v4, vi 1]) (st' := []) (σ' := S I L) k212_137_2 (by subst h8; rfl)) (Eq.trans (Run_blk (pc' := 29) (ls' := [vr 92, vi x1, vi v3, vi v4, vi 1]) (st' := []) (σ' := S I L) k212_141_1 (rfl)) (Eq.trans (Run_clr okl_212 (b := [vr 92, vi x1, vi v3, vi v4, vu]) rfl) (rfl))))))))))))))))
def lv_213 : List (Nat × Nat) := [(0, 7), (1, 7), (2, 7), (5, 7), (10, 7), (11, 7), (14, 7), (15, 7), (16, 7), (22, 7), (23, 7), (24, 15), (25, 15), (26, 15), (29, 15), (32, 15), (33, 15), (36, 15), (37, 15), (38, 15), (41, 15), (42, 15), (45, 15), (46, 15), (47, 15), (50, 15), (51, 15), (52, 15), (53, 15), (54, 15), (55, 15), (56, 15), (59, 8), (61, 8), (64, 15), (65, 15), (68, 15), (70, 15), (71, 15), (72, 15), (73, 15), (74, 15), (75, 15), (76, 15), (77, 15), (78, 15), (81, 15), (82, 15), (83, 15), (84, 15), (85, 15), (88, 8), (90, 15), (93, 15)]
theorem okl_213 : okL lv_213 (cde 213) = true := by decide +kernel
def g213_0_2 : List (Jvm.ClassFile.Instr × Nat) := [(.aload 0, 1), (.iload 1, 1)]
theorem k213_0_2 : okB (cde 213) 0 g213_0_2 = true := by decide +kernel
theorem f213_2 : fch (cde 213) 2 = some (.invokestatic 214, 3) := by decide +kernel
theorem f213_5 : fch (cde 213) 5 = some (.ifCond .ne 10, 3) := by decide +kernel
def g213_10_3 : List (Jvm.ClassFile.Instr × Nat) := [(.aload 0, 1), (.getfield 11632, 3), (.iload 1, 1)]
theorem k213_10_3 : okB (cde 213) 10 g213_10_3 = true := by decide +kernel
theorem f213_15 : fch (cde 213) 15 = some (.iaload, 1) := by decide +kernel
theorem f213_16 : fch (cde 213) 16 = some (.ifCond .le 22, 3) := by decide +kernel
def g213_22_2 : List (Jvm.ClassFile.Instr × Nat) := [(.iconst 0, 1), (.istore 3, 1)]
theorem k213_22_2 : okB (cde 213) 22 g213_22_2 = true := by decide +kernel
def g213_19_1 : List (Jvm.ClassFile.Instr × Nat) := [(.iconst (-12), 2)]
theorem k213_19_1 : okB (cde 213) 19 g213_19_1 = true := by decide +kernel
theorem f213_21 : fch (cde 213) 21 = some (.ireturn, 1) := by decide +kernel
def g213_8_1 : List (Jvm.ClassFile.Instr × Nat) := [(.iconst (-1), 1)]
theorem k213_8_1 : okB (cde 213) 8 g213_8_1 = true := by decide +kernel
theorem f213_9 : fch (cde 213) 9 = some (.ireturn, 1) := by decide +kernel
def g213_24_3 : List (Jvm.ClassFile.Instr × Nat) := [(.iload 3, 1), (.aload 0, 1), (.getfield 11020, 3)]
theorem k213_24_3 : okB (cde 213) 24 g213_24_3 = true := by decide +kernel
theorem f213_29 : fch (cde 213) 29 = some (.if_icmp .ge 96, 3) := by decide +kernel
def g213_96_1 : List (Jvm.ClassFile.Instr × Nat) := [(.iconst (-5), 2)]
theorem k213_96_1 : okB (cde 213) 96 g213_96_1 = true := by decide +kernel
theorem f213_98 : fch (cde 213) 98 = some (.ireturn, 1) := by decide +kernel
def g213_32_3 : List (Jvm.ClassFile.Instr × Nat) := [(.aload 0, 1), (.getfield 11632, 3), (.iload 1, 1)]
theorem k213_32_3 : okB (cde 213) 32 g213_32_3 = true := by decide +kernel
theorem f213_37 : fch (cde 213) 37 = some (.iaload, 1) := by decide +kernel
theorem f213_38 : fch (cde 213) 38 = some (.ifCond .lt 59, 3) := by decide +kernel
def g213_59_3 : List (Jvm.ClassFile.Instr × Nat) := [(.iconst 100, 2), (.iload 3, 1), (.iadd, 1)]
theorem k213_59_3 : okB (cde 213) 59 g213_59_3 = true := by decide +kernel
theorem f213_63 : fch (cde 213) 63 = some (.ireturn, 1) := by decide +kernel
def g213_41_1 : List (Jvm.ClassFile.Instr × Nat) := [(.iload 2, 1)]
theorem k213_41_1 : okB (cde 213) 41 g213_41_1 = true := by decide +kernel
theorem f213_42 : fch (cde 213) 42 = some (.ifCond .lt 59, 3) := by decide +kernel
def g213_45_4 : List (Jvm.ClassFile.Instr × Nat) := [(.iload 2, 1), (.aload 0, 1), (.getfield 11642, 3), (.iload 1, 1)]
theorem k213_45_4 : okB (cde 213) 45 g213_45_4 = true := by decide +kernel
theorem f213_51 : fch (cde 213) 51 = some (.iaload, 1) := by decide +kernel
def g213_52_2 : List (Jvm.ClassFile.Instr × Nat) := [(.iload 3, 1), (.isub, 1)]
theorem k213_52_2 : okB (cde 213) 52 g213_52_2 = true := by decide +kernel
def g213_54_2 : List (Jvm.ClassFile.Instr × Nat) := [(.iconst 1, 1), (.isub, 1)]
theorem k213_54_2 : okB (cde 213) 54 g213_54_2 = true := by decide +kernel
theorem f213_56 : fch (cde 213) 56 = some (.if_icmp .le 64, 3) := by decide +kernel
def g213_64_5 : List (Jvm.ClassFile.Instr × Nat) := [(.aload 0, 1), (.getfield 11652, 3), (.iconst 60, 2), (.iload 1, 1), (.imul, 1)]
theorem k213_64_5 : okB (cde 213) 64 g213_64_5 = true := by decide +kernel
def g213_72_2 : List (Jvm.ClassFile.Instr × Nat) := [(.iload 2, 1), (.iadd, 1)]
theorem k213_72_2 : okB (cde 213) 72 g213_72_2 = true := by decide +kernel
def g213_74_2 : List (Jvm.ClassFile.Instr × Nat) := [(.iload 3, 1), (.iadd, 1)]
theorem k213_74_2 : okB (cde 213) 74 g213_74_2 = true := by decide +kernel
theorem f213_76 : fch (cde 213) 76 = some (.laload, 1) := by decide +kernel
def g213_77_3 : List (Jvm.ClassFile.Instr × Nat) := [(.aload 0, 1), (.getfield 11062, 3), (.iload 3, 1)]
theorem k213_77_3 : okB (cde 213) 77 g213_77_3 = true := by decide +kernel
theorem f213_82 : fch (cde 213) 82 = some (.iaload, 1) := by decide +kernel
def g213_83_2 : List (Jvm.ClassFile.Instr × Nat) := [(.i2l, 1), (.lcmp, 1)]
theorem k213_83_2 : okB (cde 213) 83 g213_83_2 = true := by decide +kernel
theorem f213_85 : fch (cde 213) 85 = some (.ifCond .eq 90, 3) := by decide +kernel
def g213_90_1 : List (Jvm.ClassFile.Instr × Nat) := [(.iinc 3 1, 3)]
theorem k213_90_1 : okB (cde 213) 90 g213_90_1 = true := by decide +kernel
def g213_93_1 : List (Jvm.ClassFile.Instr × Nat) := [(.goto 24, 3)]
theorem k213_93_1 : okB (cde 213) 93 g213_93_1 = true := by decide +kernel
def g213_88_1 : List (Jvm.ClassFile.Instr × Nat) := [(.iload 3, 1)]
theorem k213_88_1 : okB (cde 213) 88 g213_88_1 = true := by decide +kernel
theorem f213_89 : fch (cde 213) 89 = some (.ireturn, 1) := by decide +kernel
noncomputable def y213_24 (F : Cal) (x1 : Int) (x2 : Int) (x3 : Int) (I L : Fn) : Option Ans := RunX none F 213 24 [vr 92, vi x1, vi x2, vi x3] [] (S I L)
theorem e213_1 {d : Nat} {a1 a2 v2 v3 : Int} {I1 L1 : Fn} {I L : Fn} (h1 : (CallD d) 214 [vr 92, vi a1] (S I L) = some (some (vi v2), S I1 L1)) (h2 : ¬ v2 = 0) (h3 : 0 ≤ a1 ∧ a1 < 6) (h4 : I1 138 a1.toNat = v3) (h5 : v3 ≤ 0) : CallD (d + 1) 213 [vr 92, vi a1, vi a2] (S I L) = y213_24 (CallD d) a1 a2 0 I1 L1 :=
  Eq.trans (Call_eq rfl (ls := [vr 92, vi a1, vi a2, vu]) rfl) (Eq.trans (Run_blk (pc' := 2) (ls' := [vr 92, vi a1, vi a2, vu]) (st' := [vi a1, vr 92]) (σ' := S I L) k213_0_2 (rfl)) (Eq.trans (p_call f213_2 (as := [vr 92, vi a1]) (r := []) rfl rfl (rfl) h1) (Eq.trans (p_if f213_5 (decide_eq_true h2)) (Eq.trans (Run_blk (pc' := 15) (ls' := [vr 92, vi a1, vi a2, vu]) (st' := [vi a1, vr 138]) (σ' := S I1 L1) k213_10_3 (rfl)) (Eq.trans (p_iald f213_15 rfl h3 h4) (Eq.trans (p_if f213_16 (decide_eq_true h5)) (Eq.trans (Run_blk (pc' := 24) (ls' := [vr 92, vi a1, vi a2, vi 0]) (st' := []) (σ' := S I1 L1) k213_22_2 (rfl)) (rfl))))))))
theorem e213_2 {d : Nat} {a1 a2 v2 v3 : Int} {I1 L1 : Fn} {I L : Fn} (h1 : (CallD d) 214 [vr 92, vi a1] (S I L) = some (some (vi v2), S I1 L1)) (h2 : ¬ v2 = 0) (h3 : 0 ≤ a1 ∧ a1 < 6) (h4 : I1 138 a1.toNat = v3) (h5 : 0 < v3) : CallD (d + 1) 213 [vr 92, vi a1, vi a2] (S I L) = some (some (vi (-12)), S I1 L1) :=
  Eq.trans (Call_eq rfl (ls := [vr 92, vi a1, vi a2, vu]) rfl) (Eq.trans (Run_blk (pc' := 2) (ls' := [vr 92, vi a1, vi a2, vu]) (st' := [vi a1, vr 92]) (σ' := S I L) k213_0_2 (rfl)) (Eq.trans (p_call f213_2 (as := [vr 92, vi a1]) (r := []) rfl rfl (rfl) h1) (Eq.trans (p_if f213_5 (decide_eq_true h2)) (Eq.trans (Run_blk (pc' := 15) (ls' := [vr 92, vi a1, vi a2, vu]) (st' := [vi a1, vr 138]) (σ' := S I1 L1) k213_10_3 (rfl)) (Eq.trans (p_iald f213_15 rfl h3 h4) (Eq.trans (p_ifn f213_16 (decide_eq_false (Int.not_le.mpr h5))) (Eq.trans (Run_blk (pc' := 21) (ls' := [vr 92, vi a1, vi a2, vu]) (st' := [vi (-12)]) (σ' := S I1 L1) k213_19_1 (rfl)) (p_ri f213_21 rfl))))))))
theorem e213_3 {d : Nat} {a1 a2 v2 : Int} {I1 L1 : Fn} {I L : Fn} (h1 : (CallD d) 214 [vr 92, vi a1] (S I L) = some (some (vi v2), S I1 L1)) (h2 : v2 = 0) : CallD (d + 1) 213 [vr 92, vi a1, vi a2] (S I L) = some (some (vi (-1)), S I1 L1) :=
  Eq.trans (Call_eq rfl (ls := [vr 92, vi a1, vi a2, vu]) rfl) (Eq.trans (Run_blk (pc' := 2) (ls' := [vr 92, vi a1, vi a2, vu]) (st' := [vi a1, vr 92]) (σ' := S I L) k213_0_2 (rfl)) (Eq.trans (p_call f213_2 (as := [vr 92, vi a1]) (r := []) rfl rfl (rfl) h1) (Eq.trans (p_ifn f213_5 (decide_eq_false (not_not_intro h2))) (Eq.trans (Run_blk (pc' := 9) (ls' := [vr 92, vi a1, vi a2, vu]) (st' := [vi (-1)]) (σ' := S I1 L1) k213_8_1 (rfl)) (p_ri f213_9 rfl)))))
theorem y213_24_1 {F : Cal} {x1 x2 x3 v1 : Int} {I L : Fn} (h1 : (I 92 2) = v1) (h2 : v1 ≤ x3) : y213_24 F x1 x2 x3 I L = some (some (vi (-5)), S I L) :=
  Eq.trans (Run_blk (pc' := 29) (ls' := [vr 92, vi x1, vi x2, vi x3]) (st' := [vi (I 92 2), vi x3]) (σ' := S I L) k213_24_3 (rfl)) (Eq.trans (p_nm h1) (Eq.trans (p_ic f213_29 (decide_eq_true h2)) (Eq.trans (Run_blk (pc' := 98) (ls' := [vr 92, vi x1, vi x2, vi x3]) (st' := [vi (-5)]) (σ' := S I L) k213_96_1 (rfl)) (p_ri f213_98 rfl))))
theorem y213_24_2 {F : Cal} {x1 x2 x3 v1 v2 v3 : Int} {I L : Fn} (h1 : (I 92 2) = v1) (h2 : x3 < v1) (h3 : 0 ≤ x1 ∧ x1 < 6) (h4 : I 138 x1.toNat = v2) (h5 : v2 < 0) (h6 : (w32 (100 + x3)) = v3) : y213_24 F x1 x2 x3 I L = some (some (vi v3), S I L) :=
  Eq.trans (Run_blk (pc' := 29) (ls' := [vr 92, vi x1, vi x2, vi x3]) (st' := [vi (I 92 2), vi x3]) (σ' := S I L) k213_24_3 (rfl)) (Eq.trans (p_nm h1) (Eq.trans (p_icn f213_29 (decide_eq_false (Int.not_le.mpr h2))) (Eq.trans (Run_blk (pc' := 37) (ls' := [vr 92, vi x1, vi x2, vi x3]) (st' := [vi x1, vr 138]) (σ' := S I L) k213_32_3 (rfl)) (Eq.trans (p_iald f213_37 rfl h3 h4) (Eq.trans (p_if f213_38 (decide_eq_true h5)) (Eq.trans (Run_blk (pc' := 63) (ls' := [vr 92, vi x1, vi x2, vi x3]) (st' := [vi (w32 (100 + x3))]) (σ' := S I L) k213_59_3 (rfl)) (Eq.trans (p_nm h6) (p_ri f213_63 rfl))))))))
theorem y213_24_3 {F : Cal} {x1 x2 x3 v1 v2 v3 : Int} {I L : Fn} (h1 : (I 92 2) = v1) (h2 : x3 < v1) (h3 : 0 ≤ x1 ∧ x1 < 6) (h4 : I 138 x1.toNat = v2) (h5 : 0 ≤ v2) (h6 : x2 < 0) (h7 : (w32 (100 + x3)) = v3) : y213_24 F x1 x2 x3 I L = some (some (vi v3), S I L) :=
  Eq.trans (Run_blk (pc' := 29) (ls' := [vr 92, vi x1, vi x2, vi x3]) (st' := [vi (I 92 2), vi x3]) (σ' := S I L) k213_24_3 (rfl)) (Eq.trans (p_nm h1) (Eq.trans (p_icn f213_29 (decide_eq_false (Int.not_le.mpr h2))) (Eq.trans (Run_blk (pc' := 37) (ls' := [vr 92, vi x1, vi x2, vi x3]) (st' := [vi x1, vr 138]) (σ' := S I L) k213_32_3 (rfl)) (Eq.trans (p_iald f213_37 rfl h3 h4) (Eq.trans (p_ifn f213_38 (decide_eq_false (Int.not_lt.mpr h5))) (Eq.trans (Run_blk (pc' := 42) (ls' := [vr 92, vi x1, vi x2, vi x3]) (st' := [vi x2]) (σ' := S I L) k213_41_1 (rfl)) (Eq.trans (p_if f213_42 (decide_eq_true h6)) (Eq.trans (Run_blk (pc' := 63) (ls' := [vr 92, vi x1, vi x2, vi x3]) (st' := [vi (w32 (100 + x3))]) (σ' := S I L) k213_59_3 (rfl)) (Eq.trans (p_nm h7) (p_ri f213_63 rfl))))))))))
theorem y213_24_4 {F : Cal} {x1 x2 x3 v1 v2 v3 v4 v5 v6 v7 v8 v9 v10 v11 : Int} {I L : Fn} (h1 : (I 92 2) = v1) (h2 : x3 < v1) (h3 : 0 ≤ x1 ∧ x1 < 6) (h4 : I 138 x1.toNat = v2) (h5 : 0 ≤ v2) (h6 : 0 ≤ x2) (h7 : I 139 x1.toNat = v3) (h8 : (w32 (v3 - x3)) = v4) (h9 : (w32 (v4 - 1)) = v5) (h10 : x2 ≤ v5) (h11 : (w32 (60 * x1)) = v6) (h12 : (w32 (v6 + x2)) = v7) (h13 : (w32 (v7 + x3)) = v8) (h14 : 0 ≤ v8 ∧ v8 < 360) (h15 : L 140 v8.toNat = v9) (h16 : 0 ≤ x3 ∧ x3 < 6) (h17 : I 97 x3.toNat = v10) (h18 : v9 = v10) (h19 : w32 (x3 + 1) = v11) : y213_24 F x1 x2 x3 I L = y213_24 F x1 x2 v11 I L :=
  Eq.trans (Run_blk (pc' := 29) (ls' := [vr 92, vi x1, vi x2, vi x3]) (st' := [vi (I 92 2), vi x3]) (σ' := S I L) k213_24_3 (rfl)) (Eq.trans (p_nm h1) (Eq.trans (p_icn f213_29 (decide_eq_false (Int.not_le.mpr h2))) (Eq.trans (Run_blk (pc' := 37) (ls' := [vr 92, vi x1, vi x2, vi x3]) (st' := [vi x1, vr 138]) (σ' := S I L) k213_32_3 (rfl)) (Eq.trans (p_iald f213_37 rfl h3 h4) (Eq.trans (p_ifn f213_38 (decide_eq_false (Int.not_lt.mpr h5))) (Eq.trans (Run_blk (pc' := 42) (ls' := [vr 92, vi x1, vi x2, vi x3]) (st' := [vi x2]) (σ' := S I L) k213_41_1 (rfl)) (Eq.trans (p_ifn f213_42 (decide_eq_false (Int.not_lt.mpr h6))) (Eq.trans (Run_blk (pc' := 51) (ls' := [vr 92, vi x1, vi x2, vi x3]) (st' := [vi x1, vr 139, vi x2]) (σ' := S I L) k213_45_4 (rfl)) (Eq.trans (p_iald f213_51 rfl h3 h7) (Eq.trans (Run_blk (pc' := 54) (ls' := [vr 92, vi x1, vi x2, vi x3]) (st' := [vi (w32 (v3 - x3)), vi x2]) (σ' := S I L) k213_52_2 (rfl)) (Eq.trans (p_nm h8) (Eq.trans (Run_blk (pc' := 56) (ls' := [vr 92, vi x1, vi x2, vi x3]) (st' := [vi (w32 (v4 - 1)), vi x2]) (σ' := S I L) k213_54_2 (rfl)) (Eq.trans (p_nm h9) (Eq.trans (p_ic f213_56 (decide_eq_true h10)) (Eq.trans (Run_blk (pc' := 72) (ls' := [vr 92, vi x1, vi x2, vi x3]) (st' := [vi (w32 (60 * x1)), vr 140]) (σ' := S I L) k213_64_5 (rfl)) (Eq.trans (p_nm h11) (Eq.trans (Run_blk (pc' := 74) (ls' := [vr 92, vi x1, vi x2, vi x3]) (st' := [vi (w32 (v6 + x2)), vr 140]) (σ' := S I L) k213_72_2 (rfl)) (Eq.trans (p_nm h12) (Eq.trans (Run_blk (pc' := 76) (ls' := [vr 92, vi x1, vi x2, vi x3]) (st' := [vi (w32 (v7 + x3)), vr 140]) (σ' := S I L) k213_74_2 (rfl)) (Eq.trans (p_nm h13) (Eq.trans (p_lald f213_76 rfl h14 h15) (Eq.trans (Run_blk (pc' := 82) (ls' := [vr 92, vi x1, vi x2, vi x3]) (st' := [vi x3, vr 97, vl v9]) (σ' := S I L) k213_77_3 (rfl)) (Eq.trans (p_iald f213_82 rfl h16 h17) (Eq.trans (Run_blk (pc' := 85) (ls' := [vr 92, vi x1, vi x2, vi x3]) (st' := [vi (if v9 < v10 then -1 else if v9 = v10 then 0 else 1)]) (σ' := S I L) k213_83_2 (rfl)) (Eq.trans (p_if f213_85 (cnd_lc _ _ _ (decide_eq_true h18))) (Eq.trans (Run_blk (pc' := 93) (ls' := [vr 92, vi x1, vi x2, vi v11]) (st' := []) (σ' := S I L) k213_90_1 (by subst h19; rfl)) (Eq.trans (Run_blk (pc' := 24) (ls' := [vr 92, vi x1, vi x2, vi v11]) (st' := []) (σ' := S I L) k213_93_1 (rfl)) (rfl))))))))))))))))))))))))))))
theorem y213_24_5 {F : Cal} {x1 x2 x3 v1 v2 v3 v4 v5 v6 v7 v8 v9 v10 : Int} {I L : Fn} (h1 : (I 92 2) = v1) (h2 : x3 < v1) (h3 : 0 ≤ x1 ∧ x1 < 6) (h4 : I 138 x1.toNat = v2) (h5 : 0 ≤ v2) (h6 : 0 ≤ x2) (h7 : I 139 x1.toNat = v3) (h8 : (w32 (v3 - x3)) = v4) (h9 : (w32 (v4 - 1)) = v5) (h10 : x2 ≤ v5) (h11 : (w32 (60 * x1)) = v6) (h12 : (w32 (v6 + x2)) = v7) (h13 : (w32 (v7 + x3)) = v8) (h14 : 0 ≤ v8 ∧ v8 < 360) (h15 : L 140 v8.toNat = v9) (h16 : 0 ≤ x3 ∧ x3 < 6) (h17 : I 97 x3.toNat = v10) (h18 : ¬ v9 = v10) : y213_24 F x1 x2 x3 I L = some (some (vi x3), S I L) :=
  Eq.trans (Run_blk (pc' := 29) (ls' := [vr 92, vi x1, vi x2, vi x3]) (st' := [vi (I 92 2), vi x3]) (σ' := S I L) k213_24_3 (rfl)) (Eq.trans (p_nm h1) (Eq.trans (p_icn f213_29 (decide_eq_false (Int.not_le.mpr h2))) (Eq.trans (Run_blk (pc' := 37) (ls' := [vr 92, vi x1, vi x2, vi x3]) (st' := [vi x1, vr 138]) (σ' := S I L) k213_32_3 (rfl)) (Eq.trans (p_iald f213_37 rfl h3 h4) (Eq.trans (p_ifn f213_38 (decide_eq_false (Int.not_lt.mpr h5))) (Eq.trans (Run_blk (pc' := 42) (ls' := [vr 92, vi x1, vi x2, vi x3]) (st' := [vi x2]) (σ' := S I L) k213_41_1 (rfl)) (Eq.trans (p_ifn f213_42 (decide_eq_false (Int.not_lt.mpr h6))) (Eq.trans (Run_blk (pc' := 51) (ls' := [vr 92, vi x1, vi x2, vi x3]) (st' := [vi x1, vr 139, vi x2]) (σ' := S I L) k213_45_4 (rfl)) (Eq.trans (p_iald f213_51 rfl h3 h7) (Eq.trans (Run_blk (pc' := 54) (ls' := [vr 92, vi x1, vi x2, vi x3]) (st' := [vi (w32 (v3 - x3)), vi x2]) (σ' := S I L) k213_52_2 (rfl)) (Eq.trans (p_nm h8) (Eq.trans (Run_blk (pc' := 56) (ls' := [vr 92, vi x1, vi x2, vi x3]) (st' := [vi (w32 (v4 - 1)), vi x2]) (σ' := S I L) k213_54_2 (rfl)) (Eq.trans (p_nm h9) (Eq.trans (p_ic f213_56 (decide_eq_true h10)) (Eq.trans (Run_blk (pc' := 72) (ls' := [vr 92, vi x1, vi x2, vi x3]) (st' := [vi (w32 (60 * x1)), vr 140]) (σ' := S I L) k213_64_5 (rfl)) (Eq.trans (p_nm h11) (Eq.trans (Run_blk (pc' := 74) (ls' := [vr 92, vi x1, vi x2, vi x3]) (st' := [vi (w32 (v6 + x2)), vr 140]) (σ' := S I L) k213_72_2 (rfl)) (Eq.trans (p_nm h12) (Eq.trans (Run_blk (pc' := 76) (ls' := [vr 92, vi x1, vi x2, vi x3]) (st' := [vi (w32 (v7 + x3)), vr 140]) (σ' := S I L) k213_74_2 (rfl)) (Eq.trans (p_nm h13) (Eq.trans (p_lald f213_76 rfl h14 h15) (Eq.trans (Run_blk (pc' := 82) (ls' := [vr 92, vi x1, vi x2, vi x3]) (st' := [vi x3, vr 97, vl v9]) (σ' := S I L) k213_77_3 (rfl)) (Eq.trans (p_iald f213_82 rfl h16 h17) (Eq.trans (Run_blk (pc' := 85) (ls' := [vr 92, vi x1, vi x2, vi x3]) (st' := [vi (if v9 < v10 then -1 else if v9 = v10 then 0 else 1)]) (σ' := S I L) k213_83_2 (rfl)) (Eq.trans (p_ifn f213_85 (cnd_lc _ _ _ (decide_eq_false h18))) (Eq.trans (Run_blk (pc' := 89) (ls' := [vr 92, vi x1, vi x2, vi x3]) (st' := [vi x3]) (σ' := S I L) k213_88_1 (rfl)) (p_ri f213_89 rfl)))))))))))))))))))))))))))
theorem y213_24_6 {F : Cal} {x1 x2 x3 v1 v2 v3 v4 v5 v6 : Int} {I L : Fn} (h1 : (I 92 2) = v1) (h2 : x3 < v1) (h3 : 0 ≤ x1 ∧ x1 < 6) (h4 : I 138 x1.toNat = v2) (h5 : 0 ≤ v2) (h6 : 0 ≤ x2) (h7 : I 139 x1.toNat = v3) (h8 : (w32 (v3 - x3)) = v4) (h9 : (w32 (v4 - 1)) = v5) (h10 : v5 < x2) (h11 : (w32 (100 + x3)) = v6) : y213_24 F x1 x2 x3 I L = some (some (vi v6), S I L) :=
  Eq.trans (Run_blk (pc' := 29) (ls' := [vr 92, vi x1, vi x2, vi x3]) (st' := [vi (I 92 2), vi x3]) (σ' := S I L) k213_24_3 (rfl)) (Eq.trans (p_nm h1) (Eq.trans (p_icn f213_29 (decide_eq_false (Int.not_le.mpr h2))) (Eq.trans (Run_blk (pc' := 37) (ls' := [vr 92, vi x1, vi x2, vi x3]) (st' := [vi x1, vr 138]) (σ' := S I L) k213_32_3 (rfl)) (Eq.trans (p_iald f213_37 rfl h3 h4) (Eq.trans (p_ifn f213_38 (decide_eq_false (Int.not_lt.mpr h5))) (Eq.trans (Run_blk (pc' := 42) (ls' := [vr 92, vi x1, vi x2, vi x3]) (st' := [vi x2]) (σ' := S I L) k213_41_1 (rfl)) (Eq.trans (p_ifn f213_42 (decide_eq_false (Int.not_lt.mpr h6))) (Eq.trans (Run_blk (pc' := 51) (ls' := [vr 92, vi x1, vi x2, vi x3]) (st' := [vi x1, vr 139, vi x2]) (σ' := S I L) k213_45_4 (rfl)) (Eq.trans (p_iald f213_51 rfl h3 h7) (Eq.trans (Run_blk (pc' := 54) (ls' := [vr 92, vi x1, vi x2, vi x3]) (st' := [vi (w32 (v3 - x3)), vi x2]) (σ' := S I L) k213_52_2 (rfl)) (Eq.trans (p_nm h8) (Eq.trans (Run_blk (pc' := 56) (ls' := [vr 92, vi x1, vi x2, vi x3]) (st' := [vi (w32 (v4 - 1)), vi x2]) (σ' := S I L) k213_54_2 (rfl)) (Eq.trans (p_nm h9) (Eq.trans (p_icn f213_56 (decide_eq_false (Int.not_le.mpr h10))) (Eq.trans (Run_blk (pc' := 63) (ls' := [vr 92, vi x1, vi x2, vi x3]) (st' := [vi (w32 (100 + x3))]) (σ' := S I L) k213_59_3 (rfl)) (Eq.trans (p_nm h11) (p_ri f213_63 rfl)))))))))))))))))
def lv_214 : List (Nat × Nat) := [(0, 3), (1, 2)]
theorem okl_214 : okL lv_214 (cde 214) = true := by decide +kernel
def g214_0_4 : List (Jvm.ClassFile.Instr × Nat) := [(.aload 0, 1), (.iload 1, 1), (.iconst 0, 1), (.iconst 5, 1)]
theorem k214_0_4 : okB (cde 214) 0 g214_0_4 = true := by decide +kernel
theorem f214_4 : fch (cde 214) 4 = some (.invokestatic 143, 3) := by decide +kernel
theorem f214_7 : fch (cde 214) 7 = some (.ireturn, 1) := by decide +kernel
theorem e214_1 {d : Nat} {a1 v2 : Int} {I1 L1 : Fn} {I L : Fn} (h1 : (CallD d) 143 [vr 92, vi a1, vi 0, vi 5] (S I L) = some (some (vi v2), S I1 L1)) (h2 : rok 1 v2 = true) : CallD (d + 1) 214 [vr 92, vi a1] (S I L) = some (some (vi v2), S I1 L1) :=
  Eq.trans (Call_eq rfl (ls := [vr 92, vi a1]) rfl) (Eq.trans (Run_blk (pc' := 4) (ls' := [vr 92, vi a1]) (st' := [vi 5, vi 0, vi a1, vr 92]) (σ' := S I L) k214_0_4 (rfl)) (Eq.trans (p_call f214_4 (as := [vr 92, vi a1, vi 0, vi 5]) (r := []) rfl rfl (rfl) h1) (p_ri f214_7 h2)))
def lv_215 : List (Nat × Nat) := [(0, 1), (1, 1), (2, 1), (5, 1), (6, 1), (7, 1), (10, 1), (13, 1), (14, 1), (15, 1), (18, 1), (21, 1), (22, 1), (23, 1), (26, 1), (29, 1), (30, 1), (31, 1), (34, 1), (37, 1), (38, 1), (39, 3), (40, 3), (42, 3), (45, 3), (46, 3), (49, 3), (50, 3), (51, 3), (54, 3), (55, 3), (56, 3), (57, 3), (58, 3), (61, 3), (62, 3), (63, 3), (66, 3), (67, 3), (68, 3), (69, 3), (72, 3), (75, 1), (76, 1), (77, 3), (78, 3), (80, 3), (83, 3), (84, 3), (87, 3), (88, 3), (89, 3), (92, 3), (93, 3), (94, 3), (95, 3), (96, 3), (99, 3), (100, 3), (101, 3), (104, 3), (105, 3), (106, 3), (107, 3), (108, 3), (111, 3), (112, 3), (113, 3), (116, 3), (117, 3), (118, 3), (119, 3), (120, 3), (123, 3), (124, 3), (125, 3), (128, 3), (129, 3), (130, 3), (131, 3), (132, 3), (135, 3), (136, 3), (137, 3), (140, 3), (141, 3), (142, 3), (143, 3), (144, 3), (147, 3), (148, 3), (149, 3), (152, 3), (153, 3), (154, 3), (155, 3), (156, 3), (159, 3), (160, 3), (161, 3), (164, 3), (165, 3), (166, 3), (167, 3), (168, 3), (171, 3), (172, 3), (173, 3), (176, 3), (177, 3), (178, 3), (179, 3), (180, 3), (183, 3), (184, 3), (185, 3), (188, 3), (189, 3), (190, 3), (191, 3), (192, 3), (195, 3), (196, 3), (197, 3), (200, 3), (201, 3), (202, 3), (203, 3), (206, 3), (209, 1), (210, 1), (211, 3), (212, 3), (214, 3), (217, 3), (218, 3), (221, 3), (222, 3), (223, 3), (226, 3), (227, 3), (228, 3), (229, 3), (232, 3), (235, 1)]
theorem okl_215 : okL lv_215 (cde 215) = true := by decide +kernel
def g215_0_6 : List (Jvm.ClassFile.Instr × Nat) := [(.aload 0, 1), (.iconst 1, 1), (.putfield 11433, 3), (.aload 0, 1), (.aload 0, 1), (.getfield 11160, 3)]
theorem k215_0_6 : okB (cde 215) 0 g215_0_6 = true := by decide +kernel
def g215_10_4 : List (Jvm.ClassFile.Instr × Nat) := [(.putfield 11440, 3), (.aload 0, 1), (.aload 0, 1), (.getfield 11020, 3)]
theorem k215_10_4 : okB (cde 215) 10 g215_10_4 = true := by decide +kernel
def g215_18_4 : List (Jvm.ClassFile.Instr × Nat) := [(.putfield 11450, 3), (.aload 0, 1), (.aload 0, 1), (.getfield 11030, 3)]
theorem k215_18_4 : okB (cde 215) 18 g215_18_4 = true := by decide +kernel
def g215_26_4 : List (Jvm.ClassFile.Instr × Nat) := [(.putfield 11460, 3), (.aload 0, 1), (.aload 0, 1), (.getfield 11410, 3)]
theorem k215_26_4 : okB (cde 215) 26 g215_26_4 = true := by decide +kernel
def g215_34_3 : List (Jvm.ClassFile.Instr × Nat) := [(.putfield 11470, 3), (.iconst 0, 1), (.istore 1, 1)]
theorem k215_34_3 : okB (cde 215) 34 g215_34_3 = true := by decide +kernel
def g215_39_2 : List (Jvm.ClassFile.Instr × Nat) := [(.iload 1, 1), (.iconst 8, 2)]
theorem k215_39_2 : okB (cde 215) 39 g215_39_2 = true := by decide +kernel
theorem f215_42 : fch (cde 215) 42 = some (.if_icmp .ge 75, 3) := by decide +kernel
def g215_75_2 : List (Jvm.ClassFile.Instr × Nat) := [(.iconst 0, 1), (.istore 1, 1)]
theorem k215_75_2 : okB (cde 215) 75 g215_75_2 = true := by decide +kernel
def g215_45_6 : List (Jvm.ClassFile.Instr × Nat) := [(.aload 0, 1), (.getfield 11482, 3), (.iload 1, 1), (.aload 0, 1), (.getfield 11002, 3), (.iload 1, 1)]
theorem k215_45_6 : okB (cde 215) 45 g215_45_6 = true := by decide +kernel
theorem f215_55 : fch (cde 215) 55 = some (.iaload, 1) := by decide +kernel
theorem f215_56 : fch (cde 215) 56 = some (.iastore, 1) := by decide +kernel
def g215_57_6 : List (Jvm.ClassFile.Instr × Nat) := [(.aload 0, 1), (.getfield 11492, 3), (.iload 1, 1), (.aload 0, 1), (.getfield 11012, 3), (.iload 1, 1)]
theorem k215_57_6 : okB (cde 215) 57 g215_57_6 = true := by decide +kernel
theorem f215_67 : fch (cde 215) 67 = some (.iaload, 1) := by decide +kernel
theorem f215_68 : fch (cde 215) 68 = some (.iastore, 1) := by decide +kernel
def g215_69_1 : List (Jvm.ClassFile.Instr × Nat) := [(.iinc 1 1, 3)]
theorem k215_69_1 : okB (cde 215) 69 g215_69_1 = true := by decide +kernel
def g215_72_1 : List (Jvm.ClassFile.Instr × Nat) := [(.goto 39, 3)]
theorem k215_72_1 : okB (cde 215) 72 g215_72_1 = true := by decide +kernel
def g215_77_2 : List (Jvm.ClassFile.Instr × Nat) := [(.iload 1, 1), (.iconst 6, 2)]
theorem k215_77_2 : okB (cde 215) 77 g215_77_2 = true := by decide +kernel
theorem f215_80 : fch (cde 215) 80 = some (.if_icmp .ge 209, 3) := by decide +kernel
def g215_209_2 : List (Jvm.ClassFile.Instr × Nat) := [(.iconst 0, 1), (.istore 1, 1)]
theorem k215_209_2 : okB (cde 215) 209 g215_209_2 = true := by decide +kernel
def g215_83_6 : List (Jvm.ClassFile.Instr × Nat) := [(.aload 0, 1), (.getfield 11502, 3), (.iload 1, 1), (.aload 0, 1), (.getfield 11042, 3), (.iload 1, 1)]
theorem k215_83_6 : okB (cde 215) 83 g215_83_6 = true := by decide +kernel
theorem f215_93 : fch (cde 215) 93 = some (.iaload, 1) := by decide +kernel
theorem f215_94 : fch (cde 215) 94 = some (.iastore, 1) := by decide +kernel
def g215_95_6 : List (Jvm.ClassFile.Instr × Nat) := [(.aload 0, 1), (.getfield 11512, 3), (.iload 1, 1), (.aload 0, 1), (.getfield 11052, 3), (.iload 1, 1)]
theorem k215_95_6 : okB (cde 215) 95 g215_95_6 = true := by decide +kernel
theorem f215_105 : fch (cde 215) 105 = some (.iaload, 1) := by decide +kernel
theorem f215_106 : fch (cde 215) 106 = some (.iastore, 1) := by decide +kernel
def g215_107_6 : List (Jvm.ClassFile.Instr × Nat) := [(.aload 0, 1), (.getfield 11522, 3), (.iload 1, 1), (.aload 0, 1), (.getfield 11062, 3), (.iload 1, 1)]
theorem k215_107_6 : okB (cde 215) 107 g215_107_6 = true := by decide +kernel
theorem f215_117 : fch (cde 215) 117 = some (.iaload, 1) := by decide +kernel
theorem f215_118 : fch (cde 215) 118 = some (.iastore, 1) := by decide +kernel
def g215_119_6 : List (Jvm.ClassFile.Instr × Nat) := [(.aload 0, 1), (.getfield 11532, 3), (.iload 1, 1), (.aload 0, 1), (.getfield 11072, 3), (.iload 1, 1)]
theorem k215_119_6 : okB (cde 215) 119 g215_119_6 = true := by decide +kernel
theorem f215_129 : fch (cde 215) 129 = some (.iaload, 1) := by decide +kernel
theorem f215_130 : fch (cde 215) 130 = some (.iastore, 1) := by decide +kernel
def g215_131_6 : List (Jvm.ClassFile.Instr × Nat) := [(.aload 0, 1), (.getfield 11542, 3), (.iload 1, 1), (.aload 0, 1), (.getfield 11082, 3), (.iload 1, 1)]
theorem k215_131_6 : okB (cde 215) 131 g215_131_6 = true := by decide +kernel
theorem f215_141 : fch (cde 215) 141 = some (.iaload, 1) := by decide +kernel
theorem f215_142 : fch (cde 215) 142 = some (.iastore, 1) := by decide +kernel
def g215_143_6 : List (Jvm.ClassFile.Instr × Nat) := [(.aload 0, 1), (.getfield 11552, 3), (.iload 1, 1), (.aload 0, 1), (.getfield 11092, 3), (.iload 1, 1)]
theorem k215_143_6 : okB (cde 215) 143 g215_143_6 = true := by decide +kernel
theorem f215_153 : fch (cde 215) 153 = some (.iaload, 1) := by decide +kernel
theorem f215_154 : fch (cde 215) 154 = some (.iastore, 1) := by decide +kernel
def g215_155_6 : List (Jvm.ClassFile.Instr × Nat) := [(.aload 0, 1), (.getfield 11562, 3), (.iload 1, 1), (.aload 0, 1), (.getfield 11102, 3), (.iload 1, 1)]
theorem k215_155_6 : okB (cde 215) 155 g215_155_6 = true := by decide +kernel
theorem f215_165 : fch (cde 215) 165 = some (.iaload, 1) := by decide +kernel
theorem f215_166 : fch (cde 215) 166 = some (.iastore, 1) := by decide +kernel
def g215_167_6 : List (Jvm.ClassFile.Instr × Nat) := [(.aload 0, 1), (.getfield 11572, 3), (.iload 1, 1), (.aload 0, 1), (.getfield 11112, 3), (.iload 1, 1)]
theorem k215_167_6 : okB (cde 215) 167 g215_167_6 = true := by decide +kernel
theorem f215_177 : fch (cde 215) 177 = some (.iaload, 1) := by decide +kernel
theorem f215_178 : fch (cde 215) 178 = some (.iastore, 1) := by decide +kernel
def g215_179_6 : List (Jvm.ClassFile.Instr × Nat) := [(.aload 0, 1), (.getfield 11582, 3), (.iload 1, 1), (.aload 0, 1), (.getfield 11122, 3), (.iload 1, 1)]
theorem k215_179_6 : okB (cde 215) 179 g215_179_6 = true := by decide +kernel
theorem f215_189 : fch (cde 215) 189 = some (.iaload, 1) := by decide +kernel
theorem f215_190 : fch (cde 215) 190 = some (.iastore, 1) := by decide +kernel
def g215_191_6 : List (Jvm.ClassFile.Instr × Nat) := [(.aload 0, 1), (.getfield 11592, 3), (.iload 1, 1), (.aload 0, 1), (.getfield 11132, 3), (.iload 1, 1)]
theorem k215_191_6 : okB (cde 215) 191 g215_191_6 = true := by decide +kernel
theorem f215_201 : fch (cde 215) 201 = some (.iaload, 1) := by decide +kernel
theorem f215_202 : fch (cde 215) 202 = some (.iastore, 1) := by decide +kernel
def g215_203_1 : List (Jvm.ClassFile.Instr × Nat) := [(.iinc 1 1, 3)]
theorem k215_203_1 : okB (cde 215) 203 g215_203_1 = true := by decide +kernel
def g215_206_1 : List (Jvm.ClassFile.Instr × Nat) := [(.goto 77, 3)]
theorem k215_206_1 : okB (cde 215) 206 g215_206_1 = true := by decide +kernel
def g215_211_2 : List (Jvm.ClassFile.Instr × Nat) := [(.iload 1, 1), (.iconst 12, 2)]
theorem k215_211_2 : okB (cde 215) 211 g215_211_2 = true := by decide +kernel
theorem f215_214 : fch (cde 215) 214 = some (.if_icmp .ge 235, 3) := by decide +kernel
def g215_235_2 : List (Jvm.ClassFile.Instr × Nat) := [(.aload 0, 1), (.getfield 11020, 3)]
theorem k215_235_2 : okB (cde 215) 235 g215_235_2 = true := by decide +kernel
theorem f215_239 : fch (cde 215) 239 = some (.ireturn, 1) := by decide +kernel
def g215_217_6 : List (Jvm.ClassFile.Instr × Nat) := [(.aload 0, 1), (.getfield 11602, 3), (.iload 1, 1), (.aload 0, 1), (.getfield 11422, 3), (.iload 1, 1)]
theorem k215_217_6 : okB (cde 215) 217 g215_217_6 = true := by decide +kernel
theorem f215_227 : fch (cde 215) 227 = some (.iaload, 1) := by decide +kernel
theorem f215_228 : fch (cde 215) 228 = some (.iastore, 1) := by decide +kernel
def g215_229_1 : List (Jvm.ClassFile.Instr × Nat) := [(.iinc 1 1, 3)]
theorem k215_229_1 : okB (cde 215) 229 g215_229_1 = true := by decide +kernel
def g215_232_1 : List (Jvm.ClassFile.Instr × Nat) := [(.goto 211, 3)]
theorem k215_232_1 : okB (cde 215) 232 g215_232_1 = true := by decide +kernel
noncomputable def y215_39 (F : Cal) (x1 : Int) (I L : Fn) : Option Ans := RunX none F 215 39 [vr 92, vi x1] [] (S I L)
noncomputable def y215_77 (F : Cal) (x1 : Int) (I L : Fn) : Option Ans := RunX none F 215 77 [vr 92, vi x1] [] (S I L)
noncomputable def y215_211 (F : Cal) (x1 : Int) (I L : Fn) : Option Ans := RunX none F 215 211 [vr 92, vi x1] [] (S I L)
theorem e215_1 {d : Nat} {v1 v2 v3 v4 : Int} {I L : Fn} (h1 : (I 92 16) = v1) (h2 : (I 92 2) = v2) (h3 : (I 92 3) = v3) (h4 : (I 92 41) = v4) : CallD (d + 1) 215 [vr 92] (S I L) = y215_39 (CallD d) 0 (up (up (up (up (up I 92 43 1) 92 44 v1) 92 45 v2) 92 46 v3) 92 47 v4) L :=
  Eq.trans (Call_eq rfl (ls := [vr 92, vu]) rfl) (Eq.trans (Run_blk (pc' := 10) (ls' := [vr 92, vu]) (st' := [vi (I 92 16), vr 92]) (σ' := S (up I 92 43 1) L) k215_0_6 (rfl)) (Eq.trans (p_nm h1) (Eq.trans (Run_blk (pc' := 18) (ls' := [vr 92, vu]) (st' := [vi (I 92 2), vr 92]) (σ' := S (up (up I 92 43 1) 92 44 v1) L) k215_10_4 (rfl)) (Eq.trans (p_nm h2) (Eq.trans (Run_blk (pc' := 26) (ls' := [vr 92, vu]) (st' := [vi (I 92 3), vr 92]) (σ' := S (up (up (up I 92 43 1) 92 44 v1) 92 45 v2) L) k215_18_4 (rfl)) (Eq.trans (p_nm h3) (Eq.trans (Run_blk (pc' := 34) (ls' := [vr 92, vu]) (st' := [vi (I 92 41), vr 92]) (σ' := S (up (up (up (up I 92 43 1) 92 44 v1) 92 45 v2) 92 46 v3) L) k215_26_4 (rfl)) (Eq.trans (p_nm h4) (Eq.trans (Run_blk (pc' := 39) (ls' := [vr 92, vi 0]) (st' := []) (σ' := S (up (up (up (up (up I 92 43 1) 92 44 v1) 92 45 v2) 92 46 v3) 92 47 v4) L) k215_34_3 (rfl)) (rfl))))))))))
theorem y215_39_1 {F : Cal} {x1 : Int} {I L : Fn} (h1 : 8 ≤ x1) : y215_39 F x1 I L = y215_77 F 0 I L :=
  Eq.trans (Run_blk (pc' := 42) (ls' := [vr 92, vi x1]) (st' := [vi 8, vi x1]) (σ' := S I L) k215_39_2 (rfl)) (Eq.trans (p_ic f215_42 (decide_eq_true h1)) (Eq.trans (Run_blk (pc' := 77) (ls' := [vr 92, vi 0]) (st' := []) (σ' := S I L) k215_75_2 (rfl)) (rfl)))
theorem y215_39_2 {F : Cal} {x1 v1 v2 v3 : Int} {I L : Fn} (h1 : x1 < 8) (h2 : 0 ≤ x1 ∧ x1 < 8) (h3 : I 93 x1.toNat = v1) (h4 : I 94 x1.toNat = v2) (h5 : w32 (x1 + 1) = v3) : y215_39 F x1 I L = y215_39 F v3 (up (up I 124 x1.toNat v1) 125 x1.toNat v2) L :=
  Eq.trans (Run_blk (pc' := 42) (ls' := [vr 92, vi x1]) (st' := [vi 8, vi x1]) (σ' := S I L) k215_39_2 (rfl)) (Eq.trans (p_icn f215_42 (decide_eq_false (Int.not_le.mpr h1))) (Eq.trans (Run_blk (pc' := 55) (ls' := [vr 92, vi x1]) (st' := [vi x1, vr 93, vi x1, vr 124]) (σ' := S I L) k215_45_6 (rfl)) (Eq.trans (p_iald f215_55 rfl h2 h3) (Eq.trans (p_iast f215_56 rfl (by decide) h2) (Eq.trans (Run_blk (pc' := 67) (ls' := [vr 92, vi x1]) (st' := [vi x1, vr 94, vi x1, vr 125]) (σ' := S (up I 124 x1.toNat v1) L) k215_57_6 (rfl)) (Eq.trans (p_iald f215_67 rfl h2 h4) (Eq.trans (p_iast f215_68 rfl (by decide) h2) (Eq.trans (Run_blk (pc' := 72) (ls' := [vr 92, vi v3]) (st' := []) (σ' := S (up (up I 124 x1.toNat v1) 125 x1.toNat v2) L) k215_69_1 (by subst h5; rfl)) (Eq.trans (Run_blk (pc' := 39) (ls' := [vr 92, vi v3]) (st' := []) (σ' := S (up (up I 124 x1.toNat v1) 125 x1.toNat v2) L) k215_72_1 (rfl)) (rfl))))))))))
theorem y215_77_1 {F : Cal} {x1 : Int} {I L : Fn} (h1 : 6 ≤ x1) : y215_77 F x1 I L = y215_211 F 0 I L :=
  Eq.trans (Run_blk (pc' := 80) (ls' := [vr 92, vi x1]) (st' := [vi 6, vi x1]) (σ' := S I L) k215_77_2 (rfl)) (Eq.trans (p_ic f215_80 (decide_eq_true h1)) (Eq.trans (Run_blk (pc' := 211) (ls' := [vr 92, vi 0]) (st' := []) (σ' := S I L) k215_209_2 (rfl)) (rfl)))
theorem y215_77_2 {F : Cal} {x1 v1 v2 v3 v4 v5 v6 v7 v8 v9 v10 v11 : Int} {I L : Fn} (h1 : x1 < 6) (h2 : 0 ≤ x1 ∧ x1 < 6) (h3 : I 95 x1.toNat = v1) (h4 : I 96 x1.toNat = v2) (h5 : I 97 x1.toNat = v3) (h6 : I 98 x1.toNat = v4) (h7 : I 99 x1.toNat = v5) (h8 : I 100 x1.toNat = v6) (h9 : I 101 x1.toNat = v7) (h10 : I 102 x1.toNat = v8) (h11 : I 103 x1.toNat = v9) (h12 : I 104 x1.toNat = v10) (h13 : w32 (x1 + 1) = v11) : y215_77 F x1 I L = y215_77 F v11 (up (up (up (up (up (up (up (up (up (up I 126 x1.toNat v1) 127 x1.toNat v2) 128 x1.toNat v3) 129 x1.toNat v4) 130 x1.toNat v5) 131 x1.toNat v6) 132 x1.toNat v7) 133 x1.toNat v8) 134 x1.toNat v9) 135 x1.toNat v10) L :=
  Eq.trans (Run_blk (pc' := 80) (ls' := [vr 92, vi x1]) (st' := [vi 6, vi x1]) (σ' := S I L) k215_77_2 (rfl)) (Eq.trans (p_icn f215_80 (decide_eq_false (Int.not_le.mpr h1))) (Eq.trans (Run_blk (pc' := 93) (ls' := [vr 92, vi x1]) (st' := [vi x1, vr 95, vi x1, vr 126]) (σ' := S I L) k215_83_6 (rfl)) (Eq.trans (p_iald f215_93 rfl h2 h3) (Eq.trans (p_iast f215_94 rfl (by decide) h2) (Eq.trans (Run_blk (pc' := 105) (ls' := [vr 92, vi x1]) (st' := [vi x1, vr 96, vi x1, vr 127]) (σ' := S (up I 126 x1.toNat v1) L) k215_95_6 (rfl)) (Eq.trans (p_iald f215_105 rfl h2 h4) (Eq.trans (p_iast f215_106 rfl (by decide) h2) (Eq.trans (Run_blk (pc' := 117) (ls' := [vr 92, vi x1]) (st' := [vi x1, vr 97, vi x1, vr 128]) (σ' := S (up (up I 126 x1.toNat v1) 127 x1.toNat v2) L) k215_107_6 (rfl)) (Eq.trans (p_iald f215_117 rfl h2 h5) (Eq.trans (p_iast f215_118 rfl (by decide) h2) (Eq.trans (Run_blk (pc' := 129) (ls' := [vr 92, vi x1]) (st' := [vi x1, vr 98, vi x1, vr 129]) (σ' := S (up (up (up I 126 x1.toNat v1) 127 x1.toNat v2) 128 x1.toNat v3) L) k215_119_6 (rfl)) (Eq.trans (p_iald f215_129 rfl h2 h6) (Eq.trans (p_iast f215_130 rfl (by decide) h2) (Eq.trans (Run_blk (pc' := 141) (ls' := [vr 92, vi x1]) (st' := [vi x1, vr 99, vi x1, vr 130]) (σ' := S (up (up (up (up I 126 x1.toNat v1) 127 x1.toNat v2) 128 x1.toNat v3) 129 x1.toNat v4) L) k215_131_6 (rfl)) (Eq.trans (p_iald f215_141 rfl h2 h7) (Eq.trans (p_iast f215_142 rfl (by decide) h2) (Eq.trans (Run_blk (pc' := 153) (ls' := [vr 92, vi x1]) (st' := [vi x1, vr 100, vi x1, vr 131]) (σ' := S (up (up (up (up (up I 126 x1.toNat v1) 127 x1.toNat v2) 128 x1.toNat v3) 129 x1.toNat v4) 130 x1.toNat v5) L) k215_143_6 (rfl)) (Eq.trans (p_iald f215_153 rfl h2 h8) (Eq.trans (p_iast f215_154 rfl (by decide) h2) (Eq.trans (Run_blk (pc' := 165) (ls' := [vr 92, vi x1]) (st' := [vi x1, vr 101, vi x1, vr 132]) (σ' := S (up (up (up (up (up (up I 126 x1.toNat v1) 127 x1.toNat v2) 128 x1.toNat v3) 129 x1.toNat v4) 130 x1.toNat v5) 131 x1.toNat v6) L) k215_155_6 (rfl)) (Eq.trans (p_iald f215_165 rfl h2 h9) (Eq.trans (p_iast f215_166 rfl (by decide) h2) (Eq.trans (Run_blk (pc' := 177) (ls' := [vr 92, vi x1]) (st' := [vi x1, vr 102, vi x1, vr 133]) (σ' := S (up (up (up (up (up (up (up I 126 x1.toNat v1) 127 x1.toNat v2) 128 x1.toNat v3) 129 x1.toNat v4) 130 x1.toNat v5) 131 x1.toNat v6) 132 x1.toNat v7) L) k215_167_6 (rfl)) (Eq.trans (p_iald f215_177 rfl h2 h10) (Eq.trans (p_iast f215_178 rfl (by decide) h2) (Eq.trans (Run_blk (pc' := 189) (ls' := [vr 92, vi x1]) (st' := [vi x1, vr 103, vi x1, vr 134]) (σ' := S (up (up (up (up (up (up (up (up I 126 x1.toNat v1) 127 x1.toNat v2) 128 x1.toNat v3) 129 x1.toNat v4) 130 x1.toNat v5) 131 x1.toNat v6) 132 x1.toNat v7) 133 x1.toNat v8) L) k215_179_6 (rfl)) (Eq.trans (p_iald f215_189 rfl h2 h11) (Eq.trans (p_iast f215_190 rfl (by decide) h2) (Eq.trans (Run_blk (pc' := 201) (ls' := [vr 92, vi x1]) (st' := [vi x1, vr 104, vi x1, vr 135]) (σ' := S (up (up (up (up (up (up (up (up (up I 126 x1.toNat v1) 127 x1.toNat v2) 128 x1.toNat v3) 129 x1.toNat v4) 130 x1.toNat v5) 131 x1.toNat v6) 132 x1.toNat v7) 133 x1.toNat v8) 134 x1.toNat v9) L) k215_191_6 (rfl)) (Eq.trans (p_iald f215_201 rfl h2 h12) (Eq.trans (p_iast f215_202 rfl (by decide) h2) (Eq.trans (Run_blk (pc' := 206) (ls' := [vr 92, vi v11]) (st' := []) (σ' := S (up (up (up (up (up (up (up (up (up (up I 126 x1.toNat v1) 127 x1.toNat v2) 128 x1.toNat v3) 129 x1.toNat v4) 130 x1.toNat v5) 131 x1.toNat v6) 132 x1.toNat v7) 133 x1.toNat v8) 134 x1.toNat v9) 135 x1.toNat v10) L) k215_203_1 (by subst h13; rfl)) (Eq.trans (Run_blk (pc' := 77) (ls' := [vr 92, vi v11]) (st' := []) (σ' := S (up (up (up (up (up (up (up (up (up (up I 126 x1.toNat v1) 127 x1.toNat v2) 128 x1.toNat v3) 129 x1.toNat v4) 130 x1.toNat v5) 131 x1.toNat v6) 132 x1.toNat v7) 133 x1.toNat v8) 134 x1.toNat v9) 135 x1.toNat v10) L) k215_206_1 (rfl)) (rfl))))))))))))))))))))))))))))))))))
theorem y215_211_1 {F : Cal} {x1 v1 : Int} {I L : Fn} (h1 : 12 ≤ x1) (h2 : (I 92 2) = v1) : y215_211 F x1 I L = some (some (vi v1), S I L) :=
  Eq.trans (Run_blk (pc' := 214) (ls' := [vr 92, vi x1]) (st' := [vi 12, vi x1]) (σ' := S I L) k215_211_2 (rfl)) (Eq.trans (p_ic f215_214 (decide_eq_true h1)) (Eq.trans (Run_blk (pc' := 239) (ls' := [vr 92, vi x1]) (st' := [vi (I 92 2)]) (σ' := S I L) k215_235_2 (rfl)) (Eq.trans (p_nm h2) (p_ri f215_239 rfl))))
theorem y215_211_2 {F : Cal} {x1 v1 v2 : Int} {I L : Fn} (h1 : x1 < 12) (h2 : 0 ≤ x1 ∧ x1 < 12) (h3 : I 123 x1.toNat = v1) (h4 : w32 (x1 + 1) = v2) : y215_211 F x1 I L = y215_211 F v2 (up I 136 x1.toNat v1) L :=
  Eq.trans (Run_blk (pc' := 214) (ls' := [vr 92, vi x1]) (st' := [vi 12, vi x1]) (σ' := S I L) k215_211_2 (rfl)) (Eq.trans (p_icn f215_214 (decide_eq_false (Int.not_le.mpr h1))) (Eq.trans (Run_blk (pc' := 227) (ls' := [vr 92, vi x1]) (st' := [vi x1, vr 123, vi x1, vr 136]) (σ' := S I L) k215_217_6 (rfl)) (Eq.trans (p_iald f215_227 rfl h2 h3) (Eq.trans (p_iast f215_228 rfl (by decide) h2) (Eq.trans (Run_blk (pc' := 232) (ls' := [vr 92, vi v2]) (st' := []) (σ' := S (up I 136 x1.toNat v1) L) k215_229_1 (by subst h4; rfl)) (Eq.trans (Run_blk (pc' := 211) (ls' := [vr 92, vi v2]) (st' := []) (σ' := S (up I 136 x1.toNat v1) L) k215_232_1 (rfl)) (rfl)))))))
def lv_216 : List (Nat × Nat) := [(0, 1), (1, 1), (4, 1), (10, 1), (11, 1), (12, 1), (15, 1), (18, 1), (19, 1), (20, 1), (23, 1), (26, 1), (27, 1), (28, 1), (31, 1), (34, 1), (35, 1), (36, 1), (39, 1), (42, 1), (43, 1), (44, 3), (45, 3), (47, 3), (50, 3), (51, 3), (54, 3), (55, 3), (56, 3), (59, 3), (60, 3), (61, 3), (62, 3), (63, 3), (66, 3), (67, 3), (68, 3), (71, 3), (72, 3), (73, 3), (74, 3), (77, 3), (80, 1), (81, 1), (82, 3), (83, 3), (85, 3), (88, 3), (89, 3), (92, 3), (93, 3), (94, 3), (97, 3), (98, 3), (99, 3), (100, 3), (101, 3), (104, 3), (105, 3), (106, 3), (109, 3), (110, 3), (111, 3), (112, 3), (113, 3), (116, 3), (117, 3), (118, 3), (121, 3), (122, 3), (123, 3), (124, 3), (125, 3), (128, 3), (129, 3), (130, 3), (133, 3), (134, 3), (135, 3), (136, 3), (137, 3), (140, 3), (141, 3), (142, 3), (145, 3), (146, 3), (147, 3), (148, 3), (149, 3), (152, 3), (153, 3), (154, 3), (157, 3), (158, 3), (159, 3), (160, 3), (161, 3), (164, 3), (165, 3), (166, 3), (169, 3), (170, 3), (171, 3), (172, 3), (173, 3), (176, 3), (177, 3), (178, 3), (181, 3), (182, 3), (183, 3), (184, 3), (185, 3), (188, 3), (189, 3), (190, 3), (193, 3), (194, 3), (195, 3), (196, 3), (197, 3), (200, 3), (201, 3), (202, 3), (205, 3), (206, 3), (207, 3), (208, 3), (211, 3), (214, 1), (215, 1), (216, 3), (217, 3), (219, 3), (222, 3), (223, 3), (226, 3), (227, 3), (228, 3), (231, 3), (232, 3), (233, 3), (234, 3), (237, 3), (240, 1)]
theorem okl_216 : okL lv_216 (cde 216) = true := by decide +kernel
def g216_0_2 : List (Jvm.ClassFile.Instr × Nat) := [(.aload 0, 1), (.getfield 11433, 3)]
theorem k216_0_2 : okB (cde 216) 0 g216_0_2 = true := by decide +kernel
theorem f216_4 : fch (cde 216) 4 = some (.ifCond .ne 10, 3) := by decide +kernel
def g216_10_3 : List (Jvm.ClassFile.Instr × Nat) := [(.aload 0, 1), (.aload 0, 1), (.getfield 11440, 3)]
theorem k216_10_3 : okB (cde 216) 10 g216_10_3 = true := by decide +kernel
def g216_15_4 : List (Jvm.ClassFile.Instr × Nat) := [(.putfield 11160, 3), (.aload 0, 1), (.aload 0, 1), (.getfield 11450, 3)]
theorem k216_15_4 : okB (cde 216) 15 g216_15_4 = true := by decide +kernel
def g216_23_4 : List (Jvm.ClassFile.Instr × Nat) := [(.putfield 11020, 3), (.aload 0, 1), (.aload 0, 1), (.getfield 11460, 3)]
theorem k216_23_4 : okB (cde 216) 23 g216_23_4 = true := by decide +kernel
def g216_31_4 : List (Jvm.ClassFile.Instr × Nat) := [(.putfield 11030, 3), (.aload 0, 1), (.aload 0, 1), (.getfield 11470, 3)]
theorem k216_31_4 : okB (cde 216) 31 g216_31_4 = true := by decide +kernel
def g216_39_3 : List (Jvm.ClassFile.Instr × Nat) := [(.putfield 11410, 3), (.iconst 0, 1), (.istore 1, 1)]
theorem k216_39_3 : okB (cde 216) 39 g216_39_3 = true := by decide +kernel
def g216_7_1 : List (Jvm.ClassFile.Instr × Nat) := [(.iconst (-3), 2)]
theorem k216_7_1 : okB (cde 216) 7 g216_7_1 = true := by decide +kernel
theorem f216_9 : fch (cde 216) 9 = some (.ireturn, 1) := by decide +kernel
def g216_44_2 : List (Jvm.ClassFile.Instr × Nat) := [(.iload 1, 1), (.iconst 8, 2)]
theorem k216_44_2 : okB (cde 216) 44 g216_44_2 = true := by decide +kernel
theorem f216_47 : fch (cde 216) 47 = some (.if_icmp .ge 80, 3) := by decide +kernel
def g216_80_2 : List (Jvm.ClassFile.Instr × Nat) := [(.iconst 0, 1), (.istore 1, 1)]
theorem k216_80_2 : okB (cde 216) 80 g216_80_2 = true := by decide +kernel
def g216_50_6 : List (Jvm.ClassFile.Instr × Nat) := [(.aload 0, 1), (.getfield 11002, 3), (.iload 1, 1), (.aload 0, 1), (.getfield 11482, 3), (.iload 1, 1)]
theorem k216_50_6 : okB (cde 216) 50 g216_50_6 = true := by decide +kernel
theorem f216_60 : fch (cde 216) 60 = some (.iaload, 1) := by decide +kernel
theorem f216_61 : fch (cde 216) 61 = some (.iastore, 1) := by decide +kernel
def g216_62_6 : List (Jvm.ClassFile.Instr × Nat) := [(.aload 0, 1), (.getfield 11012, 3), (.iload 1, 1), (.aload 0, 1), (.getfield 11492, 3), (.iload 1, 1)]
theorem k216_62_6 : okB (cde 216) 62 g216_62_6 = true := by decide +kernel
theorem f216_72 : fch (cde 216) 72 = some (.iaload, 1) := by decide +kernel
theorem f216_73 : fch (cde 216) 73 = some (.iastore, 1) := by decide +kernel
def g216_74_1 : List (Jvm.ClassFile.Instr × Nat) := [(.iinc 1 1, 3)]
theorem k216_74_1 : okB (cde 216) 74 g216_74_1 = true := by decide +kernel
def g216_77_1 : List (Jvm.ClassFile.Instr × Nat) := [(.goto 44, 3)]
theorem k216_77_1 : okB (cde 216) 77 g216_77_1 = true := by decide +kernel
def g216_82_2 : List (Jvm.ClassFile.Instr × Nat) := [(.iload 1, 1), (.iconst 6, 2)]
theorem k216_82_2 : okB (cde 216) 82 g216_82_2 = true := by decide +kernel
theorem f216_85 : fch (cde 216) 85 = some (.if_icmp .ge 214, 3) := by decide +kernel
def g216_214_2 : List (Jvm.ClassFile.Instr × Nat) := [(.iconst 0, 1), (.istore 1, 1)]
theorem k216_214_2 : okB (cde 216) 214 g216_214_2 = true := by decide +kernel
def g216_88_6 : List (Jvm.ClassFile.Instr × Nat) := [(.aload 0, 1), (.getfield 11042, 3), (.iload 1, 1), (.aload 0, 1), (.getfield 11502, 3), (.iload 1, 1)]
theorem k216_88_6 : okB (cde 216) 88 g216_88_6 = true := by decide +kernel
theorem f216_98 : fch (cde 216) 98 = some (.iaload, 1) := by decide +kernel
theorem f216_99 : fch (cde 216) 99 = some (.iastore, 1) := by decide +kernel
def g216_100_6 : List (Jvm.ClassFile.Instr × Nat) := [(.aload 0, 1), (.getfield 11052, 3), (.iload 1, 1), (.aload 0, 1), (.getfield 11512, 3), (.iload 1, 1)]
theorem k216_100_6 : okB (cde 216) 100 g216_100_6 = true := by decide +kernel
theorem f216_110 : fch (cde 216) 110 = some (.iaload, 1) := by decide +kernel
theorem f216_111 : fch (cde 216) 111 = some (.iastore, 1) := by decide +kernel
def g216_112_6 : List (Jvm.ClassFile.Instr × Nat) := [(.aload 0, 1), (.getfield 11062, 3), (.iload 1, 1), (.aload 0, 1), (.getfield 11522, 3), (.iload 1, 1)]
theorem k216_112_6 : okB (cde 216) 112 g216_112_6 = true := by decide +kernel
theorem f216_122 : fch (cde 216) 122 = some (.iaload, 1) := by decide +kernel
theorem f216_123 : fch (cde 216) 123 = some (.iastore, 1) := by decide +kernel
def g216_124_6 : List (Jvm.ClassFile.Instr × Nat) := [(.aload 0, 1), (.getfield 11072, 3), (.iload 1, 1), (.aload 0, 1), (.getfield 11532, 3), (.iload 1, 1)]
theorem k216_124_6 : okB (cde 216) 124 g216_124_6 = true := by decide +kernel
theorem f216_134 : fch (cde 216) 134 = some (.iaload, 1) := by decide +kernel
theorem f216_135 : fch (cde 216) 135 = some (.iastore, 1) := by decide +kernel
def g216_136_6 : List (Jvm.ClassFile.Instr × Nat) := [(.aload 0, 1), (.getfield 11082, 3), (.iload 1, 1), (.aload 0, 1), (.getfield 11542, 3), (.iload 1, 1)]
theorem k216_136_6 : okB (cde 216) 136 g216_136_6 = true := by decide +kernel
theorem f216_146 : fch (cde 216) 146 = some (.iaload, 1) := by decide +kernel
theorem f216_147 : fch (cde 216) 147 = some (.iastore, 1) := by decide +kernel
def g216_148_6 : List (Jvm.ClassFile.Instr × Nat) := [(.aload 0, 1), (.getfield 11092, 3), (.iload 1, 1), (.aload 0, 1), (.getfield 11552, 3), (.iload 1, 1)]
theorem k216_148_6 : okB (cde 216) 148 g216_148_6 = true := by decide +kernel
theorem f216_158 : fch (cde 216) 158 = some (.iaload, 1) := by decide +kernel
theorem f216_159 : fch (cde 216) 159 = some (.iastore, 1) := by decide +kernel
def g216_160_6 : List (Jvm.ClassFile.Instr × Nat) := [(.aload 0, 1), (.getfield 11102, 3), (.iload 1, 1), (.aload 0, 1), (.getfield 11562, 3), (.iload 1, 1)]
theorem k216_160_6 : okB (cde 216) 160 g216_160_6 = true := by decide +kernel
theorem f216_170 : fch (cde 216) 170 = some (.iaload, 1) := by decide +kernel
theorem f216_171 : fch (cde 216) 171 = some (.iastore, 1) := by decide +kernel
def g216_172_6 : List (Jvm.ClassFile.Instr × Nat) := [(.aload 0, 1), (.getfield 11112, 3), (.iload 1, 1), (.aload 0, 1), (.getfield 11572, 3), (.iload 1, 1)]
theorem k216_172_6 : okB (cde 216) 172 g216_172_6 = true := by decide +kernel
theorem f216_182 : fch (cde 216) 182 = some (.iaload, 1) := by decide +kernel
theorem f216_183 : fch (cde 216) 183 = some (.iastore, 1) := by decide +kernel
def g216_184_6 : List (Jvm.ClassFile.Instr × Nat) := [(.aload 0, 1), (.getfield 11122, 3), (.iload 1, 1), (.aload 0, 1), (.getfield 11582, 3), (.iload 1, 1)]
theorem k216_184_6 : okB (cde 216) 184 g216_184_6 = true := by decide +kernel
theorem f216_194 : fch (cde 216) 194 = some (.iaload, 1) := by decide +kernel
theorem f216_195 : fch (cde 216) 195 = some (.iastore, 1) := by decide +kernel
def g216_196_6 : List (Jvm.ClassFile.Instr × Nat) := [(.aload 0, 1), (.getfield 11132, 3), (.iload 1, 1), (.aload 0, 1), (.getfield 11592, 3), (.iload 1, 1)]
theorem k216_196_6 : okB (cde 216) 196 g216_196_6 = true := by decide +kernel
theorem f216_206 : fch (cde 216) 206 = some (.iaload, 1) := by decide +kernel
theorem f216_207 : fch (cde 216) 207 = some (.iastore, 1) := by decide +kernel
def g216_208_1 : List (Jvm.ClassFile.Instr × Nat) := [(.iinc 1 1, 3)]
theorem k216_208_1 : okB (cde 216) 208 g216_208_1 = true := by decide +kernel
def g216_211_1 : List (Jvm.ClassFile.Instr × Nat) := [(.goto 82, 3)]
theorem k216_211_1 : okB (cde 216) 211 g216_211_1 = true := by decide +kernel
def g216_216_2 : List (Jvm.ClassFile.Instr × Nat) := [(.iload 1, 1), (.iconst 12, 2)]
theorem k216_216_2 : okB (cde 216) 216 g216_216_2 = true := by decide +kernel
theorem f216_219 : fch (cde 216) 219 = some (.if_icmp .ge 240, 3) := by decide +kernel
def g216_240_2 : List (Jvm.ClassFile.Instr × Nat) := [(.aload 0, 1), (.getfield 11020, 3)]
theorem k216_240_2 : okB (cde 216) 240 g216_240_2 = true := by decide +kernel
theorem f216_244 : fch (cde 216) 244 = some (.ireturn, 1) := by decide +kernel
def g216_222_6 : List (Jvm.ClassFile.Instr × Nat) := [(.aload 0, 1), (.getfield 11422, 3), (.iload 1, 1), (.aload 0, 1), (.getfield 11602, 3), (.iload 1, 1)]
theorem k216_222_6 : okB (cde 216) 222 g216_222_6 = true := by decide +kernel
theorem f216_232 : fch (cde 216) 232 = some (.iaload, 1) := by decide +kernel
theorem f216_233 : fch (cde 216) 233 = some (.iastore, 1) := by decide +kernel
def g216_234_1 : List (Jvm.ClassFile.Instr × Nat) := [(.iinc 1 1, 3)]
theorem k216_234_1 : okB (cde 216) 234 g216_234_1 = true := by decide +kernel
def g216_237_1 : List (Jvm.ClassFile.Instr × Nat) := [(.goto 216, 3)]
theorem k216_237_1 : okB (cde 216) 237 g216_237_1 = true := by decide +kernel
noncomputable def y216_44 (F : Cal) (x1 : Int) (I L : Fn) : Option Ans := RunX none F 216 44 [vr 92, vi x1] [] (S I L)
noncomputable def y216_82 (F : Cal) (x1 : Int) (I L : Fn) : Option Ans := RunX none F 216 82 [vr 92, vi x1] [] (S I L)
noncomputable def y216_216 (F : Cal) (x1 : Int) (I L : Fn) : Option Ans := RunX none F 216 216 [vr 92, vi x1] [] (S I L)
theorem e216_1 {d : Nat} {v1 v2 v3 v4 v5 : Int} {I L : Fn} (h1 : (I 92 43) = v1) (h2 : ¬ v1 = 0) (h3 : (I 92 44) = v2) (h4 : (I 92 45) = v3) (h5 : (I 92 46) = v4) (h6 : (I 92 47) = v5) : CallD (d + 1) 216 [vr 92] (S I L) = y216_44 (CallD d) 0 (up (up (up (up I 92 16 v2) 92 2 v3) 92 3 v4) 92 41 v5) L :=
  Eq.trans (Call_eq rfl (ls := [vr 92, vu]) rfl) (Eq.trans (Run_blk (pc' := 4) (ls' := [vr 92, vu]) (st' := [vi (I 92 43)]) (σ' := S I L) k216_0_2 (rfl)) (Eq.trans (p_nm h1) (Eq.trans (p_if f216_4 (decide_eq_true h2)) (Eq.trans (Run_blk (pc' := 15) (ls' := [vr 92, vu]) (st' := [vi (I 92 44), vr 92]) (σ' := S I L) k216_10_3 (rfl)) (Eq.trans (p_nm h3) (Eq.trans (Run_blk (pc' := 23) (ls' := [vr 92, vu]) (st' := [vi (I 92 45), vr 92]) (σ' := S (up I 92 16 v2) L) k216_15_4 (rfl)) (Eq.trans (p_nm h4) (Eq.trans (Run_blk (pc' := 31) (ls' := [vr 92, vu]) (st' := [vi (I 92 46), vr 92]) (σ' := S (up (up I 92 16 v2) 92 2 v3) L) k216_23_4 (rfl)) (Eq.trans (p_nm h5) (Eq.trans (Run_blk (pc' := 39) (ls' := [vr 92, vu]) (st' := [vi (I 92 47), vr 92]) (σ' := S (up (up (up I 92 16 v2) 92 2 v3) 92 3 v4) L) k216_31_4 (rfl)) (Eq.trans (p_nm h6) (Eq.trans (Run_blk (pc' := 44) (ls' := [vr 92, vi 0]) (st' := []) (σ' := S (up (up (up (up I 92 16 v2) 92 2 v3) 92 3 v4) 92 41 v5) L) k216_39_3 (rfl)) (rfl)))))))))))))
theorem e216_2 {d : Nat} {v1 : Int} {I L : Fn} (h1 : (I 92 43) = v1) (h2 : v1 = 0) : CallD (d + 1) 216 [vr 92] (S I L) = some (some (vi (-3)), S I L) :=
  Eq.trans (Call_eq rfl (ls := [vr 92, vu]) rfl) (Eq.trans (Run_blk (pc' := 4) (ls' := [vr 92, vu]) (st' := [vi (I 92 43)]) (σ' := S I L) k216_0_2 (rfl)) (Eq.trans (p_nm h1) (Eq.trans (p_ifn f216_4 (decide_eq_false (not_not_intro h2))) (Eq.trans (Run_blk (pc' := 9) (ls' := [vr 92, vu]) (st' := [vi (-3)]) (σ' := S I L) k216_7_1 (rfl)) (p_ri f216_9 rfl)))))
theorem y216_44_1 {F : Cal} {x1 : Int} {I L : Fn} (h1 : 8 ≤ x1) : y216_44 F x1 I L = y216_82 F 0 I L :=
  Eq.trans (Run_blk (pc' := 47) (ls' := [vr 92, vi x1]) (st' := [vi 8, vi x1]) (σ' := S I L) k216_44_2 (rfl)) (Eq.trans (p_ic f216_47 (decide_eq_true h1)) (Eq.trans (Run_blk (pc' := 82) (ls' := [vr 92, vi 0]) (st' := []) (σ' := S I L) k216_80_2 (rfl)) (rfl)))
theorem y216_44_2 {F : Cal} {x1 v1 v2 v3 : Int} {I L : Fn} (h1 : x1 < 8) (h2 : 0 ≤ x1 ∧ x1 < 8) (h3 : I 124 x1.toNat = v1) (h4 : I 125 x1.toNat = v2) (h5 : w32 (x1 + 1) = v3) : y216_44 F x1 I L = y216_44 F v3 (up (up I 93 x1.toNat v1) 94 x1.toNat v2) L :=
  Eq.trans (Run_blk (pc' := 47) (ls' := [vr 92, vi x1]) (st' := [vi 8, vi x1]) (σ' := S I L) k216_44_2 (rfl)) (Eq.trans (p_icn f216_47 (decide_eq_false (Int.not_le.mpr h1))) (Eq.trans (Run_blk (pc' := 60) (ls' := [vr 92, vi x1]) (st' := [vi x1, vr 124, vi x1, vr 93]) (σ' := S I L) k216_50_6 (rfl)) (Eq.trans (p_iald f216_60 rfl h2 h3) (Eq.trans (p_iast f216_61 rfl (by decide) h2) (Eq.trans (Run_blk (pc' := 72) (ls' := [vr 92, vi x1]) (st' := [vi x1, vr 125, vi x1, vr 94]) (σ' := S (up I 93 x1.toNat v1) L) k216_62_6 (rfl)) (Eq.trans (p_iald f216_72 rfl h2 h4) (Eq.trans (p_iast f216_73 rfl (by decide) h2) (Eq.trans (Run_blk (pc' := 77) (ls' := [vr 92, vi v3]) (st' := []) (σ' := S (up (up I 93 x1.toNat v1) 94 x1.toNat v2) L) k216_74_1 (by subst h5; rfl)) (Eq.trans (Run_blk (pc' := 44) (ls' := [vr 92, vi v3]) (st' := []) (σ' := S (up (up I 93 x1.toNat v1) 94 x1.toNat v2) L) k216_77_1 (rfl)) (rfl))))))))))
theorem y216_82_1 {F : Cal} {x1 : Int} {I L : Fn} (h1 : 6 ≤ x1) : y216_82 F x1 I L = y216_216 F 0 I L :=
  Eq.trans (Run_blk (pc' := 85) (ls' := [vr 92, vi x1]) (st' := [vi 6, vi x1]) (σ' := S I L) k216_82_2 (rfl)) (Eq.trans (p_ic f216_85 (decide_eq_true h1)) (Eq.trans (Run_blk (pc' := 216) (ls' := [vr 92, vi 0]) (st' := []) (σ' := S I L) k216_214_2 (rfl)) (rfl)))
theorem y216_82_2 {F : Cal} {x1 v1 v2 v3 v4 v5 v6 v7 v8 v9 v10 v11 : Int} {I L : Fn} (h1 : x1 < 6) (h2 : 0 ≤ x1 ∧ x1 < 6) (h3 : I 126 x1.toNat = v1) (h4 : I 127 x1.toNat = v2) (h5 : I 128 x1.toNat = v3) (h6 : I 129 x1.toNat = v4) (h7 : I 130 x1.toNat = v5) (h8 : I 131 x1.toNat = v6) (h9 : I 132 x1.toNat = v7) (h10 : I 133 x1.toNat = v8) (h11 : I 134 x1.toNat = v9) (h12 : I 135 x1.toNat = v10) (h13 : w32 (x1 + 1) = v11) : y216_82 F x1 I L = y216_82 F v11 (up (up (up (up (up (up (up (up (up (up I 95 x1.toNat v1) 96 x1.toNat v2) 97 x1.toNat v3) 98 x1.toNat v4) 99 x1.toNat v5) 100 x1.toNat v6) 101 x1.toNat v7) 102 x1.toNat v8) 103 x1.toNat v9) 104 x1.toNat v10) L :=
  Eq.trans (Run_blk (pc' := 85) (ls' := [vr 92, vi x1]) (st' := [vi 6, vi x1]) (σ' := S I L) k216_82_2 (rfl)) (Eq.trans (p_icn f216_85 (decide_eq_false (Int.not_le.mpr h1))) (Eq.trans (Run_blk (pc' := 98) (ls' := [vr 92, vi x1]) (st' := [vi x1, vr 126, vi x1, vr 95]) (σ' := S I L) k216_88_6 (rfl)) (Eq.trans (p_iald f216_98 rfl h2 h3) (Eq.trans (p_iast f216_99 rfl (by decide) h2) (Eq.trans (Run_blk (pc' := 110) (ls' := [vr 92, vi x1]) (st' := [vi x1, vr 127, vi x1, vr 96]) (σ' := S (up I 95 x1.toNat v1) L) k216_100_6 (rfl)) (Eq.trans (p_iald f216_110 rfl h2 h4) (Eq.trans (p_iast f216_111 rfl (by decide) h2) (Eq.trans (Run_blk (pc' := 122) (ls' := [vr 92, vi x1]) (st' := [vi x1, vr 128, vi x1, vr 97]) (σ' := S (up (up I 95 x1.toNat v1) 96 x1.toNat v2) L) k216_112_6 (rfl)) (Eq.trans (p_iald f216_122 rfl h2 h5) (Eq.trans (p_iast f216_123 rfl (by decide) h2) (Eq.trans (Run_blk (pc' := 134) (ls' := [vr 92, vi x1]) (st' := [vi x1, vr 129, vi x1, vr 98]) (σ' := S (up (up (up I 95 x1.toNat v1) 96 x1.toNat v2) 97 x1.toNat v3) L) k216_124_6 (rfl)) (Eq.trans (p_iald f216_134 rfl h2 h6) (Eq.trans (p_iast f216_135 rfl (by decide) h2) (Eq.trans (Run_blk (pc' := 146) (ls' := [vr 92, vi x1]) (st' := [vi x1, vr 130, vi x1, vr 99]) (σ' := S (up (up (up (up I 95 x1.toNat v1) 96 x1.toNat v2) 97 x1.toNat v3) 98 x1.toNat v4) L) k216_136_6 (rfl)) (Eq.trans (p_iald f216_146 rfl h2 h7) (Eq.trans (p_iast f216_147 rfl (by decide) h2) (Eq.trans (Run_blk (pc' := 158) (ls' := [vr 92, vi x1]) (st' := [vi x1, vr 131, vi x1, vr 100]) (σ' := S (up (up (up (up (up I 95 x1.toNat v1) 96 x1.toNat v2) 97 x1.toNat v3) 98 x1.toNat v4) 99 x1.toNat v5) L) k216_148_6 (rfl)) (Eq.trans (p_iald f216_158 rfl h2 h8) (Eq.trans (p_iast f216_159 rfl (by decide) h2) (Eq.trans (Run_blk (pc' := 170) (ls' := [vr 92, vi x1]) (st' := [vi x1, vr 132, vi x1, vr 101]) (σ' := S (up (up (up (up (up (up I 95 x1.toNat v1) 96 x1.toNat v2) 97 x1.toNat v3) 98 x1.toNat v4) 99 x1.toNat v5) 100 x1.toNat v6) L) k216_160_6 (rfl)) (Eq.trans (p_iald f216_170 rfl h2 h9) (Eq.trans (p_iast f216_171 rfl (by decide) h2) (Eq.trans (Run_blk (pc' := 182) (ls' := [vr 92, vi x1]) (st' := [vi x1, vr 133, vi x1, vr 102]) (σ' := S (up (up (up (up (up (up (up I 95 x1.toNat v1) 96 x1.toNat v2) 97 x1.toNat v3) 98 x1.toNat v4) 99 x1.toNat v5) 100 x1.toNat v6) 101 x1.toNat v7) L) k216_172_6 (rfl)) (Eq.trans (p_iald f216_182 rfl h2 h10) (Eq.trans (p_iast f216_183 rfl (by decide) h2) (Eq.trans (Run_blk (pc' := 194) (ls' := [vr 92, vi x1]) (st' := [vi x1, vr 134, vi x1, vr 103]) (σ' := S (up (up (up (up (up (up (up (up I 95 x1.toNat v1) 96 x1.toNat v2) 97 x1.toNat v3) 98 x1.toNat v4) 99 x1.toNat v5) 100 x1.toNat v6) 101 x1.toNat v7) 102 x1.toNat v8) L) k216_184_6 (rfl)) (Eq.trans (p_iald f216_194 rfl h2 h11) (Eq.trans (p_iast f216_195 rfl (by decide) h2) (Eq.trans (Run_blk (pc' := 206) (ls' := [vr 92, vi x1]) (st' := [vi x1, vr 135, vi x1, vr 104]) (σ' := S (up (up (up (up (up (up (up (up (up I 95 x1.toNat v1) 96 x1.toNat v2) 97 x1.toNat v3) 98 x1.toNat v4) 99 x1.toNat v5) 100 x1.toNat v6) 101 x1.toNat v7) 102 x1.toNat v8) 103 x1.toNat v9) L) k216_196_6 (rfl)) (Eq.trans (p_iald f216_206 rfl h2 h12) (Eq.trans (p_iast f216_207 rfl (by decide) h2) (Eq.trans (Run_blk (pc' := 211) (ls' := [vr 92, vi v11]) (st' := []) (σ' := S (up (up (up (up (up (up (up (up (up (up I 95 x1.toNat v1) 96 x1.toNat v2) 97 x1.toNat v3) 98 x1.toNat v4) 99 x1.toNat v5) 100 x1.toNat v6) 101 x1.toNat v7) 102 x1.toNat v8) 103 x1.toNat v9) 104 x1.toNat v10) L) k216_208_1 (by subst h13; rfl)) (Eq.trans (Run_blk (pc' := 82) (ls' := [vr 92, vi v11]) (st' := []) (σ' := S (up (up (up (up (up (up (up (up (up (up I 95 x1.toNat v1) 96 x1.toNat v2) 97 x1.toNat v3) 98 x1.toNat v4) 99 x1.toNat v5) 100 x1.toNat v6) 101 x1.toNat v7) 102 x1.toNat v8) 103 x1.toNat v9) 104 x1.toNat v10) L) k216_211_1 (rfl)) (rfl))))))))))))))))))))))))))))))))))
theorem y216_216_1 {F : Cal} {x1 v1 : Int} {I L : Fn} (h1 : 12 ≤ x1) (h2 : (I 92 2) = v1) : y216_216 F x1 I L = some (some (vi v1), S I L) :=
  Eq.trans (Run_blk (pc' := 219) (ls' := [vr 92, vi x1]) (st' := [vi 12, vi x1]) (σ' := S I L) k216_216_2 (rfl)) (Eq.trans (p_ic f216_219 (decide_eq_true h1)) (Eq.trans (Run_blk (pc' := 244) (ls' := [vr 92, vi x1]) (st' := [vi (I 92 2)]) (σ' := S I L) k216_240_2 (rfl)) (Eq.trans (p_nm h2) (p_ri f216_244 rfl))))
theorem y216_216_2 {F : Cal} {x1 v1 v2 : Int} {I L : Fn} (h1 : x1 < 12) (h2 : 0 ≤ x1 ∧ x1 < 12) (h3 : I 136 x1.toNat = v1) (h4 : w32 (x1 + 1) = v2) : y216_216 F x1 I L = y216_216 F v2 (up I 123 x1.toNat v1) L :=
  Eq.trans (Run_blk (pc' := 219) (ls' := [vr 92, vi x1]) (st' := [vi 12, vi x1]) (σ' := S I L) k216_216_2 (rfl)) (Eq.trans (p_icn f216_219 (decide_eq_false (Int.not_le.mpr h1))) (Eq.trans (Run_blk (pc' := 232) (ls' := [vr 92, vi x1]) (st' := [vi x1, vr 136, vi x1, vr 123]) (σ' := S I L) k216_222_6 (rfl)) (Eq.trans (p_iald f216_232 rfl h2 h3) (Eq.trans (p_iast f216_233 rfl (by decide) h2) (Eq.trans (Run_blk (pc' := 237) (ls' := [vr 92, vi v2]) (st' := []) (σ' := S (up I 123 x1.toNat v1) L) k216_234_1 (by subst h4; rfl)) (Eq.trans (Run_blk (pc' := 216) (ls' := [vr 92, vi v2]) (st' := []) (σ' := S (up I 123 x1.toNat v1) L) k216_237_1 (rfl)) (rfl)))))))
def lv_217 : List (Nat × Nat) := [(0, 15), (1, 15), (2, 15), (5, 15), (6, 15), (7, 15), (10, 15), (13, 15), (14, 15), (15, 15), (16, 15), (17, 15), (20, 15), (25, 15), (26, 15), (29, 11), (30, 10), (31, 8), (38, 15), (39, 11), (40, 11), (43, 11), (44, 10), (45, 8), (52, 11), (53, 10), (54, 8)]
theorem okl_217 : okL lv_217 (cde 217) = true := by decide +kernel
def g217_0_5 : List (Jvm.ClassFile.Instr × Nat) := [(.aload 0, 1), (.iconst 0, 1), (.putfield 11610, 3), (.aload 0, 1), (.iload 1, 1)]
theorem k217_0_5 : okB (cde 217) 0 g217_0_5 = true := by decide +kernel
theorem f217_7 : fch (cde 217) 7 = some (.invokestatic 149, 3) := by decide +kernel
theorem f217_10 : fch (cde 217) 10 = some (.ifCond .eq 23, 3) := by decide +kernel
def g217_23_1 : List (Jvm.ClassFile.Instr × Nat) := [(.iconst 0, 1)]
theorem k217_23_1 : okB (cde 217) 23 g217_23_1 = true := by decide +kernel
theorem f217_24 : fch (cde 217) 24 = some (.ireturn, 1) := by decide +kernel
def g217_13_4 : List (Jvm.ClassFile.Instr × Nat) := [(.aload 0, 1), (.iload 2, 1), (.iconst 0, 1), (.iconst 2, 1)]
theorem k217_13_4 : okB (cde 217) 13 g217_13_4 = true := by decide +kernel
theorem f217_17 : fch (cde 217) 17 = some (.invokestatic 143, 3) := by decide +kernel
theorem f217_20 : fch (cde 217) 20 = some (.ifCond .ne 25, 3) := by decide +kernel
def g217_25_1 : List (Jvm.ClassFile.Instr × Nat) := [(.iload 2, 1)]
theorem k217_25_1 : okB (cde 217) 25 g217_25_1 = true := by decide +kernel
theorem f217_26 : fch (cde 217) 26 = some (.ifCond .ne 38, 3) := by decide +kernel
def g217_38_2 : List (Jvm.ClassFile.Instr × Nat) := [(.iload 2, 1), (.iconst 1, 1)]
theorem k217_38_2 : okB (cde 217) 38 g217_38_2 = true := by decide +kernel
theorem f217_40 : fch (cde 217) 40 = some (.if_icmp .ne 52, 3) := by decide +kernel
def g217_52_3 : List (Jvm.ClassFile.Instr × Nat) := [(.aload 0, 1), (.iload 1, 1), (.iload 3, 1)]
theorem k217_52_3 : okB (cde 217) 52 g217_52_3 = true := by decide +kernel
theorem f217_55 : fch (cde 217) 55 = some (.invokestatic 224, 3) := by decide +kernel
theorem f217_58 : fch (cde 217) 58 = some (.ireturn, 1) := by decide +kernel
def g217_43_3 : List (Jvm.ClassFile.Instr × Nat) := [(.aload 0, 1), (.iload 1, 1), (.iload 3, 1)]
theorem k217_43_3 : okB (cde 217) 43 g217_43_3 = true := by decide +kernel
theorem f217_46 : fch (cde 217) 46 = some (.invokestatic 221, 3) := by decide +kernel
def g217_49_1 : List (Jvm.ClassFile.Instr × Nat) := [(.goto 58, 3)]
theorem k217_49_1 : okB (cde 217) 49 g217_49_1 = true := by decide +kernel
def g217_29_3 : List (Jvm.ClassFile.Instr × Nat) := [(.aload 0, 1), (.iload 1, 1), (.iload 3, 1)]
theorem k217_29_3 : okB (cde 217) 29 g217_29_3 = true := by decide +kernel
theorem f217_32 : fch (cde 217) 32 = some (.invokestatic 218, 3) := by decide +kernel
def g217_35_1 : List (Jvm.ClassFile.Instr × Nat) := [(.goto 58, 3)]
theorem k217_35_1 : okB (cde 217) 35 g217_35_1 = true := by decide +kernel
theorem e217_1 {d : Nat} {a1 a2 a3 v2 : Int} {I1 L1 : Fn} {I L : Fn} (h1 : (CallD d) 149 [vr 92, vi a1] (S (up I 92 61 0) L) = some (some (vi v2), S I1 L1)) (h2 : v2 = 0) : CallD (d + 1) 217 [vr 92, vi a1, vi a2, vi a3] (S I L) = some (some (vi 0), S I1 L1) :=
  Eq.trans (Call_eq rfl (ls := [vr 92, vi a1, vi a2, vi a3]) rfl) (Eq.trans (Run_blk (pc' := 7) (ls' := [vr 92, vi a1, vi a2, vi a3]) (st' := [vi a1, vr 92]) (σ' := S (up I 92 61 0) L) k217_0_5 (rfl)) (Eq.trans (p_call f217_7 (as := [vr 92, vi a1]) (r := []) rfl rfl (rfl) h1) (Eq.trans (p_if f217_10 (decide_eq_true h2)) (Eq.trans (Run_blk (pc' := 24) (ls' := [vr 92, vi a1, vi a2, vi a3]) (st' := [vi 0]) (σ' := S I1 L1) k217_23_1 (rfl)) (p_ri f217_24 rfl)))))
theorem e217_2 {d : Nat} {a1 a2 a3 v2 v4 v6 : Int} {I1 L1 I3 L3 I5 L5 : Fn} {I L : Fn} (h1 : (CallD d) 149 [vr 92, vi a1] (S (up I 92 61 0) L) = some (some (vi v2), S I1 L1)) (h2 : ¬ v2 = 0) (h3 : (CallD d) 143 [vr 92, vi a2, vi 0, vi 2] (S I1 L1) = some (some (vi v4), S I3 L3)) (h4 : ¬ v4 = 0) (h5 : ¬ a2 = 0) (h6 : ¬ a2 = 1) (h7 : (CallD d) 224 [vr 92, vi a1, vi a3] (S I3 L3) = some (some (vi v6), S I5 L5)) : CallD (d + 1) 217 [vr 92, vi a1, vi a2, vi a3] (S I L) = some (some (vi v6), S I5 L5) :=
  Eq.trans (Call_eq rfl (ls := [vr 92, vi a1, vi a2, vi a3]) rfl) (Eq.trans (Run_blk (pc' := 7) (ls' := [vr 92, vi a1, vi a2, vi a3]) (st' := [vi a1, vr 92]) (σ' := S (up I 92 61 0) L) k217_0_5 (rfl)) (Eq.trans (p_call f217_7 (as := [vr 92, vi a1]) (r := []) rfl rfl (rfl) h1) (Eq.trans (p_ifn f217_10 (decide_eq_false h2)) (Eq.trans (Run_blk (pc' := 17) (ls' := [vr 92, vi a1, vi a2, vi a3]) (st' := [vi 2, vi 0, vi a2, vr 92]) (σ' := S I1 L1) k217_13_4 (rfl)) (Eq.trans (p_call f217_17 (as := [vr 92, vi a2, vi 0, vi 2]) (r := []) rfl rfl (rfl) h3) (Eq.trans (p_if f217_20 (decide_eq_true h4)) (Eq.trans (Run_blk (pc' := 26) (ls' := [vr 92, vi a1, vi a2, vi a3]) (st' := [vi a2]) (σ' := S I3 L3) k217_25_1 (rfl)) (Eq.trans (p_if f217_26 (decide_eq_true h5)) (Eq.trans (Run_blk (pc' := 40) (ls' := [vr 92, vi a1, vi a2, vi a3]) (st' := [vi 1, vi a2]) (σ' := S I3 L3) k217_38_2 (rfl)) (Eq.trans (p_ic f217_40 (decide_eq_true h6)) (Eq.trans (Run_blk (pc' := 55) (ls' := [vr 92, vi a1, vi a2, vi a3]) (st' := [vi a3, vi a1, vr 92]) (σ' := S I3 L3) k217_52_3 (rfl)) (Eq.trans (p_call f217_55 (as := [vr 92, vi a1, vi a3]) (r := []) rfl rfl (rfl) h7) (p_ri f217_58 rfl)))))))))))))
theorem e217_3 {d : Nat} {a1 a2 a3 v2 v4 v6 : Int} {I1 L1 I3 L3 I5 L5 : Fn} {I L : Fn} (h1 : (CallD d) 149 [vr 92, vi a1] (S (up I 92 61 0) L) = some (some (vi v2), S I1 L1)) (h2 : ¬ v2 = 0) (h3 : (CallD d) 143 [vr 92, vi a2, vi 0, vi 2] (S I1 L1) = some (some (vi v4), S I3 L3)) (h4 : ¬ v4 = 0) (h5 : ¬ a2 = 0) (h6 : a2 = 1) (h7 : (CallD d) 221 [vr 92, vi a1, vi a3] (S I3 L3) = some (some (vi v6), S I5 L5)) : CallD (d + 1) 217 [vr 92, vi a1, vi a2, vi a3] (S I L) = some (some (vi v6), S I5 L5) :=
  Eq.trans (Call_eq rfl (ls := [vr 92, vi a1, vi a2, vi a3]) rfl) (Eq.trans (Run_blk (pc' := 7) (ls' := [vr 92, vi a1, vi a2, vi a3]) (st' := [vi a1, vr 92]) (σ' := S (up I 92 61 0) L) k217_0_5 (rfl)) (Eq.trans (p_call f217_7 (as := [vr 92, vi a1]) (r := []) rfl rfl (rfl) h1) (Eq.trans (p_ifn f217_10 (decide_eq_false h2)) (Eq.trans (Run_blk (pc' := 17) (ls' := [vr 92, vi a1, vi a2, vi a3]) (st' := [vi 2, vi 0, vi a2, vr 92]) (σ' := S I1 L1) k217_13_4 (rfl)) (Eq.trans (p_call f217_17 (as := [vr 92, vi a2, vi 0, vi 2]) (r := []) rfl rfl (rfl) h3) (Eq.trans (p_if f217_20 (decide_eq_true h4)) (Eq.trans (Run_blk (pc' := 26) (ls' := [vr 92, vi a1, vi a2, vi a3]) (st' := [vi a2]) (σ' := S I3 L3) k217_25_1 (rfl)) (Eq.trans (p_if f217_26 (decide_eq_true h5)) (Eq.trans (Run_blk (pc' := 40) (ls' := [vr 92, vi a1, vi a2, vi a3]) (st' := [vi 1, vi a2]) (σ' := S I3 L3) k217_38_2 (rfl)) (Eq.trans (p_icn f217_40 (decide_eq_false (not_not_intro h6))) (Eq.trans (Run_blk (pc' := 46) (ls' := [vr 92, vi a1, vi a2, vi a3]) (st' := [vi a3, vi a1, vr 92]) (σ' := S I3 L3) k217_43_3 (rfl)) (Eq.trans (p_call f217_46 (as := [vr 92, vi a1, vi a3]) (r := []) rfl rfl (rfl) h7) (Eq.trans (Run_blk (pc' := 58) (ls' := [vr 92, vi a1, vi a2, vi a3]) (st' := [vi v6]) (σ' := S I5 L5) k217_49_1 (rfl)) (p_ri f217_58 rfl))))))))))))))
theorem e217_4 {d : Nat} {a1 a2 a3 v2 v4 v6 : Int} {I1 L1 I3 L3 I5 L5 : Fn} {I L : Fn} (h1 : (CallD d) 149 [vr 92, vi a1] (S (up I 92 61 0) L) = some (some (vi v2), S I1 L1)) (h2 : ¬ v2 = 0) (h3 : (CallD d) 143 [vr 92, vi a2, vi 0, vi 2] (S I1 L1) = some (some (vi v4), S I3 L3)) (h4 : ¬ v4 = 0) (h5 : a2 = 0) (h6 : (CallD d) 218 [vr 92, vi a1, vi a3] (S I3 L3) = some (some (vi v6), S I5 L5)) : CallD (d + 1) 217 [vr 92, vi a1, vi a2, vi a3] (S I L) = some (some (vi v6), S I5 L5) :=
  Eq.trans (Call_eq rfl (ls := [vr 92, vi a1, vi a2, vi a3]) rfl) (Eq.trans (Run_blk (pc' := 7) (ls' := [vr 92, vi a1, vi a2, vi a3]) (st' := [vi a1, vr 92]) (σ' := S (up I 92 61 0) L) k217_0_5 (rfl)) (Eq.trans (p_call f217_7 (as := [vr 92, vi a1]) (r := []) rfl rfl (rfl) h1) (Eq.trans (p_ifn f217_10 (decide_eq_false h2)) (Eq.trans (Run_blk (pc' := 17) (ls' := [vr 92, vi a1, vi a2, vi a3]) (st' := [vi 2, vi 0, vi a2, vr 92]) (σ' := S I1 L1) k217_13_4 (rfl)) (Eq.trans (p_call f217_17 (as := [vr 92, vi a2, vi 0, vi 2]) (r := []) rfl rfl (rfl) h3) (Eq.trans (p_if f217_20 (decide_eq_true h4)) (Eq.trans (Run_blk (pc' := 26) (ls' := [vr 92, vi a1, vi a2, vi a3]) (st' := [vi a2]) (σ' := S I3 L3) k217_25_1 (rfl)) (Eq.trans (p_ifn f217_26 (decide_eq_false (not_not_intro h5))) (Eq.trans (Run_blk (pc' := 32) (ls' := [vr 92, vi a1, vi a2, vi a3]) (st' := [vi a3, vi a1, vr 92]) (σ' := S I3 L3) k217_29_3 (rfl)) (Eq.trans (p_call f217_32 (as := [vr 92, vi a1, vi a3]) (r := []) rfl rfl (rfl) h6) (Eq.trans (Run_blk (pc' := 58) (ls' := [vr 92, vi a1, vi a2, vi a3]) (st' := [vi v6]) (σ' := S I5 L5) k217_35_1 (rfl)) (p_ri f217_58 rfl))))))))))))
theorem e217_5 {d : Nat} {a1 a2 a3 v2 v4 : Int} {I1 L1 I3 L3 : Fn} {I L : Fn} (h1 : (CallD d) 149 [vr 92, vi a1] (S (up I 92 61 0) L) = some (some (vi v2), S I1 L1)) (h2 : ¬ v2 = 0) (h3 : (CallD d) 143 [vr 92, vi a2, vi 0, vi 2] (S I1 L1) = some (some (vi v4), S I3 L3)) (h4 : v4 = 0) : CallD (d + 1) 217 [vr 92, vi a1, vi a2, vi a3] (S I L) = some (some (vi 0), S I3 L3) :=
  Eq.trans (Call_eq rfl (ls := [vr 92, vi a1, vi a2, vi a3]) rfl) (Eq.trans (Run_blk (pc' := 7) (ls' := [vr 92, vi a1, vi a2, vi a3]) (st' := [vi a1, vr 92]) (σ' := S (up I 92 61 0) L) k217_0_5 (rfl)) (Eq.trans (p_call f217_7 (as := [vr 92, vi a1]) (r := []) rfl rfl (rfl) h1) (Eq.trans (p_ifn f217_10 (decide_eq_false h2)) (Eq.trans (Run_blk (pc' := 17) (ls' := [vr 92, vi a1, vi a2, vi a3]) (st' := [vi 2, vi 0, vi a2, vr 92]) (σ' := S I1 L1) k217_13_4 (rfl)) (Eq.trans (p_call f217_17 (as := [vr 92, vi a2, vi 0, vi 2]) (r := []) rfl rfl (rfl) h3) (Eq.trans (p_ifn f217_20 (decide_eq_false (not_not_intro h4))) (Eq.trans (Run_blk (pc' := 24) (ls' := [vr 92, vi a1, vi a2, vi a3]) (st' := [vi 0]) (σ' := S I3 L3) k217_23_1 (rfl)) (p_ri f217_24 rfl))))))))
def lv_218 : List (Nat × Nat) := [(0, 7), (1, 7), (4, 7), (5, 7), (6, 7), (40, 7), (41, 7), (43, 7), (46, 7), (47, 6), (48, 4), (55, 7), (56, 7), (58, 7), (61, 7), (62, 6), (63, 4), (69, 7), (70, 7), (72, 7), (75, 7), (76, 7), (77, 7), (78, 3), (81, 3), (82, 2), (85, 2), (89, 7), (90, 6), (91, 4)]
theorem okl_218 : okL lv_218 (cde 218) = true := by decide +kernel
def g218_0_3 : List (Jvm.ClassFile.Instr × Nat) := [(.aload 0, 1), (.getfield 11042, 3), (.iload 1, 1)]
theorem k218_0_3 : okB (cde 218) 0 g218_0_3 = true := by decide +kernel
theorem f218_5 : fch (cde 218) 5 = some (.iaload, 1) := by decide +kernel
theorem f218_6 : fch (cde 218) 6 = some (.lookupswitch 89 #[(2, 40), (3, 89), (4, 55), (5, 40), (6, 69)], 34) := by decide +kernel
def g218_40_2 : List (Jvm.ClassFile.Instr × Nat) := [(.aload 0, 1), (.iconst 30, 2)]
theorem k218_40_2 : okB (cde 218) 40 g218_40_2 = true := by decide +kernel
theorem f218_43 : fch (cde 218) 43 = some (.invokestatic 219, 3) := by decide +kernel
def g218_46_5 : List (Jvm.ClassFile.Instr × Nat) := [(.aload 0, 1), (.iload 1, 1), (.iload 2, 1), (.iconst 3, 1), (.imul, 1)]
theorem k218_46_5 : okB (cde 218) 46 g218_46_5 = true := by decide +kernel
theorem f218_51 : fch (cde 218) 51 = some (.invokestatic 220, 3) := by decide +kernel
theorem f218_54 : fch (cde 218) 54 = some (.ireturn, 1) := by decide +kernel
def g218_89_3 : List (Jvm.ClassFile.Instr × Nat) := [(.aload 0, 1), (.iload 1, 1), (.iload 2, 1)]
theorem k218_89_3 : okB (cde 218) 89 g218_89_3 = true := by decide +kernel
theorem f218_92 : fch (cde 218) 92 = some (.invokestatic 220, 3) := by decide +kernel
theorem f218_95 : fch (cde 218) 95 = some (.ireturn, 1) := by decide +kernel
def g218_55_2 : List (Jvm.ClassFile.Instr × Nat) := [(.aload 0, 1), (.iconst 50, 2)]
theorem k218_55_2 : okB (cde 218) 55 g218_55_2 = true := by decide +kernel
theorem f218_58 : fch (cde 218) 58 = some (.invokestatic 219, 3) := by decide +kernel
def g218_61_3 : List (Jvm.ClassFile.Instr × Nat) := [(.aload 0, 1), (.iload 1, 1), (.iload 2, 1)]
theorem k218_61_3 : okB (cde 218) 61 g218_61_3 = true := by decide +kernel
theorem f218_64 : fch (cde 218) 64 = some (.invokestatic 220, 3) := by decide +kernel
def g218_67_1 : List (Jvm.ClassFile.Instr × Nat) := [(.ineg, 1)]
theorem k218_67_1 : okB (cde 218) 67 g218_67_1 = true := by decide +kernel
theorem f218_68 : fch (cde 218) 68 = some (.ireturn, 1) := by decide +kernel
def g218_69_2 : List (Jvm.ClassFile.Instr × Nat) := [(.aload 0, 1), (.iconst 71, 2)]
theorem k218_69_2 : okB (cde 218) 69 g218_69_2 = true := by decide +kernel
theorem f218_72 : fch (cde 218) 72 = some (.invokestatic 219, 3) := by decide +kernel
def g218_75_3 : List (Jvm.ClassFile.Instr × Nat) := [(.aload 0, 1), (.iload 1, 1), (.iload 2, 1)]
theorem k218_75_3 : okB (cde 218) 75 g218_75_3 = true := by decide +kernel
theorem f218_78 : fch (cde 218) 78 = some (.invokestatic 220, 3) := by decide +kernel
def g218_81_3 : List (Jvm.ClassFile.Instr × Nat) := [(.aload 0, 1), (.getfield 11052, 3), (.iload 1, 1)]
theorem k218_81_3 : okB (cde 218) 81 g218_81_3 = true := by decide +kernel
theorem f218_86 : fch (cde 218) 86 = some (.iaload, 1) := by decide +kernel
def g218_87_1 : List (Jvm.ClassFile.Instr × Nat) := [(.ixor, 1)]
theorem k218_87_1 : okB (cde 218) 87 g218_87_1 = true := by decide +kernel
theorem f218_88 : fch (cde 218) 88 = some (.ireturn, 1) := by decide +kernel
theorem e218_1 {d : Nat} {a1 a2 v1 v3 v5 : Int} {I2 L2 I4 L4 : Fn} {I L : Fn} (h1 : 0 ≤ a1 ∧ a1 < 6) (h2 : I 95 a1.toNat = v1) (h3 : v1 = 2) (h4 : (CallD d) 219 [vr 92, vi 30] (S I L) = some (none, S I2 L2)) (h5 : (w32 (a2 * 3)) = v3) (h6 : (CallD d) 220 [vr 92, vi a1, vi v3] (S I2 L2) = some (some (vi v5), S I4 L4)) : CallD (d + 1) 218 [vr 92, vi a1, vi a2] (S I L) = some (some (vi v5), S I4 L4) :=
  Eq.trans (Call_eq rfl (ls := [vr 92, vi a1, vi a2]) rfl) (Eq.trans (Run_blk (pc' := 5) (ls' := [vr 92, vi a1, vi a2]) (st' := [vi a1, vr 95]) (σ' := S I L) k218_0_3 (rfl)) (Eq.trans (p_iald f218_5 rfl h1 h2) (Eq.trans (p_sw (t := 40) f218_6 (swt_eq h3)) (Eq.trans (Run_blk (pc' := 43) (ls' := [vr 92, vi a1, vi a2]) (st' := [vi 30, vr 92]) (σ' := S I L) k218_40_2 (rfl)) (Eq.trans (p_call f218_43 (as := [vr 92, vi 30]) (r := []) rfl rfl (rfl) h4) (Eq.trans (Run_blk (pc' := 51) (ls' := [vr 92, vi a1, vi a2]) (st' := [vi (w32 (a2 * 3)), vi a1, vr 92]) (σ' := S I2 L2) k218_46_5 (rfl)) (Eq.trans (p_nm h5) (Eq.trans (p_call f218_51 (as := [vr 92, vi a1, vi v3]) (r := []) rfl rfl (rfl) h6) (p_ri f218_54 rfl)))))))))
theorem e218_2 {d : Nat} {a1 a2 v1 v3 : Int} {I2 L2 : Fn} {I L : Fn} (h1 : 0 ≤ a1 ∧ a1 < 6) (h2 : I 95 a1.toNat = v1) (h3 : v1 = 3) (h4 : (CallD d) 220 [vr 92, vi a1, vi a2] (S I L) = some (some (vi v3), S I2 L2)) : CallD (d + 1) 218 [vr 92, vi a1, vi a2] (S I L) = some (some (vi v3), S I2 L2) :=
  Eq.trans (Call_eq rfl (ls := [vr 92, vi a1, vi a2]) rfl) (Eq.trans (Run_blk (pc' := 5) (ls' := [vr 92, vi a1, vi a2]) (st' := [vi a1, vr 95]) (σ' := S I L) k218_0_3 (rfl)) (Eq.trans (p_iald f218_5 rfl h1 h2) (Eq.trans (p_sw (t := 89) f218_6 (swt_ne (by omega) (swt_eq h3))) (Eq.trans (Run_blk (pc' := 92) (ls' := [vr 92, vi a1, vi a2]) (st' := [vi a2, vi a1, vr 92]) (σ' := S I L) k218_89_3 (rfl)) (Eq.trans (p_call f218_92 (as := [vr 92, vi a1, vi a2]) (r := []) rfl rfl (rfl) h4) (p_ri f218_95 rfl))))))
theorem e218_3 {d : Nat} {a1 a2 v1 v4 v5 : Int} {I2 L2 I3 L3 : Fn} {I L : Fn} (h1 : 0 ≤ a1 ∧ a1 < 6) (h2 : I 95 a1.toNat = v1) (h3 : v1 = 4) (h4 : (CallD d) 219 [vr 92, vi 50] (S I L) = some (none, S I2 L2)) (h5 : (CallD d) 220 [vr 92, vi a1, vi a2] (S I2 L2) = some (some (vi v4), S I3 L3)) (h6 : (w32 (-v4)) = v5) : CallD (d + 1) 218 [vr 92, vi a1, vi a2] (S I L) = some (some (vi v5), S I3 L3) :=
  Eq.trans (Call_eq rfl (ls := [vr 92, vi a1, vi a2]) rfl) (Eq.trans (Run_blk (pc' := 5) (ls' := [vr 92, vi a1, vi a2]) (st' := [vi a1, vr 95]) (σ' := S I L) k218_0_3 (rfl)) (Eq.trans (p_iald f218_5 rfl h1 h2) (Eq.trans (p_sw (t := 55) f218_6 (swt_ne (by omega) (swt_ne (by omega) (swt_eq h3)))) (Eq.trans (Run_blk (pc' := 58) (ls' := [vr 92, vi a1, vi a2]) (st' := [vi 50, vr 92]) (σ' := S I L) k218_55_2 (rfl)) (Eq.trans (p_call f218_58 (as := [vr 92, vi 50]) (r := []) rfl rfl (rfl) h4) (Eq.trans (Run_blk (pc' := 64) (ls' := [vr 92, vi a1, vi a2]) (st' := [vi a2, vi a1, vr 92]) (σ' := S I2 L2) k218_61_3 (rfl)) (Eq.trans (p_call f218_64 (as := [vr 92, vi a1, vi a2]) (r := []) rfl rfl (rfl) h5) (Eq.trans (Run_blk (pc' := 68) (ls' := [vr 92, vi a1, vi a2]) (st' := [vi (w32 (-v4))]) (σ' := S I3 L3) k218_67_1 (rfl)) (Eq.trans (p_nm h6) (p_ri f218_68 rfl))))))))))
theorem e218_4 {d : Nat} {a1 a2 v1 v3 v5 : Int} {I2 L2 I4 L4 : Fn} {I L : Fn} (h1 : 0 ≤ a1 ∧ a1 < 6) (h2 : I 95 a1.toNat = v1) (h3 : v1 = 5) (h4 : (CallD d) 219 [vr 92, vi 30] (S I L) = some (none, S I2 L2)) (h5 : (w32 (a2 * 3)) = v3) (h6 : (CallD d) 220 [vr 92, vi a1, vi v3] (S I2 L2) = some (some (vi v5), S I4 L4)) : CallD (d + 1) 218 [vr 92, vi a1, vi a2] (S I L) = some (some (vi v5), S I4 L4) :=
  Eq.trans (Call_eq rfl (ls := [vr 92, vi a1, vi a2]) rfl) (Eq.trans (Run_blk (pc' := 5) (ls' := [vr 92, vi a1, vi a2]) (st' := [vi a1, vr 95]) (σ' := S I L) k218_0_3 (rfl)) (Eq.trans (p_iald f218_5 rfl h1 h2) (Eq.trans (p_sw (t := 40) f218_6 (swt_ne (by omega) (swt_ne (by omega) (swt_ne (by omega) (swt_eq h3))))) (Eq.trans (Run_blk (pc' := 43) (ls' := [vr 92, vi a1, vi a2]) (st' := [vi 30, vr 92]) (σ' := S I L) k218_40_2 (rfl)) (Eq.trans (p_call f218_43 (as := [vr 92, vi 30]) (r := []) rfl rfl (rfl) h4) (Eq.trans (Run_blk (pc' := 51) (ls' := [vr 92, vi a1, vi a2]) (st' := [vi (w32 (a2 * 3)), vi a1, vr 92]) (σ' := S I2 L2) k218_46_5 (rfl)) (Eq.trans (p_nm h5) (Eq.trans (p_call f218_51 (as := [vr 92, vi a1, vi v3]) (r := []) rfl rfl (rfl) h6) (p_ri f218_54 rfl)))))))))
theorem e218_5 {d : Nat} {a1 a2 v1 v4 v5 v6 : Int} {I2 L2 I3 L3 : Fn} {I L : Fn} (h1 : 0 ≤ a1 ∧ a1 < 6) (h2 : I 95 a1.toNat = v1) (h3 : v1 = 6) (h4 : (CallD d) 219 [vr 92, vi 71] (S I L) = some (none, S I2 L2)) (h5 : (CallD d) 220 [vr 92, vi a1, vi a2] (S I2 L2) = some (some (vi v4), S I3 L3)) (h6 : I3 96 a1.toNat = v5) (h7 : (xor32 v4 v5) = v6) : CallD (d + 1) 218 [vr 92, vi a1, vi a2] (S I L) = some (some (vi v6), S I3 L3) :=
  Eq.trans (Call_eq rfl (ls := [vr 92, vi a1, vi a2]) rfl) (Eq.trans (Run_blk (pc' := 5) (ls' := [vr 92, vi a1, vi a2]) (st' := [vi a1, vr 95]) (σ' := S I L) k218_0_3 (rfl)) (Eq.trans (p_iald f218_5 rfl h1 h2) (Eq.trans (p_sw (t := 69) f218_6 (swt_ne (by omega) (swt_ne (by omega) (swt_ne (by omega) (swt_ne (by omega) (swt_eq h3)))))) (Eq.trans (Run_blk (pc' := 72) (ls' := [vr 92, vi a1, vi a2]) (st' := [vi 71, vr 92]) (σ' := S I L) k218_69_2 (rfl)) (Eq.trans (p_call f218_72 (as := [vr 92, vi 71]) (r := []) rfl rfl (rfl) h4) (Eq.trans (Run_blk (pc' := 78) (ls' := [vr 92, vi a1, vi a2]) (st' := [vi a2, vi a1, vr 92]) (σ' := S I2 L2) k218_75_3 (rfl)) (Eq.trans (p_call f218_78 (as := [vr 92, vi a1, vi a2]) (r := []) rfl rfl (rfl) h5) (Eq.trans (Run_blk (pc' := 86) (ls' := [vr 92, vi a1, vi a2]) (st' := [vi a1, vr 96, vi v4]) (σ' := S I3 L3) k218_81_3 (rfl)) (Eq.trans (p_iald f218_86 rfl h1 h6) (Eq.trans (Run_blk (pc' := 88) (ls' := [vr 92, vi a1, vi a2]) (st' := [vi (xor32 v4 v5)]) (σ' := S I3 L3) k218_87_1 (rfl)) (Eq.trans (p_nm h7) (p_ri f218_88 rfl))))))))))))
theorem e218_6 {d : Nat} {a1 a2 v1 v3 : Int} {I2 L2 : Fn} {I L : Fn} (h1 : 0 ≤ a1 ∧ a1 < 6) (h2 : I 95 a1.toNat = v1) (h3 : ¬ v1 = 2) (h4 : ¬ v1 = 3) (h5 : ¬ v1 = 4) (h6 : ¬ v1 = 5) (h7 : ¬ v1 = 6) (h8 : (CallD d) 220 [vr 92, vi a1, vi a2] (S I L) = some (some (vi v3), S I2 L2)) : CallD (d + 1) 218 [vr 92, vi a1, vi a2] (S I L) = some (some (vi v3), S I2 L2) :=
  Eq.trans (Call_eq rfl (ls := [vr 92, vi a1, vi a2]) rfl) (Eq.trans (Run_blk (pc' := 5) (ls' := [vr 92, vi a1, vi a2]) (st' := [vi a1, vr 95]) (σ' := S I L) k218_0_3 (rfl)) (Eq.trans (p_iald f218_5 rfl h1 h2) (Eq.trans (p_sw (t := 89) f218_6 (swt_ne h3 (swt_ne h4 (swt_ne h5 (swt_ne h6 (swt_ne h7 (rfl))))))) (Eq.trans (Run_blk (pc' := 92) (ls' := [vr 92, vi a1, vi a2]) (st' := [vi a2, vi a1, vr 92]) (σ' := S I L) k218_89_3 (rfl)) (Eq.trans (p_call f218_92 (as := [vr 92, vi a1, vi a2]) (r := []) rfl rfl (rfl) h8) (p_ri f218_95 rfl))))))
def lv_219 : List (Nat × Nat) := [(0, 3), (1, 3), (4, 3), (6, 3), (9, 3), (10, 3), (13, 3), (14, 3), (17, 3), (18, 1), (19, 1)]
theorem okl_219 : okL lv_219 (cde 219) = true := by decide +kernel
def g219_0_2 : List (Jvm.ClassFile.Instr × Nat) := [(.aload 0, 1), (.getfield 11610, 3)]
theorem k219_0_2 : okB (cde 219) 0 g219_0_2 = true := by decide +kernel
def g219_4_1 : List (Jvm.ClassFile.Instr × Nat) := [(.iconst 20, 2)]
theorem k219_4_1 : okB (cde 219) 4 g219_4_1 = true := by decide +kernel
theorem f219_6 : fch (cde 219) 6 = some (.if_icmp .ge 19, 3) := by decide +kernel
def g219_19_3 : List (Jvm.ClassFile.Instr × Nat) := [(.aload 0, 1), (.dup, 1), (.getfield 11610, 3)]
theorem k219_19_3 : okB (cde 219) 19 g219_19_3 = true := by decide +kernel
def g219_24_2 : List (Jvm.ClassFile.Instr × Nat) := [(.iconst 1, 1), (.iadd, 1)]
theorem k219_24_2 : okB (cde 219) 24 g219_24_2 = true := by decide +kernel
def g219_26_1 : List (Jvm.ClassFile.Instr × Nat) := [(.putfield 11610, 3)]
theorem k219_26_1 : okB (cde 219) 26 g219_26_1 = true := by decide +kernel
theorem f219_29 : fch (cde 219) 29 = some (.return_, 1) := by decide +kernel
def g219_9_4 : List (Jvm.ClassFile.Instr × Nat) := [(.aload 0, 1), (.getfield 11622, 3), (.aload 0, 1), (.getfield 11610, 3)]
theorem k219_9_4 : okB (cde 219) 9 g219_9_4 = true := by decide +kernel
def g219_17_1 : List (Jvm.ClassFile.Instr × Nat) := [(.iload 1, 1)]
theorem k219_17_1 : okB (cde 219) 17 g219_17_1 = true := by decide +kernel
theorem f219_18 : fch (cde 219) 18 = some (.iastore, 1) := by decide +kernel
theorem e219_1 {d : Nat} {a1 v1 v2 : Int} {I L : Fn} (h1 : (I 92 61) = v1) (h2 : 20 ≤ v1) (h3 : (w32 (v1 + 1)) = v2) : CallD (d + 1) 219 [vr 92, vi a1] (S I L) = some (none, S (up I 92 61 v2) L) :=
  Eq.trans (Call_eq rfl (ls := [vr 92, vi a1]) rfl) (Eq.trans (Run_blk (pc' := 4) (ls' := [vr 92, vi a1]) (st' := [vi (I 92 61)]) (σ' := S I L) k219_0_2 (rfl)) (Eq.trans (p_nm h1) (Eq.trans (Run_blk (pc' := 6) (ls' := [vr 92, vi a1]) (st' := [vi 20, vi v1]) (σ' := S I L) k219_4_1 (rfl)) (Eq.trans (p_ic f219_6 (decide_eq_true h2)) (Eq.trans (Run_blk (pc' := 24) (ls' := [vr 92, vi a1]) (st' := [vi (I 92 61), vr 92]) (σ' := S I L) k219_19_3 (rfl)) (Eq.trans (p_nm h1) (Eq.trans (Run_blk (pc' := 26) (ls' := [vr 92, vi a1]) (st' := [vi (w32 (v1 + 1)), vr 92]) (σ' := S I L) k219_24_2 (rfl)) (Eq.trans (p_nm h3) (Eq.trans (Run_blk (pc' := 29) (ls' := [vr 92, vi a1]) (st' := []) (σ' := S (up I 92 61 v2) L) k219_26_1 (rfl)) (p_rv f219_29))))))))))
theorem e219_2 {d : Nat} {a1 v1 v2 : Int} {I L : Fn} (h1 : (I 92 61) = v1) (h2 : v1 < 20) (h3 : 0 ≤ v1 ∧ v1 < 20) (h4 : (w32 (v1 + 1)) = v2) : CallD (d + 1) 219 [vr 92, vi a1] (S I L) = some (none, S (up (up I 137 v1.toNat a1) 92 61 v2) L) :=
  Eq.trans (Call_eq rfl (ls := [vr 92, vi a1]) rfl) (Eq.trans (Run_blk (pc' := 4) (ls' := [vr 92, vi a1]) (st' := [vi (I 92 61)]) (σ' := S I L) k219_0_2 (rfl)) (Eq.trans (p_nm h1) (Eq.trans (Run_blk (pc' := 6) (ls' := [vr 92, vi a1]) (st' := [vi 20, vi v1]) (σ' := S I L) k219_4_1 (rfl)) (Eq.trans (p_icn f219_6 (decide_eq_false (Int.not_le.mpr h2))) (Eq.trans (Run_blk (pc' := 17) (ls' := [vr 92, vi a1]) (st' := [vi (I 92 61), vr 137]) (σ' := S I L) k219_9_4 (rfl)) (Eq.trans (p_nm h1) (Eq.trans (Run_blk (pc' := 18) (ls' := [vr 92, vi a1]) (st' := [vi a1, vi v1, vr 137]) (σ' := S I L) k219_17_1 (rfl)) (Eq.trans (p_iast f219_18 rfl (by decide) h3) (Eq.trans (Run_blk (pc' := 24) (ls' := [vr 92, vi a1]) (st' := [vi (I 92 61), vr 92]) (σ' := S (up I 137 v1.toNat a1) L) k219_19_3 (rfl)) (Eq.trans (p_nm h1) (Eq.trans (Run_blk (pc' := 26) (ls' := [vr 92, vi a1]) (st' := [vi (w32 (v1 + 1)), vr 92]) (σ' := S (up I 137 v1.toNat a1) L) k219_24_2 (rfl)) (Eq.trans (p_nm h4) (Eq.trans (Run_blk (pc' := 29) (ls' := [vr 92, vi a1]) (st' := []) (σ' := S (up (up I 137 v1.toNat a1) 92 61 v2) L) k219_26_1 (rfl)) (p_rv f219_29))))))))))))))
def lv_220 : List (Nat × Nat) := [(0, 7), (1, 6), (3, 6), (6, 6), (7, 2)]
theorem okl_220 : okL lv_220 (cde 220) = true := by decide +kernel
def g220_0_2 : List (Jvm.ClassFile.Instr × Nat) := [(.aload 0, 1), (.iconst 10, 2)]
theorem k220_0_2 : okB (cde 220) 0 g220_0_2 = true := by decide +kernel
theorem f220_3 : fch (cde 220) 3 = some (.invokestatic 219, 3) := by decide +kernel
def g220_6_3 : List (Jvm.ClassFile.Instr × Nat) := [(.iload 2, 1), (.iload 1, 1), (.iadd, 1)]
theorem k220_6_3 : okB (cde 220) 6 g220_6_3 = true := by decide +kernel
theorem f220_9 : fch (cde 220) 9 = some (.ireturn, 1) := by decide +kernel
theorem e220_1 {d : Nat} {a1 a2 v2 : Int} {I1 L1 : Fn} {I L : Fn} (h1 : (CallD d) 219 [vr 92, vi 10] (S I L) = some (none, S I1 L1)) (h2 : (w32 (a2 + a1)) = v2) : CallD (d + 1) 220 [vr 92, vi a1, vi a2] (S I L) = some (some (vi v2), S I1 L1) :=
  Eq.trans (Call_eq rfl (ls := [vr 92, vi a1, vi a2]) rfl) (Eq.trans (Run_blk (pc' := 3) (ls' := [vr 92, vi a1, vi a2]) (st' := [vi 10, vr 92]) (σ' := S I L) k220_0_2 (rfl)) (Eq.trans (p_call f220_3 (as := [vr 92, vi 10]) (r := []) rfl rfl (rfl) h1) (Eq.trans (Run_blk (pc' := 9) (ls' := [vr 92, vi a1, vi a2]) (st' := [vi (w32 (a2 + a1))]) (σ' := S I1 L1) k220_6_3 (rfl)) (Eq.trans (p_nm h2) (p_ri f220_9 rfl)))))
def lv_221 : List (Nat × Nat) := [(0, 7), (1, 7), (4, 7), (5, 7), (6, 7), (40, 7), (41, 6), (42, 4), (47, 7), (48, 7), (50, 7), (53, 7), (54, 6), (55, 4), (62, 7), (63, 7), (65, 7), (68, 7), (69, 7), (70, 7), (71, 3), (74, 3), (75, 11), (76, 3), (77, 2), (84, 7), (85, 6), (86, 4)]
theorem okl_221 : okL lv_221 (cde 221) = true := by decide +kernel
def g221_0_3 : List (Jvm.ClassFile.Instr × Nat) := [(.aload 0, 1), (.getfield 11042, 3), (.iload 1, 1)]
theorem k221_0_3 : okB (cde 221) 0 g221_0_3 = true := by decide +kernel
theorem f221_5 : fch (cde 221) 5 = some (.iaload, 1) := by decide +kernel
theorem f221_6 : fch (cde 221) 6 = some (.lookupswitch 84 #[(1, 40), (4, 47), (6, 62)], 34) := by decide +kernel
def g221_40_3 : List (Jvm.ClassFile.Instr × Nat) := [(.aload 0, 1), (.iload 1, 1), (.iload 2, 1)]
theorem k221_40_3 : okB (cde 221) 40 g221_40_3 = true := by decide +kernel
theorem f221_43 : fch (cde 221) 43 = some (.invokestatic 222, 3) := by decide +kernel
theorem f221_46 : fch (cde 221) 46 = some (.ireturn, 1) := by decide +kernel
def g221_47_2 : List (Jvm.ClassFile.Instr × Nat) := [(.aload 0, 1), (.iconst 51, 2)]
theorem k221_47_2 : okB (cde 221) 47 g221_47_2 = true := by decide +kernel
theorem f221_50 : fch (cde 221) 50 = some (.invokestatic 219, 3) := by decide +kernel
def g221_53_5 : List (Jvm.ClassFile.Instr × Nat) := [(.aload 0, 1), (.iload 1, 1), (.iload 2, 1), (.iconst 1, 1), (.iadd, 1)]
theorem k221_53_5 : okB (cde 221) 53 g221_53_5 = true := by decide +kernel
theorem f221_58 : fch (cde 221) 58 = some (.invokestatic 222, 3) := by decide +kernel
theorem f221_61 : fch (cde 221) 61 = some (.ireturn, 1) := by decide +kernel
def g221_62_2 : List (Jvm.ClassFile.Instr × Nat) := [(.aload 0, 1), (.iconst 70, 2)]
theorem k221_62_2 : okB (cde 221) 62 g221_62_2 = true := by decide +kernel
theorem f221_65 : fch (cde 221) 65 = some (.invokestatic 219, 3) := by decide +kernel
def g221_68_3 : List (Jvm.ClassFile.Instr × Nat) := [(.aload 0, 1), (.iload 1, 1), (.iload 2, 1)]
theorem k221_68_3 : okB (cde 221) 68 g221_68_3 = true := by decide +kernel
theorem f221_71 : fch (cde 221) 71 = some (.invokestatic 223, 3) := by decide +kernel
def g221_74_5 : List (Jvm.ClassFile.Instr × Nat) := [(.istore 3, 1), (.iload 3, 1), (.aload 0, 1), (.iload 1, 1), (.iconst 2, 1)]
theorem k221_74_5 : okB (cde 221) 74 g221_74_5 = true := by decide +kernel
theorem f221_79 : fch (cde 221) 79 = some (.invokestatic 220, 3) := by decide +kernel
def g221_82_1 : List (Jvm.ClassFile.Instr × Nat) := [(.iadd, 1)]
theorem k221_82_1 : okB (cde 221) 82 g221_82_1 = true := by decide +kernel
theorem f221_83 : fch (cde 221) 83 = some (.ireturn, 1) := by decide +kernel
def g221_84_3 : List (Jvm.ClassFile.Instr × Nat) := [(.aload 0, 1), (.iload 1, 1), (.iload 2, 1)]
theorem k221_84_3 : okB (cde 221) 84 g221_84_3 = true := by decide +kernel
theorem f221_87 : fch (cde 221) 87 = some (.invokestatic 223, 3) := by decide +kernel
theorem f221_90 : fch (cde 221) 90 = some (.ireturn, 1) := by decide +kernel
theorem e221_1 {d : Nat} {a1 a2 v1 v3 : Int} {I2 L2 : Fn} {I L : Fn} (h1 : 0 ≤ a1 ∧ a1 < 6) (h2 : I 95 a1.toNat = v1) (h3 : v1 = 1) (h4 : (CallD d) 222 [vr 92, vi a1, vi a2] (S I L) = some (some (vi v3), S I2 L2)) : CallD (d + 1) 221 [vr 92, vi a1, vi a2] (S I L) = some (some (vi v3), S I2 L2) :=
  Eq.trans (Call_eq rfl (ls := [vr 92, vi a1, vi a2, vu]) rfl) (Eq.trans (Run_blk (pc' := 5) (ls' := [vr 92, vi a1, vi a2, vu]) (st' := [vi a1, vr 95]) (σ' := S I L) k221_0_3 (rfl)) (Eq.trans (p_iald f221_5 rfl h1 h2) (Eq.trans (p_sw (t := 40) f221_6 (swt_eq h3)) (Eq.trans (Run_blk (pc' := 43) (ls' := [vr 92, vi a1, vi a2, vu]) (st' := [vi a2, vi a1, vr 92]) (σ' := S I L) k221_40_3 (rfl)) (Eq.trans (p_call f221_43 (as := [vr 92, vi a1, vi a2]) (r := []) rfl rfl (rfl) h4) (p_ri f221_46 rfl))))))
theorem e221_2 {d : Nat} {a1 a2 v1 v3 v5 : Int} {I2 L2 I4 L4 : Fn} {I L : Fn} (h1 : 0 ≤ a1 ∧ a1 < 6) (h2 : I 95 a1.toNat = v1) (h3 : v1 = 4) (h4 : (CallD d) 219 [vr 92, vi 51] (S I L) = some (none, S I2 L2)) (h5 : (w32 (a2 + 1)) = v3) (h6 : (CallD d) 222 [vr 92, vi a1, vi v3] (S I2 L2) = some (some (vi v5), S I4 L4)) : CallD (d + 1) 221 [vr 92, vi a1, vi a2] (S I L) = some (some (vi v5), S I4 L4) :=
  Eq.trans (Call_eq rfl (ls := [vr 92, vi a1, vi a2, vu]) rfl) (Eq.trans (Run_blk (pc' := 5) (ls' := [vr 92, vi a1, vi a2, vu]) (st' := [vi a1, vr 95]) (σ' := S I L) k221_0_3 (rfl)) (Eq.trans (p_iald f221_5 rfl h1 h2) (Eq.trans (p_sw (t := 47) f221_6 (swt_ne (by omega) (swt_eq h3))) (Eq.trans (Run_blk (pc' := 50) (ls' := [vr 92, vi a1, vi a2, vu]) (st' := [vi 51, vr 92]) (σ' := S I L) k221_47_2 (rfl)) (Eq.trans (p_call f221_50 (as := [vr 92, vi 51]) (r := []) rfl rfl (rfl) h4) (Eq.trans (Run_blk (pc' := 58) (ls' := [vr 92, vi a1, vi a2, vu]) (st' := [vi (w32 (a2 + 1)), vi a1, vr 92]) (σ' := S I2 L2) k221_53_5 (rfl)) (Eq.trans (p_nm h5) (Eq.trans (p_call f221_58 (as := [vr 92, vi a1, vi v3]) (r := []) rfl rfl (rfl) h6) (p_ri f221_61 rfl)))))))))
theorem e221_3 {d : Nat} {a1 a2 v1 v4 v6 v7 : Int} {I2 L2 I3 L3 I5 L5 : Fn} {I L : Fn} (h1 : 0 ≤ a1 ∧ a1 < 6) (h2 : I 95 a1.toNat = v1) (h3 : v1 = 6) (h4 : (CallD d) 219 [vr 92, vi 70] (S I L) = some (none, S I2 L2)) (h5 : (CallD d) 223 [vr 92, vi a1, vi a2] (S I2 L2) = some (some (vi v4), S I3 L3)) (h6 : (CallD d) 220 [vr 92, vi a1, vi 2] (S I3 L3) = some (some (vi v6), S I5 L5)) (h7 : (w32 (v4 + v6)) = v7) : CallD (d + 1) 221 [vr 92, vi a1, vi a2] (S I L) = some (some (vi v7), S I5 L5) :=
  Eq.trans (Call_eq rfl (ls := [vr 92, vi a1, vi a2, vu]) rfl) (Eq.trans (Run_blk (pc' := 5) (ls' := [vr 92, vi a1, vi a2, vu]) (st' := [vi a1, vr 95]) (σ' := S I L) k221_0_3 (rfl)) (Eq.trans (p_iald f221_5 rfl h1 h2) (Eq.trans (p_sw (t := 62) f221_6 (swt_ne (by omega) (swt_ne (by omega) (swt_eq h3)))) (Eq.trans (Run_blk (pc' := 65) (ls' := [vr 92, vi a1, vi a2, vu]) (st' := [vi 70, vr 92]) (σ' := S I L) k221_62_2 (rfl)) (Eq.trans (p_call f221_65 (as := [vr 92, vi 70]) (r := []) rfl rfl (rfl) h4) (Eq.trans (Run_blk (pc' := 71) (ls' := [vr 92, vi a1, vi a2, vu]) (st' := [vi a2, vi a1, vr 92]) (σ' := S I2 L2) k221_68_3 (rfl)) (Eq.trans (p_call f221_71 (as := [vr 92, vi a1, vi a2]) (r := []) rfl rfl (rfl) h5) (Eq.trans (Run_blk (pc' := 79) (ls' := [vr 92, vi a1, vi a2, vi v4]) (st' := [vi 2, vi a1, vr 92, vi v4]) (σ' := S I3 L3) k221_74_5 (rfl)) (Eq.trans (p_call f221_79 (as := [vr 92, vi a1, vi 2]) (r := [vi v4]) rfl rfl (rfl) h6) (Eq.trans (Run_blk (pc' := 83) (ls' := [vr 92, vi a1, vi a2, vi v4]) (st' := [vi (w32 (v4 + v6))]) (σ' := S I5 L5) k221_82_1 (rfl)) (Eq.trans (p_nm h7) (p_ri f221_83 rfl))))))))))))
theorem e221_4 {d : Nat} {a1 a2 v1 v3 : Int} {I2 L2 : Fn} {I L : Fn} (h1 : 0 ≤ a1 ∧ a1 < 6) (h2 : I 95 a1.toNat = v1) (h3 : ¬ v1 = 1) (h4 : ¬ v1 = 4) (h5 : ¬ v1 = 6) (h6 : (CallD d) 223 [vr 92, vi a1, vi a2] (S I L) = some (some (vi v3), S I2 L2)) : CallD (d + 1) 221 [vr 92, vi a1, vi a2] (S I L) = some (some (vi v3), S I2 L2) :=
  Eq.trans (Call_eq rfl (ls := [vr 92, vi a1, vi a2, vu]) rfl) (Eq.trans (Run_blk (pc' := 5) (ls' := [vr 92, vi a1, vi a2, vu]) (st' := [vi a1, vr 95]) (σ' := S I L) k221_0_3 (rfl)) (Eq.trans (p_iald f221_5 rfl h1 h2) (Eq.trans (p_sw (t := 84) f221_6 (swt_ne h3 (swt_ne h4 (swt_ne h5 (rfl))))) (Eq.trans (Run_blk (pc' := 87) (ls' := [vr 92, vi a1, vi a2, vu]) (st' := [vi a2, vi a1, vr 92]) (σ' := S I L) k221_84_3 (rfl)) (Eq.trans (p_call f221_87 (as := [vr 92, vi a1, vi a2]) (r := []) rfl rfl (rfl) h6) (p_ri f221_90 rfl))))))
def lv_222 : List (Nat × Nat) := [(0, 7), (1, 7), (3, 7), (6, 7), (7, 6), (8, 4)]
theorem okl_222 : okL lv_222 (cde 222) = true := by decide +kernel
def g222_0_2 : List (Jvm.ClassFile.Instr × Nat) := [(.aload 0, 1), (.iconst 20, 2)]
theorem k222_0_2 : okB (cde 222) 0 g222_0_2 = true := by decide +kernel
theorem f222_3 : fch (cde 222) 3 = some (.invokestatic 219, 3) := by decide +kernel
def g222_6_3 : List (Jvm.ClassFile.Instr × Nat) := [(.aload 0, 1), (.iload 1, 1), (.iload 2, 1)]
theorem k222_6_3 : okB (cde 222) 6 g222_6_3 = true := by decide +kernel
theorem f222_9 : fch (cde 222) 9 = some (.invokestatic 223, 3) := by decide +kernel
def g222_12_2 : List (Jvm.ClassFile.Instr × Nat) := [(.iconst 6, 2), (.ixor, 1)]
theorem k222_12_2 : okB (cde 222) 12 g222_12_2 = true := by decide +kernel
theorem f222_15 : fch (cde 222) 15 = some (.ireturn, 1) := by decide +kernel
theorem e222_1 {d : Nat} {a1 a2 v3 v4 : Int} {I1 L1 I2 L2 : Fn} {I L : Fn} (h1 : (CallD d) 219 [vr 92, vi 20] (S I L) = some (none, S I1 L1)) (h2 : (CallD d) 223 [vr 92, vi a1, vi a2] (S I1 L1) = some (some (vi v3), S I2 L2)) (h3 : (xor32 v3 6) = v4) : CallD (d + 1) 222 [vr 92, vi a1, vi a2] (S I L) = some (some (vi v4), S I2 L2) :=
  Eq.trans (Call_eq rfl (ls := [vr 92, vi a1, vi a2]) rfl) (Eq.trans (Run_blk (pc' := 3) (ls' := [vr 92, vi a1, vi a2]) (st' := [vi 20, vr 92]) (σ' := S I L) k222_0_2 (rfl)) (Eq.trans (p_call f222_3 (as := [vr 92, vi 20]) (r := []) rfl rfl (rfl) h1) (Eq.trans (Run_blk (pc' := 9) (ls' := [vr 92, vi a1, vi a2]) (st' := [vi a2, vi a1, vr 92]) (σ' := S I1 L1) k222_6_3 (rfl)) (Eq.trans (p_call f222_9 (as := [vr 92, vi a1, vi a2]) (r := []) rfl rfl (rfl) h2) (Eq.trans (Run_blk (pc' := 15) (ls' := [vr 92, vi a1, vi a2]) (st' := [vi (xor32 v3 6)]) (σ' := S I2 L2) k222_12_2 (rfl)) (Eq.trans (p_nm h3) (p_ri f222_15 rfl)))))))
def lv_223 : List (Nat × Nat) := [(0, 7), (1, 7), (3, 7), (6, 7), (7, 7), (8, 7), (9, 3), (12, 3), (13, 2), (16, 2)]
theorem okl_223 : okL lv_223 (cde 223) = true := by decide +kernel
def g223_0_2 : List (Jvm.ClassFile.Instr × Nat) := [(.aload 0, 1), (.iconst 11, 2)]
theorem k223_0_2 : okB (cde 223) 0 g223_0_2 = true := by decide +kernel
theorem f223_3 : fch (cde 223) 3 = some (.invokestatic 219, 3) := by decide +kernel
def g223_6_3 : List (Jvm.ClassFile.Instr × Nat) := [(.aload 0, 1), (.iload 1, 1), (.iload 2, 1)]
theorem k223_6_3 : okB (cde 223) 6 g223_6_3 = true := by decide +kernel
theorem f223_9 : fch (cde 223) 9 = some (.invokestatic 218, 3) := by decide +kernel
def g223_12_3 : List (Jvm.ClassFile.Instr × Nat) := [(.aload 0, 1), (.getfield 11052, 3), (.iload 1, 1)]
theorem k223_12_3 : okB (cde 223) 12 g223_12_3 = true := by decide +kernel
theorem f223_17 : fch (cde 223) 17 = some (.iaload, 1) := by decide +kernel
def g223_18_1 : List (Jvm.ClassFile.Instr × Nat) := [(.isub, 1)]
theorem k223_18_1 : okB (cde 223) 18 g223_18_1 = true := by decide +kernel
theorem f223_19 : fch (cde 223) 19 = some (.ireturn, 1) := by decide +kernel
theorem e223_1 {d : Nat} {a1 a2 v3 v4 v5 : Int} {I1 L1 I2 L2 : Fn} {I L : Fn} (h1 : (CallD d) 219 [vr 92, vi 11] (S I L) = some (none, S I1 L1)) (h2 : (CallD d) 218 [vr 92, vi a1, vi a2] (S I1 L1) = some (some (vi v3), S I2 L2)) (h3 : 0 ≤ a1 ∧ a1 < 6) (h4 : I2 96 a1.toNat = v4) (h5 : (w32 (v3 - v4)) = v5) : CallD (d + 1) 223 [vr 92, vi a1, vi a2] (S I L) = some (some (vi v5), S I2 L2) :=
  Eq.trans (Call_eq rfl (ls := [vr 92, vi a1, vi a2]) rfl) (Eq.trans (Run_blk (pc' := 3) (ls' := [vr 92, vi a1, vi a2]) (st' := [vi 11, vr 92]) (σ' := S I L) k223_0_2 (rfl)) (Eq.trans (p_call f223_3 (as := [vr 92, vi 11]) (r := []) rfl rfl (rfl) h1) (Eq.trans (Run_blk (pc' := 9) (ls' := [vr 92, vi a1, vi a2]) (st' := [vi a2, vi a1, vr 92]) (σ' := S I1 L1) k223_6_3 (rfl)) (Eq.trans (p_call f223_9 (as := [vr 92, vi a1, vi a2]) (r := []) rfl rfl (rfl) h2) (Eq.trans (Run_blk (pc' := 17) (ls' := [vr 92, vi a1, vi a2]) (st' := [vi a1, vr 96, vi v3]) (σ' := S I2 L2) k223_12_3 (rfl)) (Eq.trans (p_iald f223_17 rfl h3 h4) (Eq.trans (Run_blk (pc' := 19) (ls' := [vr 92, vi a1, vi a2]) (st' := [vi (w32 (v3 - v4))]) (σ' := S I2 L2) k223_18_1 (rfl)) (Eq.trans (p_nm h5) (p_ri f223_19 rfl)))))))))
def lv_224 : List (Nat × Nat) := [(0, 7), (1, 7), (4, 7), (5, 7), (6, 7), (36, 7), (37, 7), (39, 7), (42, 7), (43, 7), (44, 7), (45, 3), (48, 3), (49, 11), (50, 3), (51, 2), (58, 7), (59, 7), (61, 7), (64, 7), (65, 6), (66, 6), (67, 2), (73, 7), (74, 6), (75, 4)]
theorem okl_224 : okL lv_224 (cde 224) = true := by decide +kernel
def g224_0_3 : List (Jvm.ClassFile.Instr × Nat) := [(.aload 0, 1), (.getfield 11042, 3), (.iload 1, 1)]
theorem k224_0_3 : okB (cde 224) 0 g224_0_3 = true := by decide +kernel
theorem f224_5 : fch (cde 224) 5 = some (.iaload, 1) := by decide +kernel
theorem f224_6 : fch (cde 224) 6 = some (.lookupswitch 73 #[(3, 36), (4, 73), (5, 58), (6, 36)], 30) := by decide +kernel
def g224_36_2 : List (Jvm.ClassFile.Instr × Nat) := [(.aload 0, 1), (.iconst 40, 2)]
theorem k224_36_2 : okB (cde 224) 36 g224_36_2 = true := by decide +kernel
theorem f224_39 : fch (cde 224) 39 = some (.invokestatic 219, 3) := by decide +kernel
def g224_42_3 : List (Jvm.ClassFile.Instr × Nat) := [(.aload 0, 1), (.iload 1, 1), (.iload 2, 1)]
theorem k224_42_3 : okB (cde 224) 42 g224_42_3 = true := by decide +kernel
theorem f224_45 : fch (cde 224) 45 = some (.invokestatic 225, 3) := by decide +kernel
def g224_48_5 : List (Jvm.ClassFile.Instr × Nat) := [(.istore 3, 1), (.iload 3, 1), (.aload 0, 1), (.iload 1, 1), (.iconst 1, 1)]
theorem k224_48_5 : okB (cde 224) 48 g224_48_5 = true := by decide +kernel
theorem f224_53 : fch (cde 224) 53 = some (.invokestatic 221, 3) := by decide +kernel
def g224_56_1 : List (Jvm.ClassFile.Instr × Nat) := [(.iadd, 1)]
theorem k224_56_1 : okB (cde 224) 56 g224_56_1 = true := by decide +kernel
theorem f224_57 : fch (cde 224) 57 = some (.ireturn, 1) := by decide +kernel
def g224_73_3 : List (Jvm.ClassFile.Instr × Nat) := [(.aload 0, 1), (.iload 1, 1), (.iload 2, 1)]
theorem k224_73_3 : okB (cde 224) 73 g224_73_3 = true := by decide +kernel
theorem f224_76 : fch (cde 224) 76 = some (.invokestatic 225, 3) := by decide +kernel
theorem f224_79 : fch (cde 224) 79 = some (.ireturn, 1) := by decide +kernel
def g224_58_2 : List (Jvm.ClassFile.Instr × Nat) := [(.aload 0, 1), (.iconst 60, 2)]
theorem k224_58_2 : okB (cde 224) 58 g224_58_2 = true := by decide +kernel
theorem f224_61 : fch (cde 224) 61 = some (.invokestatic 219, 3) := by decide +kernel
def g224_64_5 : List (Jvm.ClassFile.Instr × Nat) := [(.aload 0, 1), (.iload 1, 1), (.iload 2, 1), (.iload 1, 1), (.isub, 1)]
theorem k224_64_5 : okB (cde 224) 64 g224_64_5 = true := by decide +kernel
theorem f224_69 : fch (cde 224) 69 = some (.invokestatic 225, 3) := by decide +kernel
theorem f224_72 : fch (cde 224) 72 = some (.ireturn, 1) := by decide +kernel
theorem e224_1 {d : Nat} {a1 a2 v1 v4 v6 v7 : Int} {I2 L2 I3 L3 I5 L5 : Fn} {I L : Fn} (h1 : 0 ≤ a1 ∧ a1 < 6) (h2 : I 95 a1.toNat = v1) (h3 : v1 = 3) (h4 : (CallD d) 219 [vr 92, vi 40] (S I L) = some (none, S I2 L2)) (h5 : (CallD d) 225 [vr 92, vi a1, vi a2] (S I2 L2) = some (some (vi v4), S I3 L3)) (h6 : (CallD d) 221 [vr 92, vi a1, vi 1] (S I3 L3) = some (some (vi v6), S I5 L5)) (h7 : (w32 (v4 + v6)) = v7) : CallD (d + 1) 224 [vr 92, vi a1, vi a2] (S I L) = some (some (vi v7), S I5 L5) :=
  Eq.trans (Call_eq rfl (ls := [vr 92, vi a1, vi a2, vu]) rfl) (Eq.trans (Run_blk (pc' := 5) (ls' := [vr 92, vi a1, vi a2, vu]) (st' := [vi a1, vr 95]) (σ' := S I L) k224_0_3 (rfl)) (Eq.trans (p_iald f224_5 rfl h1 h2) (Eq.trans (p_sw (t := 36) f224_6 (swt_eq h3)) (Eq.trans (Run_blk (pc' := 39) (ls' := [vr 92, vi a1, vi a2, vu]) (st' := [vi 40, vr 92]) (σ' := S I L) k224_36_2 (rfl)) (Eq.trans (p_call f224_39 (as := [vr 92, vi 40]) (r := []) rfl rfl (rfl) h4) (Eq.trans (Run_blk (pc' := 45) (ls' := [vr 92, vi a1, vi a2, vu]) (st' := [vi a2, vi a1, vr 92]) (σ' := S I2 L2) k224_42_3 (rfl)) (Eq.trans (p_call f224_45 (as := [vr 92, vi a1, vi a2]) (r := []) rfl rfl (rfl) h5) (Eq.trans (Run_blk (pc' := 53) (ls' := [vr 92, vi a1, vi a2, vi v4]) (st' := [vi 1, vi a1, vr 92, vi v4]) (σ' := S I3 L3) k224_48_5 (rfl)) (Eq.trans (p_call f224_53 (as := [vr 92, vi a1, vi 1]) (r := [vi v4]) rfl rfl (rfl) h6) (Eq.trans (Run_blk (pc' := 57) (ls' := [vr 92, vi a1, vi a2, vi v4]) (st' := [vi (w32 (v4 + v6))]) (σ' := S I5 L5) k224_56_1 (rfl)) (Eq.trans (p_nm h7) (p_ri f224_57 rfl))))))))))))
theorem e224_2 {d : Nat} {a1 a2 v1 v3 : Int} {I2 L2 : Fn} {I L : Fn} (h1 : 0 ≤ a1 ∧ a1 < 6) (h2 : I 95 a1.toNat = v1) (h3 : v1 = 4) (h4 : (CallD d) 225 [vr 92, vi a1, vi a2] (S I L) = some (some (vi v3), S I2 L2)) : CallD (d + 1) 224 [vr 92, vi a1, vi a2] (S I L) = some (some (vi v3), S I2 L2) :=
  Eq.trans (Call_eq rfl (ls := [vr 92, vi a1, vi a2, vu]) rfl) (Eq.trans (Run_blk (pc' := 5) (ls' := [vr 92, vi a1, vi a2, vu]) (st' := [vi a1, vr 95]) (σ' := S I L) k224_0_3 (rfl)) (Eq.trans (p_iald f224_5 rfl h1 h2) (Eq.trans (p_sw (t := 73) f224_6 (swt_ne (by omega) (swt_eq h3))) (Eq.trans (Run_blk (pc' := 76) (ls' := [vr 92, vi a1, vi a2, vu]) (st' := [vi a2, vi a1, vr 92]) (σ' := S I L) k224_73_3 (rfl)) (Eq.trans (p_call f224_76 (as := [vr 92, vi a1, vi a2]) (r := []) rfl rfl (rfl) h4) (p_ri f224_79 rfl))))))
theorem e224_3 {d : Nat} {a1 a2 v1 v3 v5 : Int} {I2 L2 I4 L4 : Fn} {I L : Fn} (h1 : 0 ≤ a1 ∧ a1 < 6) (h2 : I 95 a1.toNat = v1) (h3 : v1 = 5) (h4 : (CallD d) 219 [vr 92, vi 60] (S I L) = some (none, S I2 L2)) (h5 : (w32 (a2 - a1)) = v3) (h6 : (CallD d) 225 [vr 92, vi a1, vi v3] (S I2 L2) = some (some (vi v5), S I4 L4)) : CallD (d + 1) 224 [vr 92, vi a1, vi a2] (S I L) = some (some (vi v5), S I4 L4) :=
  Eq.trans (Call_eq rfl (ls := [vr 92, vi a1, vi a2, vu]) rfl) (Eq.trans (Run_blk (pc' := 5) (ls' := [vr 92, vi a1, vi a2, vu]) (st' := [vi a1, vr 95]) (σ' := S I L) k224_0_3 (rfl)) (Eq.trans (p_iald f224_5 rfl h1 h2) (Eq.trans (p_sw (t := 58) f224_6 (swt_ne (by omega) (swt_ne (by omega) (swt_eq h3)))) (Eq.trans (Run_blk (pc' := 61) (ls' := [vr 92, vi a1, vi a2, vu]) (st' := [vi 60, vr 92]) (σ' := S I L) k224_58_2 (rfl)) (Eq.trans (p_call f224_61 (as := [vr 92, vi 60]) (r := []) rfl rfl (rfl) h4) (Eq.trans (Run_blk (pc' := 69) (ls' := [vr 92, vi a1, vi a2, vu]) (st' := [vi (w32 (a2 - a1)), vi a1, vr 92]) (σ' := S I2 L2) k224_64_5 (rfl)) (Eq.trans (p_nm h5) (Eq.trans (p_call f224_69 (as := [vr 92, vi a1, vi v3]) (r := []) rfl rfl (rfl) h6) (p_ri f224_72 rfl)))))))))
theorem e224_4 {d : Nat} {a1 a2 v1 v4 v6 v7 : Int} {I2 L2 I3 L3 I5 L5 : Fn} {I L : Fn} (h1 : 0 ≤ a1 ∧ a1 < 6) (h2 : I 95 a1.toNat = v1) (h3 : v1 = 6) (h4 : (CallD d) 219 [vr 92, vi 40] (S I L) = some (none, S I2 L2)) (h5 : (CallD d) 225 [vr 92, vi a1, vi a2] (S I2 L2) = some (some (vi v4), S I3 L3)) (h6 : (CallD d) 221 [vr 92, vi a1, vi 1] (S I3 L3) = some (some (vi v6), S I5 L5)) (h7 : (w32 (v4 + v6)) = v7) : CallD (d + 1) 224 [vr 92, vi a1, vi a2] (S I L) = some (some (vi v7), S I5 L5) :=
  Eq.trans (Call_eq rfl (ls := [vr 92, vi a1, vi a2, vu]) rfl) (Eq.trans (Run_blk (pc' := 5) (ls' := [vr 92, vi a1, vi a2, vu]) (st' := [vi a1, vr 95]) (σ' := S I L) k224_0_3 (rfl)) (Eq.trans (p_iald f224_5 rfl h1 h2) (Eq.trans (p_sw (t := 36) f224_6 (swt_ne (by omega) (swt_ne (by omega) (swt_ne (by omega) (swt_eq h3))))) (Eq.trans (Run_blk (pc' := 39) (ls' := [vr 92, vi a1, vi a2, vu]) (st' := [vi 40, vr 92]) (σ' := S I L) k224_36_2 (rfl)) (Eq.trans (p_call f224_39 (as := [vr 92, vi 40]) (r := []) rfl rfl (rfl) h4) (Eq.trans (Run_blk (pc' := 45) (ls' := [vr 92, vi a1, vi a2, vu]) (st' := [vi a2, vi a1, vr 92]) (σ' := S I2 L2) k224_42_3 (rfl)) (Eq.trans (p_call f224_45 (as := [vr 92, vi a1, vi a2]) (r := []) rfl rfl (rfl) h5) (Eq.trans (Run_blk (pc' := 53) (ls' := [vr 92, vi a1, vi a2, vi v4]) (st' := [vi 1, vi a1, vr 92, vi v4]) (σ' := S I3 L3) k224_48_5 (rfl)) (Eq.trans (p_call f224_53 (as := [vr 92, vi a1, vi 1]) (r := [vi v4]) rfl rfl (rfl) h6) (Eq.trans (Run_blk (pc' := 57) (ls' := [vr 92, vi a1, vi a2, vi v4]) (st' := [vi (w32 (v4 + v6))]) (σ' := S I5 L5) k224_56_1 (rfl)) (Eq.trans (p_nm h7) (p_ri f224_57 rfl))))))))))))
theorem e224_5 {d : Nat} {a1 a2 v1 v3 : Int} {I2 L2 : Fn} {I L : Fn} (h1 : 0 ≤ a1 ∧ a1 < 6) (h2 : I 95 a1.toNat = v1) (h3 : ¬ v1 = 3) (h4 : ¬ v1 = 4) (h5 : ¬ v1 = 5) (h6 : ¬ v1 = 6) (h7 : (CallD d) 225 [vr 92, vi a1, vi a2] (S I L) = some (some (vi v3), S I2 L2)) : CallD (d + 1) 224 [vr 92, vi a1, vi a2] (S I L) = some (some (vi v3), S I2 L2) :=
  Eq.trans (Call_eq rfl (ls := [vr 92, vi a1, vi a2, vu]) rfl) (Eq.trans (Run_blk (pc' := 5) (ls' := [vr 92, vi a1, vi a2, vu]) (st' := [vi a1, vr 95]) (σ' := S I L) k224_0_3 (rfl)) (Eq.trans (p_iald f224_5 rfl h1 h2) (Eq.trans (p_sw (t := 73) f224_6 (swt_ne h3 (swt_ne h4 (swt_ne h5 (swt_ne h6 (rfl)))))) (Eq.trans (Run_blk (pc' := 76) (ls' := [vr 92, vi a1, vi a2, vu]) (st' := [vi a2, vi a1, vr 92]) (σ' := S I L) k224_73_3 (rfl)) (Eq.trans (p_call f224_76 (as := [vr 92, vi a1, vi a2]) (r := []) rfl rfl (rfl) h7) (p_ri f224_79 rfl))))))
def lv_225 : List (Nat × Nat) := [(0, 7), (1, 7), (3, 7), (6, 7), (7, 6), (8, 4)]
theorem okl_225 : okL lv_225 (cde 225) = true := by decide +kernel
def g225_0_2 : List (Jvm.ClassFile.Instr × Nat) := [(.aload 0, 1), (.iconst 12, 2)]
theorem k225_0_2 : okB (cde 225) 0 g225_0_2 = true := by decide +kernel
theorem f225_3 : fch (cde 225) 3 = some (.invokestatic 219, 3) := by decide +kernel
def g225_6_3 : List (Jvm.ClassFile.Instr × Nat) := [(.aload 0, 1), (.iload 1, 1), (.iload 2, 1)]
theorem k225_6_3 : okB (cde 225) 6 g225_6_3 = true := by decide +kernel
theorem f225_9 : fch (cde 225) 9 = some (.invokestatic 221, 3) := by decide +kernel
def g225_12_2 : List (Jvm.ClassFile.Instr × Nat) := [(.iconst 2, 1), (.imul, 1)]
theorem k225_12_2 : okB (cde 225) 12 g225_12_2 = true := by decide +kernel
theorem f225_14 : fch (cde 225) 14 = some (.ireturn, 1) := by decide +kernel
theorem e225_1 {d : Nat} {a1 a2 v3 v4 : Int} {I1 L1 I2 L2 : Fn} {I L : Fn} (h1 : (CallD d) 219 [vr 92, vi 12] (S I L) = some (none, S I1 L1)) (h2 : (CallD d) 221 [vr 92, vi a1, vi a2] (S I1 L1) = some (some (vi v3), S I2 L2)) (h3 : (w32 (v3 * 2)) = v4) : CallD (d + 1) 225 [vr 92, vi a1, vi a2] (S I L) = some (some (vi v4), S I2 L2) :=
  Eq.trans (Call_eq rfl (ls := [vr 92, vi a1, vi a2]) rfl) (Eq.trans (Run_blk (pc' := 3) (ls' := [vr 92, vi a1, vi a2]) (st' := [vi 12, vr 92]) (σ' := S I L) k225_0_2 (rfl)) (Eq.trans (p_call f225_3 (as := [vr 92, vi 12]) (r := []) rfl rfl (rfl) h1) (Eq.trans (Run_blk (pc' := 9) (ls' := [vr 92, vi a1, vi a2]) (st' := [vi a2, vi a1, vr 92]) (σ' := S I1 L1) k225_6_3 (rfl)) (Eq.trans (p_call f225_9 (as := [vr 92, vi a1, vi a2]) (r := []) rfl rfl (rfl) h2) (Eq.trans (Run_blk (pc' := 14) (ls' := [vr 92, vi a1, vi a2]) (st' := [vi (w32 (v3 * 2))]) (σ' := S I2 L2) k225_12_2 (rfl)) (Eq.trans (p_nm h3) (p_ri f225_14 rfl)))))))
def lv_226 : List (Nat × Nat) := [(0, 3), (1, 3), (2, 3), (3, 3), (5, 3), (8, 3), (11, 3), (12, 3), (13, 3), (16, 3), (19, 3), (20, 2), (23, 2)]
theorem okl_226 : okL lv_226 (cde 226) = true := by decide +kernel
def g226_0_4 : List (Jvm.ClassFile.Instr × Nat) := [(.aload 0, 1), (.iload 1, 1), (.iconst 0, 1), (.iconst 19, 2)]
theorem k226_0_4 : okB (cde 226) 0 g226_0_4 = true := by decide +kernel
theorem f226_5 : fch (cde 226) 5 = some (.invokestatic 143, 3) := by decide +kernel
theorem f226_8 : fch (cde 226) 8 = some (.ifCond .eq 28, 3) := by decide +kernel
def g226_28_1 : List (Jvm.ClassFile.Instr × Nat) := [(.iconst (-1), 1)]
theorem k226_28_1 : okB (cde 226) 28 g226_28_1 = true := by decide +kernel
theorem f226_29 : fch (cde 226) 29 = some (.ireturn, 1) := by decide +kernel
def g226_11_3 : List (Jvm.ClassFile.Instr × Nat) := [(.iload 1, 1), (.aload 0, 1), (.getfield 11610, 3)]
theorem k226_11_3 : okB (cde 226) 11 g226_11_3 = true := by decide +kernel
theorem f226_16 : fch (cde 226) 16 = some (.if_icmp .ge 28, 3) := by decide +kernel
def g226_19_3 : List (Jvm.ClassFile.Instr × Nat) := [(.aload 0, 1), (.getfield 11622, 3), (.iload 1, 1)]
theorem k226_19_3 : okB (cde 226) 19 g226_19_3 = true := by decide +kernel
theorem f226_24 : fch (cde 226) 24 = some (.iaload, 1) := by decide +kernel
def g226_25_1 : List (Jvm.ClassFile.Instr × Nat) := [(.goto 29, 3)]
theorem k226_25_1 : okB (cde 226) 25 g226_25_1 = true := by decide +kernel
theorem e226_1 {d : Nat} {a1 v2 : Int} {I1 L1 : Fn} {I L : Fn} (h1 : (CallD d) 143 [vr 92, vi a1, vi 0, vi 19] (S I L) = some (some (vi v2), S I1 L1)) (h2 : v2 = 0) : CallD (d + 1) 226 [vr 92, vi a1] (S I L) = some (some (vi (-1)), S I1 L1) :=
  Eq.trans (Call_eq rfl (ls := [vr 92, vi a1]) rfl) (Eq.trans (Run_blk (pc' := 5) (ls' := [vr 92, vi a1]) (st' := [vi 19, vi 0, vi a1, vr 92]) (σ' := S I L) k226_0_4 (rfl)) (Eq.trans (p_call f226_5 (as := [vr 92, vi a1, vi 0, vi 19]) (r := []) rfl rfl (rfl) h1) (Eq.trans (p_if f226_8 (decide_eq_true h2)) (Eq.trans (Run_blk (pc' := 29) (ls' := [vr 92, vi a1]) (st' := [vi (-1)]) (σ' := S I1 L1) k226_28_1 (rfl)) (p_ri f226_29 rfl)))))
theorem e226_2 {d : Nat} {a1 v2 v3 : Int} {I1 L1 : Fn} {I L : Fn} (h1 : (CallD d) 143 [vr 92, vi a1, vi 0, vi 19] (S I L) = some (some (vi v2), S I1 L1)) (h2 : ¬ v2 = 0) (h3 : (I1 92 61) = v3) (h4 : v3 ≤ a1) : CallD (d + 1) 226 [vr 92, vi a1] (S I L) = some (some (vi (-1)), S I1 L1) :=
  Eq.trans (Call_eq rfl (ls := [vr 92, vi a1]) rfl) (Eq.trans (Run_blk (pc' := 5) (ls' := [vr 92, vi a1]) (st' := [vi 19, vi 0, vi a1, vr 92]) (σ' := S I L) k226_0_4 (rfl)) (Eq.trans (p_call f226_5 (as := [vr 92, vi a1, vi 0, vi 19]) (r := []) rfl rfl (rfl) h1) (Eq.trans (p_ifn f226_8 (decide_eq_false h2)) (Eq.trans (Run_blk (pc' := 16) (ls' := [vr 92, vi a1]) (st' := [vi (I1 92 61), vi a1]) (σ' := S I1 L1) k226_11_3 (rfl)) (Eq.trans (p_nm h3) (Eq.trans (p_ic f226_16 (decide_eq_true h4)) (Eq.trans (Run_blk (pc' := 29) (ls' := [vr 92, vi a1]) (st' := [vi (-1)]) (σ' := S I1 L1) k226_28_1 (rfl)) (p_ri f226_29 rfl))))))))
theorem e226_3 {d : Nat} {a1 v2 v3 v4 : Int} {I1 L1 : Fn} {I L : Fn} (h1 : (CallD d) 143 [vr 92, vi a1, vi 0, vi 19] (S I L) = some (some (vi v2), S I1 L1)) (h2 : ¬ v2 = 0) (h3 : (I1 92 61) = v3) (h4 : a1 < v3) (h5 : 0 ≤ a1 ∧ a1 < 20) (h6 : I1 137 a1.toNat = v4) : CallD (d + 1) 226 [vr 92, vi a1] (S I L) = some (some (vi v4), S I1 L1) :=
  Eq.trans (Call_eq rfl (ls := [vr 92, vi a1]) rfl) (Eq.trans (Run_blk (pc' := 5) (ls' := [vr 92, vi a1]) (st' := [vi 19, vi 0, vi a1, vr 92]) (σ' := S I L) k226_0_4 (rfl)) (Eq.trans (p_call f226_5 (as := [vr 92, vi a1, vi 0, vi 19]) (r := []) rfl rfl (rfl) h1) (Eq.trans (p_ifn f226_8 (decide_eq_false h2)) (Eq.trans (Run_blk (pc' := 16) (ls' := [vr 92, vi a1]) (st' := [vi (I1 92 61), vi a1]) (σ' := S I1 L1) k226_11_3 (rfl)) (Eq.trans (p_nm h3) (Eq.trans (p_icn f226_16 (decide_eq_false (Int.not_le.mpr h4))) (Eq.trans (Run_blk (pc' := 24) (ls' := [vr 92, vi a1]) (st' := [vi a1, vr 137]) (σ' := S I1 L1) k226_19_3 (rfl)) (Eq.trans (p_iald f226_24 rfl h5 h6) (Eq.trans (Run_blk (pc' := 29) (ls' := [vr 92, vi a1]) (st' := [vi v4]) (σ' := S I1 L1) k226_25_1 (rfl)) (p_ri f226_29 rfl))))))))))
