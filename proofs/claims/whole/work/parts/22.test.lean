section RETS
variable {F : Cal} {m pc len : Nat} {ls : List AV} {σ : Sto}
theorem p_ri {x : Int} (hf : fch (cde m) pc = some (.ireturn, len)) (hk : rok (rkd m) x = true) : RunX none F m pc ls [vi x] σ = some (some (vi x), σ) := by
  rw [Run_ret hf (v := some (some (vi x))) (by show some (bif rok (rkd m) x then some (some (vi x)) else none) = _; rw [hk]; rfl)]
  rfl
theorem p_rl {x : Int} (hf : fch (cde m) pc = some (.lreturn, len)) : RunX none F m pc ls [vl x] σ = some (some (vl x), σ) := Run_ret hf (v := some (some (vl x))) rfl
theorem p_ra {k : Nat} (hf : fch (cde m) pc = some (.areturn, len)) : RunX none F m pc ls [vr k] σ = some (some (vr k), σ) := Run_ret hf (v := some (some (vr k))) rfl
theorem p_rn (hf : fch (cde m) pc = some (.areturn, len)) : RunX none F m pc ls [vn] σ = some (some vn, σ) := Run_ret hf (v := some (some vn)) rfl
theorem p_rv (hf : fch (cde m) pc = some (.return_, len)) : RunX none F m pc ls [] σ = some (none, σ) := Run_ret hf (v := some none) rfl
end RETS
def lv_13 : List (Nat × Nat) := [(0, 1), (1, 1), (4, 1), (5, 0), (7, 0), (10, 0), (11, 0), (14, 0), (15, 0)]
theorem okl_13 : okL lv_13 (cde 13) = true := by decide +kernel
def lv_15 : List (Nat × Nat) := [(0, 3), (1, 3), (4, 3), (6, 3), (9, 3), (10, 3), (13, 3), (14, 1), (15, 1), (16, 1), (17, 1), (18, 5), (19, 5), (21, 5), (24, 5), (25, 5), (26, 13), (27, 13), (29, 13), (32, 13), (33, 13), (36, 13), (37, 13), (40, 13), (43, 13), (44, 13), (45, 13), (46, 13), (47, 13), (50, 13), (51, 13), (54, 13), (57, 13), (58, 13), (59, 13), (60, 13), (63, 13), (65, 29), (66, 29), (69, 29), (70, 29), (71, 29), (74, 29), (75, 29), (76, 29), (78, 13), (79, 13), (80, 13), (83, 13), (84, 13), (87, 13), (90, 5), (93, 5), (96, 0)]
theorem okl_15 : okL lv_15 (cde 15) = true := by decide +kernel
def lv_22 : List (Nat × Nat) := [(0, 3), (1, 3), (4, 3), (5, 3), (6, 3), (9, 3), (12, 3), (15, 3), (16, 3), (18, 3), (21, 3), (22, 2), (25, 2), (28, 2), (29, 0), (30, 0), (33, 0), (34, 0)]
theorem okl_22 : okL lv_22 (cde 22) = true := by decide +kernel
def lv_26 : List (Nat × Nat) := [(0, 31), (1, 31), (3, 63), (4, 63), (6, 127), (7, 127), (9, 255), (11, 255), (12, 255), (15, 255), (18, 255), (19, 255), (22, 255), (24, 255), (25, 255), (26, 255), (29, 255), (30, 255), (32, 191), (33, 191), (36, 191), (38, 191), (39, 191), (40, 191), (41, 191), (43, 191), (46, 191), (49, 191), (51, 159), (52, 159), (55, 159), (57, 159), (58, 159), (59, 159), (61, 191), (62, 191), (65, 191), (67, 191), (68, 191), (70, 255), (73, 255), (76, 32), (78, 0)]
theorem okl_26 : okL lv_26 (cde 26) = true := by decide +kernel
def g13_0_1 : List (Jvm.ClassFile.Instr × Nat) := [(.iload 0, 1)]
theorem k13_0_1 : okB (cde 13) 0 g13_0_1 = true := by decide +kernel
theorem f13_1 : fch (cde 13) 1 = some (.ifCond .lt 14, 3) := by decide +kernel
def g13_14_1 : List (Jvm.ClassFile.Instr × Nat) := [(.iconst 0, 1)]
theorem k13_14_1 : okB (cde 13) 14 g13_14_1 = true := by decide +kernel
theorem f13_15 : fch (cde 13) 15 = some (.ireturn, 1) := by decide +kernel
def g13_4_2 : List (Jvm.ClassFile.Instr × Nat) := [(.iload 0, 1), (.iconst 8, 2)]
theorem k13_4_2 : okB (cde 13) 4 g13_4_2 = true := by decide +kernel
theorem f13_7 : fch (cde 13) 7 = some (.if_icmp .ge 14, 3) := by decide +kernel
def g13_10_2 : List (Jvm.ClassFile.Instr × Nat) := [(.iconst 1, 1), (.goto 15, 3)]
theorem k13_10_2 : okB (cde 13) 10 g13_10_2 = true := by decide +kernel
def g15_0_3 : List (Jvm.ClassFile.Instr × Nat) := [(.aload 0, 1), (.getfield 6022, 3), (.iconst 99, 2)]
theorem k15_0_3 : okB (cde 15) 0 g15_0_3 = true := by decide +kernel
theorem f15_6 : fch (cde 15) 6 = some (.invokestatic 11, 3) := by decide +kernel
def g15_9_4 : List (Jvm.ClassFile.Instr × Nat) := [(.aload 0, 1), (.getfield 6022, 3), (.iload 1, 1), (.iconst 0, 1)]
theorem k15_9_4 : okB (cde 15) 9 g15_9_4 = true := by decide +kernel
theorem f15_15 : fch (cde 15) 15 = some (.iastore, 1) := by decide +kernel
def g15_16_2 : List (Jvm.ClassFile.Instr × Nat) := [(.iconst 1, 1), (.istore 2, 1)]
theorem k15_16_2 : okB (cde 15) 16 g15_16_2 = true := by decide +kernel
def g15_18_2 : List (Jvm.ClassFile.Instr × Nat) := [(.iload 2, 1), (.iconst 8, 2)]
theorem k15_18_2 : okB (cde 15) 18 g15_18_2 = true := by decide +kernel
theorem f15_21 : fch (cde 15) 21 = some (.if_icmp .ge 96, 3) := by decide +kernel
theorem f15_96 : fch (cde 15) 96 = some (.return_, 1) := by decide +kernel
def g15_24_2 : List (Jvm.ClassFile.Instr × Nat) := [(.iconst 0, 1), (.istore 3, 1)]
theorem k15_24_2 : okB (cde 15) 24 g15_24_2 = true := by decide +kernel
def g15_26_2 : List (Jvm.ClassFile.Instr × Nat) := [(.iload 3, 1), (.iconst 8, 2)]
theorem k15_26_2 : okB (cde 15) 26 g15_26_2 = true := by decide +kernel
theorem f15_29 : fch (cde 15) 29 = some (.if_icmp .ge 90, 3) := by decide +kernel
def g15_90_1 : List (Jvm.ClassFile.Instr × Nat) := [(.iinc 2 1, 3)]
theorem k15_90_1 : okB (cde 15) 90 g15_90_1 = true := by decide +kernel
def g15_93_1 : List (Jvm.ClassFile.Instr × Nat) := [(.goto 18, 3)]
theorem k15_93_1 : okB (cde 15) 93 g15_93_1 = true := by decide +kernel
def g15_32_6 : List (Jvm.ClassFile.Instr × Nat) := [(.aload 0, 1), (.getfield 6022, 3), (.aload 0, 1), (.getfield 6002, 3), (.getfield 1002, 3), (.iload 3, 1)]
theorem k15_32_6 : okB (cde 15) 32 g15_32_6 = true := by decide +kernel
theorem f15_44 : fch (cde 15) 44 = some (.iaload, 1) := by decide +kernel
theorem f15_45 : fch (cde 15) 45 = some (.iaload, 1) := by decide +kernel
def g15_46_6 : List (Jvm.ClassFile.Instr × Nat) := [(.aload 0, 1), (.getfield 6022, 3), (.aload 0, 1), (.getfield 6002, 3), (.getfield 1012, 3), (.iload 3, 1)]
theorem k15_46_6 : okB (cde 15) 46 g15_46_6 = true := by decide +kernel
theorem f15_58 : fch (cde 15) 58 = some (.iaload, 1) := by decide +kernel
theorem f15_59 : fch (cde 15) 59 = some (.iaload, 1) := by decide +kernel
def g15_60_1 : List (Jvm.ClassFile.Instr × Nat) := [(.invokedynamic 0, 3)]
theorem k15_60_1 : okB (cde 15) 60 g15_60_1 = true := by decide +kernel
def g15_63_7 : List (Jvm.ClassFile.Instr × Nat) := [(.istore 4, 2), (.aload 0, 1), (.getfield 6022, 3), (.iload 3, 1), (.aload 0, 1), (.getfield 6022, 3), (.iload 3, 1)]
theorem k15_63_7 : okB (cde 15) 63 g15_63_7 = true := by decide +kernel
theorem f15_75 : fch (cde 15) 75 = some (.iaload, 1) := by decide +kernel
def g15_76_3 : List (Jvm.ClassFile.Instr × Nat) := [(.iload 4, 2), (.iconst 1, 1), (.iadd, 1)]
theorem k15_76_3 : okB (cde 15) 76 g15_76_3 = true := by decide +kernel
def g15_80_1 : List (Jvm.ClassFile.Instr × Nat) := [(.invokedynamic 0, 3)]
theorem k15_80_1 : okB (cde 15) 80 g15_80_1 = true := by decide +kernel
theorem f15_83 : fch (cde 15) 83 = some (.iastore, 1) := by decide +kernel
def g15_84_1 : List (Jvm.ClassFile.Instr × Nat) := [(.iinc 3 1, 3)]
theorem k15_84_1 : okB (cde 15) 84 g15_84_1 = true := by decide +kernel
def g15_87_1 : List (Jvm.ClassFile.Instr × Nat) := [(.goto 26, 3)]
theorem k15_87_1 : okB (cde 15) 87 g15_87_1 = true := by decide +kernel
def g22_0_1 : List (Jvm.ClassFile.Instr × Nat) := [(.iload 1, 1)]
theorem k22_0_1 : okB (cde 22) 0 g22_0_1 = true := by decide +kernel
theorem f22_1 : fch (cde 22) 1 = some (.ifCond .lt 33, 3) := by decide +kernel
def g22_33_1 : List (Jvm.ClassFile.Instr × Nat) := [(.aconst_null, 1)]
theorem k22_33_1 : okB (cde 22) 33 g22_33_1 = true := by decide +kernel
theorem f22_34 : fch (cde 22) 34 = some (.areturn, 1) := by decide +kernel
def g22_4_4 : List (Jvm.ClassFile.Instr × Nat) := [(.iload 1, 1), (.aload 0, 1), (.getfield 2, 3), (.getfield 1030, 3)]
theorem k22_4_4 : okB (cde 22) 4 g22_4_4 = true := by decide +kernel
theorem f22_12 : fch (cde 22) 12 = some (.if_icmp .ge 33, 3) := by decide +kernel
def g22_15_2 : List (Jvm.ClassFile.Instr × Nat) := [(.iload 1, 1), (.iconst 6, 2)]
theorem k22_15_2 : okB (cde 22) 15 g22_15_2 = true := by decide +kernel
theorem f22_18 : fch (cde 22) 18 = some (.if_icmp .ge 33, 3) := by decide +kernel
def g22_21_4 : List (Jvm.ClassFile.Instr × Nat) := [(.aload 0, 1), (.getfield 2, 3), (.getfield 1022, 3), (.iload 1, 1)]
theorem k22_21_4 : okB (cde 22) 21 g22_21_4 = true := by decide +kernel
theorem f22_29 : fch (cde 22) 29 = some (.aaload, 1) := by decide +kernel
def g22_30_1 : List (Jvm.ClassFile.Instr × Nat) := [(.goto 34, 3)]
theorem k22_30_1 : okB (cde 22) 30 g22_30_1 = true := by decide +kernel
def g26_0_6 : List (Jvm.ClassFile.Instr × Nat) := [(.iconst 0, 1), (.istore 5, 2), (.iconst 0, 1), (.istore 6, 2), (.iconst 0, 1), (.istore 7, 2)]
theorem k26_0_6 : okB (cde 26) 0 g26_0_6 = true := by decide +kernel
def g26_9_2 : List (Jvm.ClassFile.Instr × Nat) := [(.iload 7, 2), (.aload 0, 1)]
theorem k26_9_2 : okB (cde 26) 9 g26_9_2 = true := by decide +kernel
theorem f26_12 : fch (cde 26) 12 = some (.getfield 5000, 3) := by decide +kernel
theorem f26_15 : fch (cde 26) 15 = some (.if_icmp .ge 76, 3) := by decide +kernel
def g26_76_1 : List (Jvm.ClassFile.Instr × Nat) := [(.iload 5, 2)]
theorem k26_76_1 : okB (cde 26) 76 g26_76_1 = true := by decide +kernel
theorem f26_78 : fch (cde 26) 78 = some (.ireturn, 1) := by decide +kernel
def g26_18_1 : List (Jvm.ClassFile.Instr × Nat) := [(.aload 0, 1)]
theorem k26_18_1 : okB (cde 26) 18 g26_18_1 = true := by decide +kernel
theorem f26_19 : fch (cde 26) 19 = some (.getfield 5012, 3) := by decide +kernel
def g26_22_1 : List (Jvm.ClassFile.Instr × Nat) := [(.iload 7, 2)]
theorem k26_22_1 : okB (cde 26) 22 g26_22_1 = true := by decide +kernel
theorem f26_24 : fch (cde 26) 24 = some (.iaload, 1) := by decide +kernel
def g26_25_1 : List (Jvm.ClassFile.Instr × Nat) := [(.iload 1, 1)]
theorem k26_25_1 : okB (cde 26) 25 g26_25_1 = true := by decide +kernel
theorem f26_26 : fch (cde 26) 26 = some (.if_icmp .ne 61, 3) := by decide +kernel
def g26_61_1 : List (Jvm.ClassFile.Instr × Nat) := [(.aload 0, 1)]
theorem k26_61_1 : okB (cde 26) 61 g26_61_1 = true := by decide +kernel
theorem f26_62 : fch (cde 26) 62 = some (.getfield 5032, 3) := by decide +kernel
def g26_65_1 : List (Jvm.ClassFile.Instr × Nat) := [(.iload 7, 2)]
theorem k26_65_1 : okB (cde 26) 65 g26_65_1 = true := by decide +kernel
theorem f26_67 : fch (cde 26) 67 = some (.iaload, 1) := by decide +kernel
def g26_68_2 : List (Jvm.ClassFile.Instr × Nat) := [(.istore 6, 2), (.iinc 7 1, 3)]
theorem k26_68_2 : okB (cde 26) 68 g26_68_2 = true := by decide +kernel
def g26_73_1 : List (Jvm.ClassFile.Instr × Nat) := [(.goto 9, 3)]
theorem k26_73_1 : okB (cde 26) 73 g26_73_1 = true := by decide +kernel
def g26_29_3 : List (Jvm.ClassFile.Instr × Nat) := [(.aload 0, 1), (.iload 6, 2), (.aload 0, 1)]
theorem k26_29_3 : okB (cde 26) 29 g26_29_3 = true := by decide +kernel
theorem f26_33 : fch (cde 26) 33 = some (.getfield 5032, 3) := by decide +kernel
def g26_36_1 : List (Jvm.ClassFile.Instr × Nat) := [(.iload 7, 2)]
theorem k26_36_1 : okB (cde 26) 36 g26_36_1 = true := by decide +kernel
theorem f26_38 : fch (cde 26) 38 = some (.iaload, 1) := by decide +kernel
def g26_39_3 : List (Jvm.ClassFile.Instr × Nat) := [(.aload 2, 1), (.iload 3, 1), (.iload 4, 2)]
theorem k26_39_3 : okB (cde 26) 39 g26_39_3 = true := by decide +kernel
theorem f26_43 : fch (cde 26) 43 = some (.invokestatic 27, 3) := by decide +kernel
theorem f26_46 : fch (cde 26) 46 = some (.ifCond .eq 61, 3) := by decide +kernel
def g26_49_2 : List (Jvm.ClassFile.Instr × Nat) := [(.iload 5, 2), (.aload 0, 1)]
theorem k26_49_2 : okB (cde 26) 49 g26_49_2 = true := by decide +kernel
theorem f26_52 : fch (cde 26) 52 = some (.getfield 5022, 3) := by decide +kernel
def g26_55_1 : List (Jvm.ClassFile.Instr × Nat) := [(.iload 7, 2)]
theorem k26_55_1 : okB (cde 26) 55 g26_55_1 = true := by decide +kernel
theorem f26_57 : fch (cde 26) 57 = some (.iaload, 1) := by decide +kernel
def g26_58_1 : List (Jvm.ClassFile.Instr × Nat) := [(.iadd, 1)]
theorem k26_58_1 : okB (cde 26) 58 g26_58_1 = true := by decide +kernel
def g26_59_2 : List (Jvm.ClassFile.Instr × Nat) := [(.istore 5, 2), (.aload 0, 1)]
theorem k26_59_2 : okB (cde 26) 59 g26_59_2 = true := by decide +kernel
theorem e13_1 {d : Nat} {a0 : Int} {I L : Fn} (h1 : a0 < 0) : CallD (d + 1) 13 [vi a0] (S I L) = some (some (vi 0), S I L) :=
  Eq.trans (Call_eq rfl (ls := [vi a0]) rfl) (Eq.trans (Run_blk (pc' := 1) (ls' := [vi a0]) (st' := [vi a0]) (σ' := S I L) k13_0_1 (rfl)) (Eq.trans (p_if f13_1 (decide_eq_true h1)) (Eq.trans (Run_blk (pc' := 15) (ls' := [vi a0]) (st' := [vi 0]) (σ' := S I L) k13_14_1 (rfl)) (p_ri f13_15 rfl))))
theorem e13_2 {d : Nat} {a0 : Int} {I L : Fn} (h1 : 0 ≤ a0) (h2 : 8 ≤ a0) : CallD (d + 1) 13 [vi a0] (S I L) = some (some (vi 0), S I L) :=
  Eq.trans (Call_eq rfl (ls := [vi a0]) rfl) (Eq.trans (Run_blk (pc' := 1) (ls' := [vi a0]) (st' := [vi a0]) (σ' := S I L) k13_0_1 (rfl)) (Eq.trans (p_ifn f13_1 (decide_eq_false (Int.not_lt.mpr h1))) (Eq.trans (Run_blk (pc' := 7) (ls' := [vi a0]) (st' := [vi 8, vi a0]) (σ' := S I L) k13_4_2 (rfl)) (Eq.trans (p_ic f13_7 (decide_eq_true h2)) (Eq.trans (Run_blk (pc' := 15) (ls' := [vi a0]) (st' := [vi 0]) (σ' := S I L) k13_14_1 (rfl)) (p_ri f13_15 rfl))))))
theorem e13_3 {d : Nat} {a0 : Int} {I L : Fn} (h1 : 0 ≤ a0) (h2 : a0 < 8) : CallD (d + 1) 13 [vi a0] (S I L) = some (some (vi 1), S I L) :=
  Eq.trans (Call_eq rfl (ls := [vi a0]) rfl) (Eq.trans (Run_blk (pc' := 1) (ls' := [vi a0]) (st' := [vi a0]) (σ' := S I L) k13_0_1 (rfl)) (Eq.trans (p_ifn f13_1 (decide_eq_false (Int.not_lt.mpr h1))) (Eq.trans (Run_blk (pc' := 7) (ls' := [vi a0]) (st' := [vi 8, vi a0]) (σ' := S I L) k13_4_2 (rfl)) (Eq.trans (p_icn f13_7 (decide_eq_false (Int.not_le.mpr h2))) (Eq.trans (Run_blk (pc' := 15) (ls' := [vi a0]) (st' := [vi 1]) (σ' := S I L) k13_10_2 (rfl)) (p_ri f13_15 rfl))))))
noncomputable def y15_18 (F : Cal) (x2 : Int) (I L : Fn) : Option Ans := RunX none F 15 18 [vr 75, vu, vi x2, vu, vu] [] (S I L)
noncomputable def y15_26 (F : Cal) (x2 : Int) (x3 : Int) (I L : Fn) : Option Ans := RunX none F 15 26 [vr 75, vu, vi x2, vi x3, vu] [] (S I L)
theorem e15_1 {d : Nat} {a1 : Int} {I1 L1 : Fn} {I L : Fn} (h1 : (CallD d) 11 [vr 76, vi 99] (S I L) = some (none, S I1 L1)) (h2 : 0 ≤ a1 ∧ a1 < 8) : CallD (d + 1) 15 [vr 75, vi a1] (S I L) = y15_18 (CallD d) 1 (up I1 76 a1.toNat 0) L1 :=
  Eq.trans (Call_eq rfl (ls := [vr 75, vi a1, vu, vu, vu]) rfl) (Eq.trans (Run_blk (pc' := 6) (ls' := [vr 75, vi a1, vu, vu, vu]) (st' := [vi 99, vr 76]) (σ' := S I L) k15_0_3 (rfl)) (Eq.trans (p_call f15_6 (as := [vr 76, vi 99]) (r := []) rfl rfl (rfl) h1) (Eq.trans (Run_blk (pc' := 15) (ls' := [vr 75, vi a1, vu, vu, vu]) (st' := [vi 0, vi a1, vr 76]) (σ' := S I1 L1) k15_9_4 (rfl)) (Eq.trans (p_iast f15_15 rfl (by decide) h2) (Eq.trans (Run_blk (pc' := 18) (ls' := [vr 75, vi a1, vi 1, vu, vu]) (st' := []) (σ' := S (up I1 76 a1.toNat 0) L1) k15_16_2 (rfl)) (Eq.trans (Run_clr okl_15 (b := [vr 75, vu, vi 1, vu, vu]) rfl) (rfl)))))))
theorem y15_18_1 {F : Cal} {x2 : Int} {I L : Fn} (h1 : 8 ≤ x2) : y15_18 F x2 I L = some (none, S I L) :=
  Eq.trans (Run_blk (pc' := 21) (ls' := [vr 75, vu, vi x2, vu, vu]) (st' := [vi 8, vi x2]) (σ' := S I L) k15_18_2 (rfl)) (Eq.trans (p_ic f15_21 (decide_eq_true h1)) (p_rv f15_96))
theorem y15_18_2 {F : Cal} {x2 : Int} {I L : Fn} (h1 : x2 < 8) : y15_18 F x2 I L = y15_26 F x2 0 I L :=
  Eq.trans (Run_blk (pc' := 21) (ls' := [vr 75, vu, vi x2, vu, vu]) (st' := [vi 8, vi x2]) (σ' := S I L) k15_18_2 (rfl)) (Eq.trans (p_icn f15_21 (decide_eq_false (Int.not_le.mpr h1))) (Eq.trans (Run_blk (pc' := 26) (ls' := [vr 75, vu, vi x2, vi 0, vu]) (st' := []) (σ' := S I L) k15_24_2 (rfl)) (rfl)))
theorem y15_26_1 {F : Cal} {x2 x3 v1 : Int} {I L : Fn} (h1 : 8 ≤ x3) (h2 : w32 (x2 + 1) = v1) : y15_26 F x2 x3 I L = y15_18 F v1 I L :=
  Eq.trans (Run_blk (pc' := 29) (ls' := [vr 75, vu, vi x2, vi x3, vu]) (st' := [vi 8, vi x3]) (σ' := S I L) k15_26_2 (rfl)) (Eq.trans (p_ic f15_29 (decide_eq_true h1)) (Eq.trans (Run_blk (pc' := 93) (ls' := [vr 75, vu, vi v1, vi x3, vu]) (st' := []) (σ' := S I L) k15_90_1 (by subst h2; rfl)) (Eq.trans (Run_blk (pc' := 18) (ls' := [vr 75, vu, vi v1, vi x3, vu]) (st' := []) (σ' := S I L) k15_93_1 (rfl)) (Eq.trans (Run_clr okl_15 (b := [vr 75, vu, vi v1, vu, vu]) rfl) (rfl)))))
theorem y15_26_2 {F : Cal} {x2 x3 v1 v2 v3 v4 v5 v6 v7 v8 v9 : Int} {I L : Fn} (h1 : x3 < 8) (h2 : 0 ≤ x3 ∧ x3 < 8) (h3 : I 11 x3.toNat = v1) (h4 : 0 ≤ v1 ∧ v1 < 8) (h5 : I 76 v1.toNat = v2) (h6 : 0 ≤ x3 ∧ x3 < 8) (h7 : I 12 x3.toNat = v3) (h8 : 0 ≤ v3 ∧ v3 < 8) (h9 : I 76 v3.toNat = v4) (h10 : (if v4 < v2 then v4 else v2) = v5) (h11 : 0 ≤ x3 ∧ x3 < 8) (h12 : I 76 x3.toNat = v6) (h13 : (w32 (v5 + 1)) = v7) (h14 : (if v7 < v6 then v7 else v6) = v8) (h15 : 0 ≤ x3 ∧ x3 < 8) (h16 : w32 (x3 + 1) = v9) : y15_26 F x2 x3 I L = y15_26 F x2 v9 (up I 76 x3.toNat v8) L :=
  Eq.trans (Run_blk (pc' := 29) (ls' := [vr 75, vu, vi x2, vi x3, vu]) (st' := [vi 8, vi x3]) (σ' := S I L) k15_26_2 (rfl)) (Eq.trans (p_icn f15_29 (decide_eq_false (Int.not_le.mpr h1))) (Eq.trans (Run_blk (pc' := 44) (ls' := [vr 75, vu, vi x2, vi x3, vu]) (st' := [vi x3, vr 11, vr 76]) (σ' := S I L) k15_32_6 (rfl)) (Eq.trans (p_iald f15_44 rfl h2 h3) (Eq.trans (p_iald f15_45 rfl h4 h5) (Eq.trans (Run_blk (pc' := 58) (ls' := [vr 75, vu, vi x2, vi x3, vu]) (st' := [vi x3, vr 12, vr 76, vi v2]) (σ' := S I L) k15_46_6 (rfl)) (Eq.trans (p_iald f15_58 rfl h6 h7) (Eq.trans (p_iald f15_59 rfl h8 h9) (Eq.trans (Run_blk (pc' := 63) (ls' := [vr 75, vu, vi x2, vi x3, vu]) (st' := [vi (if v4 < v2 then v4 else v2)]) (σ' := S I L) k15_60_1 (rfl)) (Eq.trans (p_nm h10) (Eq.trans (Run_blk (pc' := 75) (ls' := [vr 75, vu, vi x2, vi x3, vi v5]) (st' := [vi x3, vr 76, vi x3, vr 76]) (σ' := S I L) k15_63_7 (rfl)) (Eq.trans (p_iald f15_75 rfl h11 h12) (Eq.trans (Run_blk (pc' := 80) (ls' := [vr 75, vu, vi x2, vi x3, vi v5]) (st' := [vi (w32 (v5 + 1)), vi v6, vi x3, vr 76]) (σ' := S I L) k15_76_3 (rfl)) (Eq.trans (p_nm h13) (Eq.trans (Run_blk (pc' := 83) (ls' := [vr 75, vu, vi x2, vi x3, vi v5]) (st' := [vi (if v7 < v6 then v7 else v6), vi x3, vr 76]) (σ' := S I L) k15_80_1 (rfl)) (Eq.trans (p_nm h14) (Eq.trans (p_iast f15_83 rfl (by decide) h15) (Eq.trans (Run_blk (pc' := 87) (ls' := [vr 75, vu, vi x2, vi v9, vi v5]) (st' := []) (σ' := S (up I 76 x3.toNat v8) L) k15_84_1 (by subst h16; rfl)) (Eq.trans (Run_blk (pc' := 26) (ls' := [vr 75, vu, vi x2, vi v9, vi v5]) (st' := []) (σ' := S (up I 76 x3.toNat v8) L) k15_87_1 (rfl)) (Eq.trans (Run_clr okl_15 (b := [vr 75, vu, vi x2, vi v9, vu]) rfl) (rfl))))))))))))))))))))
theorem e22_1 {d : Nat} {a1 : Int} {I L : Fn} (h1 : a1 < 0) : CallD (d + 1) 22 [vr 9, vi a1] (S I L) = some (some vn, S I L) :=
  Eq.trans (Call_eq rfl (ls := [vr 9, vi a1]) rfl) (Eq.trans (Run_blk (pc' := 1) (ls' := [vr 9, vi a1]) (st' := [vi a1]) (σ' := S I L) k22_0_1 (rfl)) (Eq.trans (p_if f22_1 (decide_eq_true h1)) (Eq.trans (Run_blk (pc' := 34) (ls' := [vr 9, vi a1]) (st' := [vn]) (σ' := S I L) k22_33_1 (rfl)) (p_rn f22_34))))
theorem e22_2 {d : Nat} {a1 v1 : Int} {I L : Fn} (h1 : 0 ≤ a1) (h2 : (I 10 3) = v1) (h3 : v1 ≤ a1) : CallD (d + 1) 22 [vr 9, vi a1] (S I L) = some (some vn, S I L) :=
  Eq.trans (Call_eq rfl (ls := [vr 9, vi a1]) rfl) (Eq.trans (Run_blk (pc' := 1) (ls' := [vr 9, vi a1]) (st' := [vi a1]) (σ' := S I L) k22_0_1 (rfl)) (Eq.trans (p_ifn f22_1 (decide_eq_false (Int.not_lt.mpr h1))) (Eq.trans (Run_blk (pc' := 12) (ls' := [vr 9, vi a1]) (st' := [vi (I 10 3), vi a1]) (σ' := S I L) k22_4_4 (rfl)) (Eq.trans (p_nm h2) (Eq.trans (p_ic f22_12 (decide_eq_true h3)) (Eq.trans (Run_blk (pc' := 34) (ls' := [vr 9, vi a1]) (st' := [vn]) (σ' := S I L) k22_33_1 (rfl)) (p_rn f22_34)))))))
theorem e22_3 {d : Nat} {a1 v1 : Int} {I L : Fn} (h1 : 0 ≤ a1) (h2 : (I 10 3) = v1) (h3 : a1 < v1) (h4 : 6 ≤ a1) : CallD (d + 1) 22 [vr 9, vi a1] (S I L) = some (some vn, S I L) :=
  Eq.trans (Call_eq rfl (ls := [vr 9, vi a1]) rfl) (Eq.trans (Run_blk (pc' := 1) (ls' := [vr 9, vi a1]) (st' := [vi a1]) (σ' := S I L) k22_0_1 (rfl)) (Eq.trans (p_ifn f22_1 (decide_eq_false (Int.not_lt.mpr h1))) (Eq.trans (Run_blk (pc' := 12) (ls' := [vr 9, vi a1]) (st' := [vi (I 10 3), vi a1]) (σ' := S I L) k22_4_4 (rfl)) (Eq.trans (p_nm h2) (Eq.trans (p_icn f22_12 (decide_eq_false (Int.not_le.mpr h3))) (Eq.trans (Run_blk (pc' := 18) (ls' := [vr 9, vi a1]) (st' := [vi 6, vi a1]) (σ' := S I L) k22_15_2 (rfl)) (Eq.trans (p_ic f22_18 (decide_eq_true h4)) (Eq.trans (Run_blk (pc' := 34) (ls' := [vr 9, vi a1]) (st' := [vn]) (σ' := S I L) k22_33_1 (rfl)) (p_rn f22_34)))))))))
theorem e22_4 {d : Nat} {a1 v1 : Int} {q2 : Nat} {I L : Fn} (h1 : 0 ≤ a1) (h2 : (I 10 3) = v1) (h3 : a1 < v1) (h4 : a1 < 6) (h5 : 0 ≤ a1 ∧ a1 < 6) (h6 : R0 13 a1.toNat = some q2) : CallD (d + 1) 22 [vr 9, vi a1] (S I L) = some (some (vr q2), S I L) :=
  Eq.trans (Call_eq rfl (ls := [vr 9, vi a1]) rfl) (Eq.trans (Run_blk (pc' := 1) (ls' := [vr 9, vi a1]) (st' := [vi a1]) (σ' := S I L) k22_0_1 (rfl)) (Eq.trans (p_ifn f22_1 (decide_eq_false (Int.not_lt.mpr h1))) (Eq.trans (Run_blk (pc' := 12) (ls' := [vr 9, vi a1]) (st' := [vi (I 10 3), vi a1]) (σ' := S I L) k22_4_4 (rfl)) (Eq.trans (p_nm h2) (Eq.trans (p_icn f22_12 (decide_eq_false (Int.not_le.mpr h3))) (Eq.trans (Run_blk (pc' := 18) (ls' := [vr 9, vi a1]) (st' := [vi 6, vi a1]) (σ' := S I L) k22_15_2 (rfl)) (Eq.trans (p_icn f22_18 (decide_eq_false (Int.not_le.mpr h4))) (Eq.trans (Run_blk (pc' := 29) (ls' := [vr 9, vi a1]) (st' := [vi a1, vr 13]) (σ' := S I L) k22_21_4 (rfl)) (Eq.trans (p_aald f22_29 rfl (by decide) h5 h6) (Eq.trans (Run_blk (pc' := 34) (ls' := [vr 9, vi a1]) (st' := [vr q2]) (σ' := S I L) k22_30_1 (rfl)) (p_ra f22_34)))))))))))
noncomputable def y26_9 (F : Cal) (k0 : Nat) (x1 : Int) (k2 : Nat) (x3 : Int) (x4 : Int) (x5 : Int) (x6 : Int) (x7 : Int) (I L : Fn) : Option Ans := RunX none F 26 9 [vr k0, vi x1, vr k2, vi x3, vi x4, vi x5, vi x6, vi x7] [] (S I L)
theorem e26_1 {d : Nat} {a1 a3 a4 : Int} {k0 k2 : Nat} {I L : Fn} : CallD (d + 1) 26 [vr k0, vi a1, vr k2, vi a3, vi a4] (S I L) = y26_9 (CallD d) k0 a1 k2 a3 a4 0 0 0 I L :=
  Eq.trans (Call_eq rfl (ls := [vr k0, vi a1, vr k2, vi a3, vi a4, vu, vu, vu]) rfl) (Eq.trans (Run_blk (pc' := 9) (ls' := [vr k0, vi a1, vr k2, vi a3, vi a4, vi 0, vi 0, vi 0]) (st' := []) (σ' := S I L) k26_0_6 (rfl)) (rfl))
theorem y26_9_1 {F : Cal} {k0 k2 : Nat} {x1 x3 x4 x5 x6 x7 v1 : Int} {I L : Fn} (h1 : nth K0 k0 = some (5, 6)) (h2 : I k0 0 = v1) (h3 : v1 ≤ x7) : y26_9 F k0 x1 k2 x3 x4 x5 x6 x7 I L = some (some (vi x5), S I L) :=
  Eq.trans (Run_blk (pc' := 12) (ls' := [vr k0, vi x1, vr k2, vi x3, vi x4, vi x5, vi x6, vi x7]) (st' := [vr k0, vi x7]) (σ' := S I L) k26_9_2 (rfl)) (Eq.trans (p_geti f26_12 h1 rfl (by decide) h2) (Eq.trans (p_ic f26_15 (decide_eq_true h3)) (Eq.trans (Run_blk (pc' := 78) (ls' := [vr k0, vi x1, vr k2, vi x3, vi x4, vi x5, vi x6, vi x7]) (st' := [vi x5]) (σ' := S I L) k26_76_1 (rfl)) (p_ri f26_78 rfl))))
theorem y26_9_2 {F : Cal} {k0 k2 q2 q4 : Nat} {x1 x3 x4 x5 x6 x7 v1 v3 v5 v6 : Int} {I L : Fn} (h1 : nth K0 k0 = some (5, 6)) (h2 : I k0 0 = v1) (h3 : x7 < v1) (h4 : R0 k0 1 = some q2) (h5 : nth K0 q2 = some (100, 10)) (h6 : 0 ≤ x7 ∧ x7 < 10) (h7 : I q2 x7.toNat = v3) (h8 : ¬ v3 = x1) (h9 : R0 k0 3 = some q4) (h10 : nth K0 q4 = some (100, 10)) (h11 : 0 ≤ x7 ∧ x7 < 10) (h12 : I q4 x7.toNat = v5) (h13 : w32 (x7 + 1) = v6) : y26_9 F k0 x1 k2 x3 x4 x5 x6 x7 I L = y26_9 F k0 x1 k2 x3 x4 x5 v5 v6 I L :=
  Eq.trans (Run_blk (pc' := 12) (ls' := [vr k0, vi x1, vr k2, vi x3, vi x4, vi x5, vi x6, vi x7]) (st' := [vr k0, vi x7]) (σ' := S I L) k26_9_2 (rfl)) (Eq.trans (p_geti f26_12 h1 rfl (by decide) h2) (Eq.trans (p_icn f26_15 (decide_eq_false (Int.not_le.mpr h3))) (Eq.trans (Run_blk (pc' := 19) (ls' := [vr k0, vi x1, vr k2, vi x3, vi x4, vi x5, vi x6, vi x7]) (st' := [vr k0]) (σ' := S I L) k26_18_1 (rfl)) (Eq.trans (p_getr f26_19 h1 rfl rfl h4) (Eq.trans (Run_blk (pc' := 24) (ls' := [vr k0, vi x1, vr k2, vi x3, vi x4, vi x5, vi x6, vi x7]) (st' := [vi x7, vr q2]) (σ' := S I L) k26_22_1 (rfl)) (Eq.trans (p_iald f26_24 h5 h6 h7) (Eq.trans (Run_blk (pc' := 26) (ls' := [vr k0, vi x1, vr k2, vi x3, vi x4, vi x5, vi x6, vi x7]) (st' := [vi x1, vi v3]) (σ' := S I L) k26_25_1 (rfl)) (Eq.trans (p_ic f26_26 (decide_eq_true h8)) (Eq.trans (Run_blk (pc' := 62) (ls' := [vr k0, vi x1, vr k2, vi x3, vi x4, vi x5, vi x6, vi x7]) (st' := [vr k0]) (σ' := S I L) k26_61_1 (rfl)) (Eq.trans (p_getr f26_62 h1 rfl rfl h9) (Eq.trans (Run_blk (pc' := 67) (ls' := [vr k0, vi x1, vr k2, vi x3, vi x4, vi x5, vi x6, vi x7]) (st' := [vi x7, vr q4]) (σ' := S I L) k26_65_1 (rfl)) (Eq.trans (p_iald f26_67 h10 h11 h12) (Eq.trans (Run_blk (pc' := 73) (ls' := [vr k0, vi x1, vr k2, vi x3, vi x4, vi x5, vi v5, vi v6]) (st' := []) (σ' := S I L) k26_68_2 (by subst h13; rfl)) (Eq.trans (Run_blk (pc' := 9) (ls' := [vr k0, vi x1, vr k2, vi x3, vi x4, vi x5, vi v5, vi v6]) (st' := []) (σ' := S I L) k26_73_1 (rfl)) (rfl)))))))))))))))
theorem y26_9_3 {F : Cal} {k0 k2 q2 q4 q8 : Nat} {x1 x3 x4 x5 x6 x7 v1 v3 v5 v7 v9 v10 : Int} {I6 L6 : Fn} {I L : Fn} (h1 : nth K0 k0 = some (5, 6)) (h2 : I k0 0 = v1) (h3 : x7 < v1) (h4 : R0 k0 1 = some q2) (h5 : nth K0 q2 = some (100, 10)) (h6 : 0 ≤ x7 ∧ x7 < 10) (h7 : I q2 x7.toNat = v3) (h8 : v3 = x1) (h9 : R0 k0 3 = some q4) (h10 : nth K0 q4 = some (100, 10)) (h11 : 0 ≤ x7 ∧ x7 < 10) (h12 : I q4 x7.toNat = v5) (h13 : F 27 [vr k0, vi x6, vi v5, vr k2, vi x3, vi x4] (S I L) = some (some (vi v7), S I6 L6)) (h14 : v7 = 0) (h15 : R0 k0 3 = some q8) (h16 : nth K0 q8 = some (100, 10)) (h17 : 0 ≤ x7 ∧ x7 < 10) (h18 : I6 q8 x7.toNat = v9) (h19 : w32 (x7 + 1) = v10) : y26_9 F k0 x1 k2 x3 x4 x5 x6 x7 I L = y26_9 F k0 x1 k2 x3 x4 x5 v9 v10 I6 L6 :=
  Eq.trans (Run_blk (pc' := 12) (ls' := [vr k0, vi x1, vr k2, vi x3, vi x4, vi x5, vi x6, vi x7]) (st' := [vr k0, vi x7]) (σ' := S I L) k26_9_2 (rfl)) (Eq.trans (p_geti f26_12 h1 rfl (by decide) h2) (Eq.trans (p_icn f26_15 (decide_eq_false (Int.not_le.mpr h3))) (Eq.trans (Run_blk (pc' := 19) (ls' := [vr k0, vi x1, vr k2, vi x3, vi x4, vi x5, vi x6, vi x7]) (st' := [vr k0]) (σ' := S I L) k26_18_1 (rfl)) (Eq.trans (p_getr f26_19 h1 rfl rfl h4) (Eq.trans (Run_blk (pc' := 24) (ls' := [vr k0, vi x1, vr k2, vi x3, vi x4, vi x5, vi x6, vi x7]) (st' := [vi x7, vr q2]) (σ' := S I L) k26_22_1 (rfl)) (Eq.trans (p_iald f26_24 h5 h6 h7) (Eq.trans (Run_blk (pc' := 26) (ls' := [vr k0, vi x1, vr k2, vi x3, vi x4, vi x5, vi x6, vi x7]) (st' := [vi x1, vi v3]) (σ' := S I L) k26_25_1 (rfl)) (Eq.trans (p_icn f26_26 (decide_eq_false (not_not_intro h8))) (Eq.trans (Run_blk (pc' := 33) (ls' := [vr k0, vi x1, vr k2, vi x3, vi x4, vi x5, vi x6, vi x7]) (st' := [vr k0, vi x6, vr k0]) (σ' := S I L) k26_29_3 (rfl)) (Eq.trans (p_getr f26_33 h1 rfl rfl h9) (Eq.trans (Run_blk (pc' := 38) (ls' := [vr k0, vi x1, vr k2, vi x3, vi x4, vi x5, vi x6, vi x7]) (st' := [vi x7, vr q4, vi x6, vr k0]) (σ' := S I L) k26_36_1 (rfl)) (Eq.trans (p_iald f26_38 h10 h11 h12) (Eq.trans (Run_blk (pc' := 43) (ls' := [vr k0, vi x1, vr k2, vi x3, vi x4, vi x5, vi x6, vi x7]) (st' := [vi x4, vi x3, vr k2, vi v5, vi x6, vr k0]) (σ' := S I L) k26_39_3 (rfl)) (Eq.trans (p_call f26_43 (as := [vr k0, vi x6, vi v5, vr k2, vi x3, vi x4]) (r := []) rfl rfl (cok_k rfl h1) h13) (Eq.trans (p_if f26_46 (decide_eq_true h14)) (Eq.trans (Run_blk (pc' := 62) (ls' := [vr k0, vi x1, vr k2, vi x3, vi x4, vi x5, vi x6, vi x7]) (st' := [vr k0]) (σ' := S I6 L6) k26_61_1 (rfl)) (Eq.trans (p_getr f26_62 h1 rfl rfl h15) (Eq.trans (Run_blk (pc' := 67) (ls' := [vr k0, vi x1, vr k2, vi x3, vi x4, vi x5, vi x6, vi x7]) (st' := [vi x7, vr q8]) (σ' := S I6 L6) k26_65_1 (rfl)) (Eq.trans (p_iald f26_67 h16 h17 h18) (Eq.trans (Run_blk (pc' := 73) (ls' := [vr k0, vi x1, vr k2, vi x3, vi x4, vi x5, vi v9, vi v10]) (st' := []) (σ' := S I6 L6) k26_68_2 (by subst h19; rfl)) (Eq.trans (Run_blk (pc' := 9) (ls' := [vr k0, vi x1, vr k2, vi x3, vi x4, vi x5, vi v9, vi v10]) (st' := []) (σ' := S I6 L6) k26_73_1 (rfl)) (rfl))))))))))))))))))))))
theorem y26_9_4 {F : Cal} {k0 k2 q2 q4 q8 q11 : Nat} {x1 x3 x4 x5 x6 x7 v1 v3 v5 v7 v9 v10 v12 v13 : Int} {I6 L6 : Fn} {I L : Fn} (h1 : nth K0 k0 = some (5, 6)) (h2 : I k0 0 = v1) (h3 : x7 < v1) (h4 : R0 k0 1 = some q2) (h5 : nth K0 q2 = some (100, 10)) (h6 : 0 ≤ x7 ∧ x7 < 10) (h7 : I q2 x7.toNat = v3) (h8 : v3 = x1) (h9 : R0 k0 3 = some q4) (h10 : nth K0 q4 = some (100, 10)) (h11 : 0 ≤ x7 ∧ x7 < 10) (h12 : I q4 x7.toNat = v5) (h13 : F 27 [vr k0, vi x6, vi v5, vr k2, vi x3, vi x4] (S I L) = some (some (vi v7), S I6 L6)) (h14 : ¬ v7 = 0) (h15 : R0 k0 2 = some q8) (h16 : nth K0 q8 = some (100, 10)) (h17 : 0 ≤ x7 ∧ x7 < 10) (h18 : I6 q8 x7.toNat = v9) (h19 : (w32 (x5 + v9)) = v10) (h20 : R0 k0 3 = some q11) (h21 : nth K0 q11 = some (100, 10)) (h22 : 0 ≤ x7 ∧ x7 < 10) (h23 : I6 q11 x7.toNat = v12) (h24 : w32 (x7 + 1) = v13) : y26_9 F k0 x1 k2 x3 x4 x5 x6 x7 I L = y26_9 F k0 x1 k2 x3 x4 v10 v12 v13 I6 L6 :=
  Eq.trans (Run_blk (pc' := 12) (ls' := [vr k0, vi x1, vr k2, vi x3, vi x4, vi x5, vi x6, vi x7]) (st' := [vr k0, vi x7]) (σ' := S I L) k26_9_2 (rfl)) (Eq.trans (p_geti f26_12 h1 rfl (by decide) h2) (Eq.trans (p_icn f26_15 (decide_eq_false (Int.not_le.mpr h3))) (Eq.trans (Run_blk (pc' := 19) (ls' := [vr k0, vi x1, vr k2, vi x3, vi x4, vi x5, vi x6, vi x7]) (st' := [vr k0]) (σ' := S I L) k26_18_1 (rfl)) (Eq.trans (p_getr f26_19 h1 rfl rfl h4) (Eq.trans (Run_blk (pc' := 24) (ls' := [vr k0, vi x1, vr k2, vi x3, vi x4, vi x5, vi x6, vi x7]) (st' := [vi x7, vr q2]) (σ' := S I L) k26_22_1 (rfl)) (Eq.trans (p_iald f26_24 h5 h6 h7) (Eq.trans (Run_blk (pc' := 26) (ls' := [vr k0, vi x1, vr k2, vi x3, vi x4, vi x5, vi x6, vi x7]) (st' := [vi x1, vi v3]) (σ' := S I L) k26_25_1 (rfl)) (Eq.trans (p_icn f26_26 (decide_eq_false (not_not_intro h8))) (Eq.trans (Run_blk (pc' := 33) (ls' := [vr k0, vi x1, vr k2, vi x3, vi x4, vi x5, vi x6, vi x7]) (st' := [vr k0, vi x6, vr k0]) (σ' := S I L) k26_29_3 (rfl)) (Eq.trans (p_getr f26_33 h1 rfl rfl h9) (Eq.trans (Run_blk (pc' := 38) (ls' := [vr k0, vi x1, vr k2, vi x3, vi x4, vi x5, vi x6, vi x7]) (st' := [vi x7, vr q4, vi x6, vr k0]) (σ' := S I L) k26_36_1 (rfl)) (Eq.trans (p_iald f26_38 h10 h11 h12) (Eq.trans (Run_blk (pc' := 43) (ls' := [vr k0, vi x1, vr k2, vi x3, vi x4, vi x5, vi x6, vi x7]) (st' := [vi x4, vi x3, vr k2, vi v5, vi x6, vr k0]) (σ' := S I L) k26_39_3 (rfl)) (Eq.trans (p_call f26_43 (as := [vr k0, vi x6, vi v5, vr k2, vi x3, vi x4]) (r := []) rfl rfl (cok_k rfl h1) h13) (Eq.trans (p_ifn f26_46 (decide_eq_false h14)) (Eq.trans (Run_blk (pc' := 52) (ls' := [vr k0, vi x1, vr k2, vi x3, vi x4, vi x5, vi x6, vi x7]) (st' := [vr k0, vi x5]) (σ' := S I6 L6) k26_49_2 (rfl)) (Eq.trans (p_getr f26_52 h1 rfl rfl h15) (Eq.trans (Run_blk (pc' := 57) (ls' := [vr k0, vi x1, vr k2, vi x3, vi x4, vi x5, vi x6, vi x7]) (st' := [vi x7, vr q8, vi x5]) (σ' := S I6 L6) k26_55_1 (rfl)) (Eq.trans (p_iald f26_57 h16 h17 h18) (Eq.trans (Run_blk (pc' := 59) (ls' := [vr k0, vi x1, vr k2, vi x3, vi x4, vi x5, vi x6, vi x7]) (st' := [vi (w32 (x5 + v9))]) (σ' := S I6 L6) k26_58_1 (rfl)) (Eq.trans (p_nm h19) (Eq.trans (Run_blk (pc' := 62) (ls' := [vr k0, vi x1, vr k2, vi x3, vi x4, vi v10, vi x6, vi x7]) (st' := [vr k0]) (σ' := S I6 L6) k26_59_2 (rfl)) (Eq.trans (p_getr f26_62 h1 rfl rfl h20) (Eq.trans (Run_blk (pc' := 67) (ls' := [vr k0, vi x1, vr k2, vi x3, vi x4, vi v10, vi x6, vi x7]) (st' := [vi x7, vr q11]) (σ' := S I6 L6) k26_65_1 (rfl)) (Eq.trans (p_iald f26_67 h21 h22 h23) (Eq.trans (Run_blk (pc' := 73) (ls' := [vr k0, vi x1, vr k2, vi x3, vi x4, vi v10, vi v12, vi v13]) (st' := []) (σ' := S I6 L6) k26_68_2 (by subst h24; rfl)) (Eq.trans (Run_blk (pc' := 9) (ls' := [vr k0, vi x1, vr k2, vi x3, vi x4, vi v10, vi v12, vi v13]) (st' := []) (σ' := S I6 L6) k26_73_1 (rfl)) (rfl))))))))))))))))))))))))))))
