set_option maxRecDepth 100000 in
theorem okM_140e : lw_tbl[1038]? = some (Jvm.Cond.code (mY 140) (mB 140) (mL 140) (mR 140)) := rfl
theorem okM_140w : hasW 1038 (Jvm.Cond.code (mY 140) (mB 140) (mL 140) (mR 140)) = true := by
  unfold hasW
  rw [decide_eq_true okM_140e, Bool.true_and]
  decide +kernel
theorem okM_140 : okM 140 = true := by
  unfold okM
  rw [show nth codeP 140 = some 1038 from by decide +kernel]
  show (hasW 1038 (Jvm.Cond.code (mY 140) (mB 140) (mL 140) (mR 140)) && _) = true
  rw [okM_140w, Bool.true_and]
  decide +kernel
theorem okM_141 : okM 141 = true := by decide +kernel
theorem okM_142 : okM 142 = true := by decide +kernel
theorem okM_143 : okM 143 = true := by decide +kernel
theorem ckM_35 : (((List.range 236).drop 140).take 4).all (fun m => okM m) = true := by
  rw [show ((List.range 236).drop 140).take 4 = [140, 141, 142, 143] from by decide +kernel]
  rw [List.all_cons, List.all_cons, List.all_cons, List.all_cons, okM_140, okM_141, okM_142, okM_143]
  rfl
theorem ckM : ∀ m, m < 236 → (okM m) = true := fun m hm => List.all_eq_true.mp (ck_join (List.range 236) (fun m => okM m) 4 59 (by decide +kernel) (fun i hi => match i, hi with
  | 0, _ => ckM_0
  | 1, _ => ckM_1
  | 2, _ => ckM_2
  | 3, _ => ckM_3
  | 4, _ => ckM_4
  | 5, _ => ckM_5
  | 6, _ => ckM_6
  | 7, _ => ckM_7
  | 8, _ => ckM_8
  | 9, _ => ckM_9
  | 10, _ => ckM_10
  | 11, _ => ckM_11
  | 12, _ => ckM_12
  | 13, _ => ckM_13
  | 14, _ => ckM_14
  | 15, _ => ckM_15
  | 16, _ => ckM_16
  | 17, _ => ckM_17
  | 18, _ => ckM_18
  | 19, _ => ckM_19
  | 20, _ => ckM_20
  | 21, _ => ckM_21
  | 22, _ => ckM_22
  | 23, _ => ckM_23
  | 24, _ => ckM_24
  | 25, _ => ckM_25
  | 26, _ => ckM_26
  | 27, _ => ckM_27
  | 28, _ => ckM_28
  | 29, _ => ckM_29
  | 30, _ => ckM_30
  | 31, _ => ckM_31
  | 32, _ => ckM_32
  | 33, _ => ckM_33
  | 34, _ => ckM_34
  | 35, _ => ckM_35
  | 36, _ => ckM_36
  | 37, _ => ckM_37
  | 38, _ => ckM_38
  | 39, _ => ckM_39
  | 40, _ => ckM_40
  | 41, _ => ckM_41
  | 42, _ => ckM_42
  | 43, _ => ckM_43
  | 44, _ => ckM_44
  | 45, _ => ckM_45
  | 46, _ => ckM_46
  | 47, _ => ckM_47
  | 48, _ => ckM_48
  | 49, _ => ckM_49
  | 50, _ => ckM_50
  | 51, _ => ckM_51
  | 52, _ => ckM_52
  | 53, _ => ckM_53
  | 54, _ => ckM_54
  | 55, _ => ckM_55
  | 56, _ => ckM_56
  | 57, _ => ckM_57
  | 58, _ => ckM_58
  | i + 59, h => absurd h (by omega))) m (List.mem_range.mpr hm)
