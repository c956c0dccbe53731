set_option maxRecDepth 100000 in
theorem ckP_0 : (((List.range 237).drop 0).take 24).all (fun m => okP m) = true := by decide +kernel
set_option maxRecDepth 100000 in
theorem ckP_1 : (((List.range 237).drop 24).take 24).all (fun m => okP m) = true := by decide +kernel
set_option maxRecDepth 100000 in
theorem ckP_2 : (((List.range 237).drop 48).take 24).all (fun m => okP m) = true := by decide +kernel
set_option maxRecDepth 100000 in
theorem ckP_3 : (((List.range 237).drop 72).take 24).all (fun m => okP m) = true := by decide +kernel
set_option maxRecDepth 100000 in
theorem ckP_4 : (((List.range 237).drop 96).take 24).all (fun m => okP m) = true := by decide +kernel
set_option maxRecDepth 100000 in
theorem ckP_5 : (((List.range 237).drop 120).take 24).all (fun m => okP m) = true := by decide +kernel
set_option maxRecDepth 100000 in
theorem ckP_6 : (((List.range 237).drop 144).take 24).all (fun m => okP m) = true := by decide +kernel
set_option maxRecDepth 100000 in
theorem ckP_7 : (((List.range 237).drop 168).take 24).all (fun m => okP m) = true := by decide +kernel
set_option maxRecDepth 100000 in
theorem ckP_8 : (((List.range 237).drop 192).take 24).all (fun m => okP m) = true := by decide +kernel
set_option maxRecDepth 100000 in
theorem ckP_9 : (((List.range 237).drop 216).take 24).all (fun m => okP m) = true := by decide +kernel
theorem ckP : ∀ m, m < 237 → (okP m) = true := fun m hm => List.all_eq_true.mp (ck_join (List.range 237) (fun m => okP m) 24 10 (by decide +kernel) (fun i hi => match i, hi with
  | 0, _ => ckP_0
  | 1, _ => ckP_1
  | 2, _ => ckP_2
  | 3, _ => ckP_3
  | 4, _ => ckP_4
  | 5, _ => ckP_5
  | 6, _ => ckP_6
  | 7, _ => ckP_7
  | 8, _ => ckP_8
  | 9, _ => ckP_9
  | i + 10, h => absurd h (by omega))) m (List.mem_range.mpr hm)
set_option maxRecDepth 100000 in
theorem ckM_0 : (((List.range 236).drop 0).take 4).all (fun m => okM m) = true := by decide +kernel
set_option maxRecDepth 100000 in
theorem ckM_1 : (((List.range 236).drop 4).take 4).all (fun m => okM m) = true := by decide +kernel
set_option maxRecDepth 100000 in
theorem ckM_2 : (((List.range 236).drop 8).take 4).all (fun m => okM m) = true := by decide +kernel
set_option maxRecDepth 100000 in
theorem ckM_3 : (((List.range 236).drop 12).take 4).all (fun m => okM m) = true := by decide +kernel
set_option maxRecDepth 100000 in
theorem ckM_4 : (((List.range 236).drop 16).take 4).all (fun m => okM m) = true := by decide +kernel
set_option maxRecDepth 100000 in
theorem ckM_5 : (((List.range 236).drop 20).take 4).all (fun m => okM m) = true := by decide +kernel
set_option maxRecDepth 100000 in
theorem ckM_6 : (((List.range 236).drop 24).take 4).all (fun m => okM m) = true := by decide +kernel
set_option maxRecDepth 100000 in
theorem ckM_7 : (((List.range 236).drop 28).take 4).all (fun m => okM m) = true := by decide +kernel
set_option maxRecDepth 100000 in
theorem ckM_8 : (((List.range 236).drop 32).take 4).all (fun m => okM m) = true := by decide +kernel
set_option maxRecDepth 100000 in
theorem ckM_9 : (((List.range 236).drop 36).take 4).all (fun m => okM m) = true := by decide +kernel
set_option maxRecDepth 100000 in
theorem ckM_10 : (((List.range 236).drop 40).take 4).all (fun m => okM m) = true := by decide +kernel
set_option maxRecDepth 100000 in
theorem ckM_11 : (((List.range 236).drop 44).take 4).all (fun m => okM m) = true := by decide +kernel
set_option maxRecDepth 100000 in
theorem ckM_12 : (((List.range 236).drop 48).take 4).all (fun m => okM m) = true := by decide +kernel
set_option maxRecDepth 100000 in
theorem ckM_13 : (((List.range 236).drop 52).take 4).all (fun m => okM m) = true := by decide +kernel
set_option maxRecDepth 100000 in
theorem ckM_14 : (((List.range 236).drop 56).take 4).all (fun m => okM m) = true := by decide +kernel
set_option maxRecDepth 100000 in
theorem ckM_15 : (((List.range 236).drop 60).take 4).all (fun m => okM m) = true := by decide +kernel
set_option maxRecDepth 100000 in
theorem ckM_16 : (((List.range 236).drop 64).take 4).all (fun m => okM m) = true := by decide +kernel
set_option maxRecDepth 100000 in
theorem ckM_17 : (((List.range 236).drop 68).take 4).all (fun m => okM m) = true := by decide +kernel
set_option maxRecDepth 100000 in
theorem ckM_18 : (((List.range 236).drop 72).take 4).all (fun m => okM m) = true := by decide +kernel
set_option maxRecDepth 100000 in
theorem ckM_19 : (((List.range 236).drop 76).take 4).all (fun m => okM m) = true := by decide +kernel
set_option maxRecDepth 100000 in
theorem ckM_20 : (((List.range 236).drop 80).take 4).all (fun m => okM m) = true := by decide +kernel
set_option maxRecDepth 100000 in
theorem ckM_21 : (((List.range 236).drop 84).take 4).all (fun m => okM m) = true := by decide +kernel
set_option maxRecDepth 100000 in
theorem ckM_22 : (((List.range 236).drop 88).take 4).all (fun m => okM m) = true := by decide +kernel
set_option maxRecDepth 100000 in
theorem ckM_23 : (((List.range 236).drop 92).take 4).all (fun m => okM m) = true := by decide +kernel
set_option maxRecDepth 100000 in
theorem ckM_24 : (((List.range 236).drop 96).take 4).all (fun m => okM m) = true := by decide +kernel
set_option maxRecDepth 100000 in
theorem ckM_25 : (((List.range 236).drop 100).take 4).all (fun m => okM m) = true := by decide +kernel
set_option maxRecDepth 100000 in
theorem ckM_26 : (((List.range 236).drop 104).take 4).all (fun m => okM m) = true := by decide +kernel
set_option maxRecDepth 100000 in
theorem ckM_27 : (((List.range 236).drop 108).take 4).all (fun m => okM m) = true := by decide +kernel
set_option maxRecDepth 100000 in
theorem ckM_28 : (((List.range 236).drop 112).take 4).all (fun m => okM m) = true := by decide +kernel
set_option maxRecDepth 100000 in
theorem ckM_29 : (((List.range 236).drop 116).take 4).all (fun m => okM m) = true := by decide +kernel
set_option maxRecDepth 100000 in
theorem ckM_30 : (((List.range 236).drop 120).take 4).all (fun m => okM m) = true := by decide +kernel
set_option maxRecDepth 100000 in
theorem ckM_31 : (((List.range 236).drop 124).take 4).all (fun m => okM m) = true := by decide +kernel
set_option maxRecDepth 100000 in
theorem ckM_32 : (((List.range 236).drop 128).take 4).all (fun m => okM m) = true := by decide +kernel
set_option maxRecDepth 100000 in
theorem ckM_33 : (((List.range 236).drop 132).take 4).all (fun m => okM m) = true := by decide +kernel
set_option maxRecDepth 100000 in
theorem ckM_34 : (((List.range 236).drop 136).take 4).all (fun m => okM m) = true := by decide +kernel
set_option maxRecDepth 100000 in
theorem ckM_36 : (((List.range 236).drop 144).take 4).all (fun m => okM m) = true := by decide +kernel
set_option maxRecDepth 100000 in
theorem ckM_37 : (((List.range 236).drop 148).take 4).all (fun m => okM m) = true := by decide +kernel
set_option maxRecDepth 100000 in
theorem ckM_38 : (((List.range 236).drop 152).take 4).all (fun m => okM m) = true := by decide +kernel
set_option maxRecDepth 100000 in
theorem ckM_39 : (((List.range 236).drop 156).take 4).all (fun m => okM m) = true := by decide +kernel
set_option maxRecDepth 100000 in
theorem ckM_40 : (((List.range 236).drop 160).take 4).all (fun m => okM m) = true := by decide +kernel
set_option maxRecDepth 100000 in
theorem ckM_41 : (((List.range 236).drop 164).take 4).all (fun m => okM m) = true := by decide +kernel
set_option maxRecDepth 100000 in
theorem ckM_42 : (((List.range 236).drop 168).take 4).all (fun m => okM m) = true := by decide +kernel
set_option maxRecDepth 100000 in
theorem ckM_43 : (((List.range 236).drop 172).take 4).all (fun m => okM m) = true := by decide +kernel
set_option maxRecDepth 100000 in
theorem ckM_44 : (((List.range 236).drop 176).take 4).all (fun m => okM m) = true := by decide +kernel
set_option maxRecDepth 100000 in
theorem ckM_45 : (((List.range 236).drop 180).take 4).all (fun m => okM m) = true := by decide +kernel
set_option maxRecDepth 100000 in
theorem ckM_46 : (((List.range 236).drop 184).take 4).all (fun m => okM m) = true := by decide +kernel
set_option maxRecDepth 100000 in
theorem ckM_47 : (((List.range 236).drop 188).take 4).all (fun m => okM m) = true := by decide +kernel
set_option maxRecDepth 100000 in
theorem ckM_48 : (((List.range 236).drop 192).take 4).all (fun m => okM m) = true := by decide +kernel
set_option maxRecDepth 100000 in
theorem ckM_49 : (((List.range 236).drop 196).take 4).all (fun m => okM m) = true := by decide +kernel
set_option maxRecDepth 100000 in
theorem ckM_50 : (((List.range 236).drop 200).take 4).all (fun m => okM m) = true := by decide +kernel
set_option maxRecDepth 100000 in
theorem ckM_51 : (((List.range 236).drop 204).take 4).all (fun m => okM m) = true := by decide +kernel
set_option maxRecDepth 100000 in
theorem ckM_52 : (((List.range 236).drop 208).take 4).all (fun m => okM m) = true := by decide +kernel
set_option maxRecDepth 100000 in
theorem ckM_53 : (((List.range 236).drop 212).take 4).all (fun m => okM m) = true := by decide +kernel
set_option maxRecDepth 100000 in
theorem ckM_54 : (((List.range 236).drop 216).take 4).all (fun m => okM m) = true := by decide +kernel
set_option maxRecDepth 100000 in
theorem ckM_55 : (((List.range 236).drop 220).take 4).all (fun m => okM m) = true := by decide +kernel
set_option maxRecDepth 100000 in
theorem ckM_56 : (((List.range 236).drop 224).take 4).all (fun m => okM m) = true := by decide +kernel
set_option maxRecDepth 100000 in
theorem ckM_57 : (((List.range 236).drop 228).take 4).all (fun m => okM m) = true := by decide +kernel
set_option maxRecDepth 100000 in
theorem ckM_58 : (((List.range 236).drop 232).take 4).all (fun m => okM m) = true := by decide +kernel
