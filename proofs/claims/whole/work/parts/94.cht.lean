set_option maxRecDepth 100000 in
theorem ckF_0 : ((ftab.drop 0).take 20).all (fun q => okF q.1.1 q.1.2 q.2.1 q.2.2) = true := by decide +kernel
set_option maxRecDepth 100000 in
theorem ckF_1 : ((ftab.drop 20).take 20).all (fun q => okF q.1.1 q.1.2 q.2.1 q.2.2) = true := by decide +kernel
set_option maxRecDepth 100000 in
theorem ckF_2 : ((ftab.drop 40).take 20).all (fun q => okF q.1.1 q.1.2 q.2.1 q.2.2) = true := by decide +kernel
set_option maxRecDepth 100000 in
theorem ckF_3 : ((ftab.drop 60).take 20).all (fun q => okF q.1.1 q.1.2 q.2.1 q.2.2) = true := by decide +kernel
set_option maxRecDepth 100000 in
theorem ckF_4 : ((ftab.drop 80).take 20).all (fun q => okF q.1.1 q.1.2 q.2.1 q.2.2) = true := by decide +kernel
set_option maxRecDepth 100000 in
theorem ckF_5 : ((ftab.drop 100).take 20).all (fun q => okF q.1.1 q.1.2 q.2.1 q.2.2) = true := by decide +kernel
set_option maxRecDepth 100000 in
theorem ckF_6 : ((ftab.drop 120).take 20).all (fun q => okF q.1.1 q.1.2 q.2.1 q.2.2) = true := by decide +kernel
set_option maxRecDepth 100000 in
theorem ckF_7 : ((ftab.drop 140).take 20).all (fun q => okF q.1.1 q.1.2 q.2.1 q.2.2) = true := by decide +kernel
set_option maxRecDepth 100000 in
theorem ckF_8 : ((ftab.drop 160).take 20).all (fun q => okF q.1.1 q.1.2 q.2.1 q.2.2) = true := by decide +kernel
set_option maxRecDepth 100000 in
theorem ckF_9 : ((ftab.drop 180).take 20).all (fun q => okF q.1.1 q.1.2 q.2.1 q.2.2) = true := by decide +kernel
theorem ckF : ∀ q ∈ ftab, (okF q.1.1 q.1.2 q.2.1 q.2.2) = true := List.all_eq_true.mp (ck_join ftab (fun q => okF q.1.1 q.1.2 q.2.1 q.2.2) 20 10 (by decide +kernel) (fun i hi => match i, hi with
  | 0, _ => ckF_0
  | 1, _ => ckF_1
  | 2, _ => ckF_2
  | 3, _ => ckF_3
  | 4, _ => ckF_4
  | 5, _ => ckF_5
  | 6, _ => ckF_6
  | 7, _ => ckF_7
  | 8, _ => ckF_8
  | 9, _ => ckF_9
  | i + 10, h => absurd h (by omega)))
set_option maxRecDepth 100000 in
theorem ckK_0 : ((ktab.drop 0).take 15).all (fun q => okK q.1.1 q.1.2 q.2.1 q.2.2.1 q.2.2.2) = true := by decide +kernel
theorem ckK : ∀ q ∈ ktab, (okK q.1.1 q.1.2 q.2.1 q.2.2.1 q.2.2.2) = true := List.all_eq_true.mp (ck_join ktab (fun q => okK q.1.1 q.1.2 q.2.1 q.2.2.1 q.2.2.2) 15 1 (by decide +kernel) (fun i hi => match i, hi with
  | 0, _ => ckK_0
  | i + 1, h => absurd h (by omega)))
set_option maxRecDepth 100000 in
theorem ckG_0 : ((gtab.drop 0).take 5).all (fun q => okG q.1.1 q.1.2 q.2.1 q.2.2.1 q.2.2.2) = true := by decide +kernel
theorem ckG : ∀ q ∈ gtab, (okG q.1.1 q.1.2 q.2.1 q.2.2.1 q.2.2.2) = true := List.all_eq_true.mp (ck_join gtab (fun q => okG q.1.1 q.1.2 q.2.1 q.2.2.1 q.2.2.2) 5 1 (by decide +kernel) (fun i hi => match i, hi with
  | 0, _ => ckG_0
  | i + 1, h => absurd h (by omega)))
set_option maxRecDepth 100000 in
theorem ckC_0 : ((ctab.drop 0).take 8).all (fun q => okC q.1.1 q.1.2 q.2.1 q.2.2.1 q.2.2.2) = true := by decide +kernel
set_option maxRecDepth 100000 in
theorem ckC_1 : ((ctab.drop 8).take 8).all (fun q => okC q.1.1 q.1.2 q.2.1 q.2.2.1 q.2.2.2) = true := by decide +kernel
set_option maxRecDepth 100000 in
theorem ckC_2 : ((ctab.drop 16).take 8).all (fun q => okC q.1.1 q.1.2 q.2.1 q.2.2.1 q.2.2.2) = true := by decide +kernel
set_option maxRecDepth 100000 in
theorem ckC_3 : ((ctab.drop 24).take 8).all (fun q => okC q.1.1 q.1.2 q.2.1 q.2.2.1 q.2.2.2) = true := by decide +kernel
set_option maxRecDepth 100000 in
theorem ckC_4 : ((ctab.drop 32).take 8).all (fun q => okC q.1.1 q.1.2 q.2.1 q.2.2.1 q.2.2.2) = true := by decide +kernel
set_option maxRecDepth 100000 in
theorem ckC_5 : ((ctab.drop 40).take 8).all (fun q => okC q.1.1 q.1.2 q.2.1 q.2.2.1 q.2.2.2) = true := by decide +kernel
set_option maxRecDepth 100000 in
theorem ckC_6 : ((ctab.drop 48).take 8).all (fun q => okC q.1.1 q.1.2 q.2.1 q.2.2.1 q.2.2.2) = true := by decide +kernel
set_option maxRecDepth 100000 in
theorem ckC_7 : ((ctab.drop 56).take 8).all (fun q => okC q.1.1 q.1.2 q.2.1 q.2.2.1 q.2.2.2) = true := by decide +kernel
set_option maxRecDepth 100000 in
theorem ckC_8 : ((ctab.drop 64).take 8).all (fun q => okC q.1.1 q.1.2 q.2.1 q.2.2.1 q.2.2.2) = true := by decide +kernel
set_option maxRecDepth 100000 in
theorem ckC_9 : ((ctab.drop 72).take 8).all (fun q => okC q.1.1 q.1.2 q.2.1 q.2.2.1 q.2.2.2) = true := by decide +kernel
set_option maxRecDepth 100000 in
theorem ckC_10 : ((ctab.drop 80).take 8).all (fun q => okC q.1.1 q.1.2 q.2.1 q.2.2.1 q.2.2.2) = true := by decide +kernel
set_option maxRecDepth 100000 in
theorem ckC_11 : ((ctab.drop 88).take 8).all (fun q => okC q.1.1 q.1.2 q.2.1 q.2.2.1 q.2.2.2) = true := by decide +kernel
set_option maxRecDepth 100000 in
theorem ckC_12 : ((ctab.drop 96).take 8).all (fun q => okC q.1.1 q.1.2 q.2.1 q.2.2.1 q.2.2.2) = true := by decide +kernel
set_option maxRecDepth 100000 in
theorem ckC_13 : ((ctab.drop 104).take 8).all (fun q => okC q.1.1 q.1.2 q.2.1 q.2.2.1 q.2.2.2) = true := by decide +kernel
set_option maxRecDepth 100000 in
theorem ckC_14 : ((ctab.drop 112).take 8).all (fun q => okC q.1.1 q.1.2 q.2.1 q.2.2.1 q.2.2.2) = true := by decide +kernel
set_option maxRecDepth 100000 in
theorem ckC_15 : ((ctab.drop 120).take 8).all (fun q => okC q.1.1 q.1.2 q.2.1 q.2.2.1 q.2.2.2) = true := by decide +kernel
set_option maxRecDepth 100000 in
theorem ckC_16 : ((ctab.drop 128).take 8).all (fun q => okC q.1.1 q.1.2 q.2.1 q.2.2.1 q.2.2.2) = true := by decide +kernel
set_option maxRecDepth 100000 in
theorem ckC_17 : ((ctab.drop 136).take 8).all (fun q => okC q.1.1 q.1.2 q.2.1 q.2.2.1 q.2.2.2) = true := by decide +kernel
set_option maxRecDepth 100000 in
theorem ckC_18 : ((ctab.drop 144).take 8).all (fun q => okC q.1.1 q.1.2 q.2.1 q.2.2.1 q.2.2.2) = true := by decide +kernel
set_option maxRecDepth 100000 in
theorem ckC_19 : ((ctab.drop 152).take 8).all (fun q => okC q.1.1 q.1.2 q.2.1 q.2.2.1 q.2.2.2) = true := by decide +kernel
set_option maxRecDepth 100000 in
theorem ckC_20 : ((ctab.drop 160).take 8).all (fun q => okC q.1.1 q.1.2 q.2.1 q.2.2.1 q.2.2.2) = true := by decide +kernel
set_option maxRecDepth 100000 in
theorem ckC_21 : ((ctab.drop 168).take 8).all (fun q => okC q.1.1 q.1.2 q.2.1 q.2.2.1 q.2.2.2) = true := by decide +kernel
set_option maxRecDepth 100000 in
theorem ckC_22 : ((ctab.drop 176).take 8).all (fun q => okC q.1.1 q.1.2 q.2.1 q.2.2.1 q.2.2.2) = true := by decide +kernel
set_option maxRecDepth 100000 in
theorem ckC_23 : ((ctab.drop 184).take 8).all (fun q => okC q.1.1 q.1.2 q.2.1 q.2.2.1 q.2.2.2) = true := by decide +kernel
set_option maxRecDepth 100000 in
theorem ckC_24 : ((ctab.drop 192).take 8).all (fun q => okC q.1.1 q.1.2 q.2.1 q.2.2.1 q.2.2.2) = true := by decide +kernel
set_option maxRecDepth 100000 in
theorem ckC_25 : ((ctab.drop 200).take 8).all (fun q => okC q.1.1 q.1.2 q.2.1 q.2.2.1 q.2.2.2) = true := by decide +kernel
set_option maxRecDepth 100000 in
theorem ckC_26 : ((ctab.drop 208).take 8).all (fun q => okC q.1.1 q.1.2 q.2.1 q.2.2.1 q.2.2.2) = true := by decide +kernel
set_option maxRecDepth 100000 in
theorem ckC_27 : ((ctab.drop 216).take 8).all (fun q => okC q.1.1 q.1.2 q.2.1 q.2.2.1 q.2.2.2) = true := by decide +kernel
set_option maxRecDepth 100000 in
theorem ckC_28 : ((ctab.drop 224).take 8).all (fun q => okC q.1.1 q.1.2 q.2.1 q.2.2.1 q.2.2.2) = true := by decide +kernel
set_option maxRecDepth 100000 in
theorem ckC_29 : ((ctab.drop 232).take 8).all (fun q => okC q.1.1 q.1.2 q.2.1 q.2.2.1 q.2.2.2) = true := by decide +kernel
set_option maxRecDepth 100000 in
theorem ckC_30 : ((ctab.drop 240).take 8).all (fun q => okC q.1.1 q.1.2 q.2.1 q.2.2.1 q.2.2.2) = true := by decide +kernel
set_option maxRecDepth 100000 in
theorem ckC_31 : ((ctab.drop 248).take 8).all (fun q => okC q.1.1 q.1.2 q.2.1 q.2.2.1 q.2.2.2) = true := by decide +kernel
set_option maxRecDepth 100000 in
theorem ckC_32 : ((ctab.drop 256).take 8).all (fun q => okC q.1.1 q.1.2 q.2.1 q.2.2.1 q.2.2.2) = true := by decide +kernel
set_option maxRecDepth 100000 in
theorem ckC_33 : ((ctab.drop 264).take 8).all (fun q => okC q.1.1 q.1.2 q.2.1 q.2.2.1 q.2.2.2) = true := by decide +kernel
set_option maxRecDepth 100000 in
theorem ckC_34 : ((ctab.drop 272).take 8).all (fun q => okC q.1.1 q.1.2 q.2.1 q.2.2.1 q.2.2.2) = true := by decide +kernel
theorem ckC : ∀ q ∈ ctab, (okC q.1.1 q.1.2 q.2.1 q.2.2.1 q.2.2.2) = true := List.all_eq_true.mp (ck_join ctab (fun q => okC q.1.1 q.1.2 q.2.1 q.2.2.1 q.2.2.2) 8 35 (by decide +kernel) (fun i hi => match i, hi with
  | 0, _ => ckC_0
  | 1, _ => ckC_1
  | 2, _ => ckC_2
  | 3, _ => ckC_3
  | 4, _ => ckC_4
  | 5, _ => ckC_5
  | 6, _ => ckC_6
  | 7, _ => ckC_7
  | 8, _ => ckC_8
  | 9, _ => ckC_9
  | 10, _ => ckC_10
  | 11, _ => ckC_11
  | 12, _ => ckC_12
  | 13, _ => ckC_13
  | 14, _ => ckC_14
  | 15, _ => ckC_15
  | 16, _ => ckC_16
  | 17, _ => ckC_17
  | 18, _ => ckC_18
  | 19, _ => ckC_19
  | 20, _ => ckC_20
  | 21, _ => ckC_21
  | 22, _ => ckC_22
  | 23, _ => ckC_23
  | 24, _ => ckC_24
  | 25, _ => ckC_25
  | 26, _ => ckC_26
  | 27, _ => ckC_27
  | 28, _ => ckC_28
  | 29, _ => ckC_29
  | 30, _ => ckC_30
  | 31, _ => ckC_31
  | 32, _ => ckC_32
  | 33, _ => ckC_33
  | 34, _ => ckC_34
  | i + 35, h => absurd h (by omega)))
set_option maxRecDepth 100000 in
theorem ckN_0 : ((ntab.drop 0).take 12).all (fun q => okN q.1.1 q.1.2 q.2.1 q.2.2) = true := by decide +kernel
theorem ckN : ∀ q ∈ ntab, (okN q.1.1 q.1.2 q.2.1 q.2.2) = true := List.all_eq_true.mp (ck_join ntab (fun q => okN q.1.1 q.1.2 q.2.1 q.2.2) 12 1 (by decide +kernel) (fun i hi => match i, hi with
  | 0, _ => ckN_0
  | i + 1, h => absurd h (by omega)))
set_option maxRecDepth 100000 in
theorem ckA_0 : ((atab.drop 0).take 2).all (fun q => okA q.1.1 q.1.2 q.2.1 q.2.2) = true := by decide +kernel
theorem ckA : ∀ q ∈ atab, (okA q.1.1 q.1.2 q.2.1 q.2.2) = true := List.all_eq_true.mp (ck_join atab (fun q => okA q.1.1 q.1.2 q.2.1 q.2.2) 2 1 (by decide +kernel) (fun i hi => match i, hi with
  | 0, _ => ckA_0
  | i + 1, h => absurd h (by omega)))
set_option maxRecDepth 100000 in
theorem ckT_0 : (((List.range 12).drop 0).take 3).all (fun m => okT m) = true := by decide +kernel
set_option maxRecDepth 100000 in
theorem ckT_1 : (((List.range 12).drop 3).take 3).all (fun m => okT m) = true := by decide +kernel
set_option maxRecDepth 100000 in
theorem ckT_2 : (((List.range 12).drop 6).take 3).all (fun m => okT m) = true := by decide +kernel
set_option maxRecDepth 100000 in
theorem ckT_3 : (((List.range 12).drop 9).take 3).all (fun m => okT m) = true := by decide +kernel
theorem ckT : ∀ m, m < 12 → (okT m) = true := fun m hm => List.all_eq_true.mp (ck_join (List.range 12) (fun m => okT m) 3 4 (by decide +kernel) (fun i hi => match i, hi with
  | 0, _ => ckT_0
  | 1, _ => ckT_1
  | 2, _ => ckT_2
  | 3, _ => ckT_3
  | i + 4, h => absurd h (by omega))) m (List.mem_range.mpr hm)
theorem chk : Chk := ⟨fun m h => ⟨chk_all m h, ckP m h⟩, ckM, ckF, ckK, ckG, ckC, ckN, ckA, ckT⟩
