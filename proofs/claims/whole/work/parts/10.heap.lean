/-! the other instructions: branches, cells -/
theorem W_size {p : Program} {l : Launch} {e : Jvm.Env} {R : Room} {s : State} {m : MethodId} {args : Array Value} {below : List Frame} {meth : Method} {c : Code} {H : Heap} {locs : List Loc} {cells slots : Nat} {Q : State → Prop} {g : JFrame}
    (h : H.size ≤ s.heap.size + cells → W p l e R s m args below meth c H locs cells slots Q g) : W p l e R s m args below meth c H locs cells slots Q g := fun T hT X => h (by rw [← hT]; exact X.heapSize) T hT X
theorem cT_eq {x y : Int32} (h : x = y) : cnd .eq x.toInt y.toInt = true := decide_eq_true (by rw [h])
theorem cF_eq {x y : Int32} (h : ¬ x = y) : cnd .eq x.toInt y.toInt = false := decide_eq_false (fun q => h (Int32.toInt_inj.mp q))
theorem cT_ne {x y : Int32} (h : ¬ x = y) : cnd .ne x.toInt y.toInt = true := decide_eq_true (fun q => h (Int32.toInt_inj.mp q))
theorem cF_ne {x y : Int32} (h : x = y) : cnd .ne x.toInt y.toInt = false := decide_eq_false (fun q => q (by rw [h]))
theorem cT_lt {x y : Int32} (h : x < y) : cnd .lt x.toInt y.toInt = true := decide_eq_true (Int32.lt_iff_toInt_lt.mp h)
theorem cF_lt {x y : Int32} (h : ¬ x < y) : cnd .lt x.toInt y.toInt = false := decide_eq_false (fun q => h (Int32.lt_iff_toInt_lt.mpr q))
theorem cT_ge {x y : Int32} (h : y ≤ x) : cnd .ge x.toInt y.toInt = true := decide_eq_true (Int32.le_iff_toInt_le.mp h)
theorem cF_ge {x y : Int32} (h : ¬ y ≤ x) : cnd .ge x.toInt y.toInt = false := decide_eq_false (fun q => h (Int32.le_iff_toInt_le.mpr q))
theorem cT_gt {x y : Int32} (h : y < x) : cnd .gt x.toInt y.toInt = true := decide_eq_true (Int32.lt_iff_toInt_lt.mp h)
theorem cF_gt {x y : Int32} (h : ¬ y < x) : cnd .gt x.toInt y.toInt = false := decide_eq_false (fun q => h (Int32.lt_iff_toInt_lt.mpr q))
theorem cT_le {x y : Int32} (h : x ≤ y) : cnd .le x.toInt y.toInt = true := decide_eq_true (Int32.le_iff_toInt_le.mp h)
theorem cF_le {x y : Int32} (h : ¬ x ≤ y) : cnd .le x.toInt y.toInt = false := decide_eq_false (fun q => h (Int32.le_iff_toInt_le.mpr q))
section STEPY
variable {p : Program} {l : Launch} {e : Jvm.Env} {R : Room} {s : State} {m : MethodId} {args : Array Value} {below : List Frame} {meth : Method} {c : Code} {Q : State → Prop}
variable {base : Nat} {adc : Nat → Nat} {D : va_G} {mi d nc0 ks0 : Nat} {X : Option (Nat × (Nat → Int))}
variable {pc n pc' : Nat} {al al' ast ast' : List AV} {σ σ' : Sto}
theorem w_i2l (hs : s_i2l n al ast σ = some (pc', al', ast', σ')) (row : ∀ x : Int32, RowS p l e R s m args below meth c Q pc n [.int x] [.long x.toInt64])
    (K : WX p l e R s m args below meth c Q base adc D mi nc0 ks0 pc' al' ast' σ') : WX p l e R s m args below meth c Q base adc D mi nc0 ks0 pc al ast σ := by
  intro H locs cells slots ls st ⟨hL, hS, hH, hV, hc, hk⟩
  unfold s_i2l at hs
  split at hs
  · cases hs
    obtain ⟨x, st, rfl, rfl, hS1⟩ := SR_i hS
    exact row x _ _ _ _ _ _ (K _ _ _ _ _ _ ⟨hL, ⟨Int32.toInt_toInt64 x, hS1⟩, hH, hV, hc, hk⟩)
  · cases hs
theorem w_l2i (hs : s_l2i n al ast σ = some (pc', al', ast', σ')) (row : ∀ x : Int64, RowS p l e R s m args below meth c Q pc n [.long x] [.int x.toInt32])
    (K : WX p l e R s m args below meth c Q base adc D mi nc0 ks0 pc' al' ast' σ') : WX p l e R s m args below meth c Q base adc D mi nc0 ks0 pc al ast σ := by
  intro H locs cells slots ls st ⟨hL, hS, hH, hV, hc, hk⟩
  unfold s_l2i at hs
  split at hs
  · cases hs
    obtain ⟨x, st, rfl, rfl, hS1⟩ := SR_l hS
    exact row x _ _ _ _ _ _ (K _ _ _ _ _ _ ⟨hL, ⟨Int64.toInt_toInt32 x, hS1⟩, hH, hV, hc, hk⟩)
  · cases hs
theorem cmp_toInt (x y : Int64) : (lg_cmp x y).toInt = if x.toInt < y.toInt then -1 else if x.toInt = y.toInt then 0 else 1 := by
  unfold lg_cmp
  simp only [← Int64.lt_iff_toInt_lt, Int64.toInt_inj]
  by_cases h1 : x < y
  · have h2 : ¬ y < x := by rw [Int64.lt_iff_toInt_lt] at *; omega
    have h3 : ¬ x = y := fun q => by rw [q, Int64.lt_iff_toInt_lt] at h1; omega
    simp [h1, h2, h3]
  · by_cases h3 : x = y
    · subst h3
      simp
    · have h2 : y < x := by
        rw [Int64.lt_iff_toInt_lt] at *
        have : x.toInt ≠ y.toInt := fun q => h3 (Int64.toInt_inj.mp q)
        omega
      simp [h1, h2, h3]
theorem w_lcmp (hs : s_lcmp n al ast σ = some (pc', al', ast', σ')) (row : ∀ x y : Int64, RowS p l e R s m args below meth c Q pc n [.long y, .long x] [.int (lg_cmp x y)])
    (K : WX p l e R s m args below meth c Q base adc D mi nc0 ks0 pc' al' ast' σ') : WX p l e R s m args below meth c Q base adc D mi nc0 ks0 pc al ast σ := by
  intro H locs cells slots ls st ⟨hL, hS, hH, hV, hc, hk⟩
  unfold s_lcmp at hs
  split at hs
  · cases hs
    obtain ⟨y, st, rfl, rfl, hS1⟩ := SR_l hS
    obtain ⟨x, st, rfl, rfl, hS2⟩ := SR_l hS1
    exact row x y _ _ _ _ _ _ (K _ _ _ _ _ _ ⟨hL, ⟨cmp_toInt x y, hS2⟩, hH, hV, hc, hk⟩)
  · cases hs
theorem w_dup (hs : s_dup n al ast σ = some (pc', al', ast', σ')) (row : ∀ v : Value, v.category = 1 → RowS p l e R s m args below meth c Q pc n [v] [v, v])
    (K : WX p l e R s m args below meth c Q base adc D mi nc0 ks0 pc' al' ast' σ') : WX p l e R s m args below meth c Q base adc D mi nc0 ks0 pc al ast σ := by
  intro H locs cells slots ls st ⟨hL, hS, hH, hV, hc, hk⟩
  unfold s_dup at hs
  split at hs
  · cases hs
    obtain ⟨v, st, rfl, h1, h2⟩ := SR_c hS
    exact row v (VR_cat1 h1 (fun _ h => by cases h)) _ _ _ _ _ _ (K _ _ _ _ _ _ ⟨hL, ⟨h1, h1, h2⟩, hH, hV, hc, hk⟩)
  · cases hs
    obtain ⟨v, st, rfl, h1, h2⟩ := SR_c hS
    exact row v (VR_cat1 h1 (fun _ h => by cases h)) _ _ _ _ _ _ (K _ _ _ _ _ _ ⟨hL, ⟨h1, h1, h2⟩, hH, hV, hc, hk⟩)
  · cases hs
theorem w_dup2 (hs : s_dup2 n al ast σ = some (pc', al', ast', σ')) (row : ∀ v w : Value, v.category = 1 → w.category = 1 → RowS p l e R s m args below meth c Q pc n [v, w] [v, w, v, w])
    (K : WX p l e R s m args below meth c Q base adc D mi nc0 ks0 pc' al' ast' σ') : WX p l e R s m args below meth c Q base adc D mi nc0 ks0 pc al ast σ := by
  intro H locs cells slots ls st ⟨hL, hS, hH, hV, hc, hk⟩
  unfold s_dup2 at hs
  split at hs
  · cases hs
    obtain ⟨v, st, rfl, h1, h2⟩ := SR_c hS
    obtain ⟨w, st, rfl, h3, h4⟩ := SR_c h2
    exact row v w (VR_cat1 h1 (fun _ h => by cases h)) (VR_cat1 h3 (fun _ h => by cases h)) _ _ _ _ _ _ (K _ _ _ _ _ _ ⟨hL, ⟨h1, h3, h1, h3, h4⟩, hH, hV, hc, hk⟩)
  · cases hs
theorem w_pop (hs : s_pop n al ast σ = some (pc', al', ast', σ')) (row : ∀ v : Value, v.category = 1 → RowS p l e R s m args below meth c Q pc n [v] [])
    (K : WX p l e R s m args below meth c Q base adc D mi nc0 ks0 pc' al' ast' σ') : WX p l e R s m args below meth c Q base adc D mi nc0 ks0 pc al ast σ := by
  intro H locs cells slots ls st ⟨hL, hS, hH, hV, hc, hk⟩
  unfold s_pop at hs
  split at hs
  · cases hs
    obtain ⟨v, st, rfl, h1, h2⟩ := SR_c hS
    exact row v (VR_cat1 h1 (fun _ h => by cases h)) _ _ _ _ _ _ (K _ _ _ _ _ _ ⟨hL, h2, hH, hV, hc, hk⟩)
  · cases hs
    obtain ⟨v, st, rfl, h1, h2⟩ := SR_c hS
    exact row v (VR_cat1 h1 (fun _ h => by cases h)) _ _ _ _ _ _ (K _ _ _ _ _ _ ⟨hL, h2, hH, hV, hc, hk⟩)
  · cases hs
theorem w_if (hx : p.tables.exec = Jvm.exec) (hb : c.code = mB mi) {k : Jvm.ClassFile.Cond} {o t : Int} (hs : s_ifc k t (pc + 3) al ast σ = some (pc', al', ast', σ')) (ht : tgt pc o = some t) (hdg : decode (mB mi) pc = .ok (.ifCond k o, 3))
    (K : WX p l e R s m args below meth c Q base adc D mi nc0 ks0 pc' al' ast' σ') : WX p l e R s m args below meth c Q base adc D mi nc0 ks0 pc al ast σ := by
  intro H locs cells slots ls st ⟨hL, hS, hH, hV, hc, hk⟩
  unfold s_ifc at hs
  have ht2 : (pc : Int) + o = (t.toNat : Int) := by
    unfold tgt at ht
    split at ht
    · cases ht; omega
    · cases ht
  split at hs
  · cases hs
    obtain ⟨x, st, rfl, rfl, hS1⟩ := SR_i hS
    have go : W p l e R s m args below meth c H locs cells slots Q (F0 m (bif cnd k x.toInt (0 : Int32).toInt then t.toNat else pc + 3) ls st) := K _ _ _ _ _ _ ⟨hL, hS1, hH, hV, hc, hk⟩
    cases k
    · exact lv_if_eq hx hb hdg ht2 (fun q => by rw [cT_eq q] at go; exact go) (fun q => by rw [cF_eq q] at go; exact go)
    · exact lv_if_ne hx hb hdg ht2 (fun q => by rw [cT_ne q] at go; exact go) (fun q => by rw [cF_ne q] at go; exact go)
    · exact lv_if_lt hx hb hdg ht2 (fun q => by rw [cT_lt q] at go; exact go) (fun q => by rw [cF_lt q] at go; exact go)
    · exact lv_if_ge hx hb hdg ht2 (fun q => by rw [cT_ge q] at go; exact go) (fun q => by rw [cF_ge q] at go; exact go)
    · exact lv_if_gt hx hb hdg ht2 (fun q => by rw [cT_gt q] at go; exact go) (fun q => by rw [cF_gt q] at go; exact go)
    · exact lv_if_le hx hb hdg ht2 (fun q => by rw [cT_le q] at go; exact go) (fun q => by rw [cF_le q] at go; exact go)
  · cases hs
theorem w_icmp (hx : p.tables.exec = Jvm.exec) (hb : c.code = mB mi) {k : Jvm.ClassFile.Cond} {o t : Int} (hs : s_icmp k t (pc + 3) al ast σ = some (pc', al', ast', σ')) (ht : tgt pc o = some t) (hdg : decode (mB mi) pc = .ok (.if_icmp k o, 3))
    (K : WX p l e R s m args below meth c Q base adc D mi nc0 ks0 pc' al' ast' σ') : WX p l e R s m args below meth c Q base adc D mi nc0 ks0 pc al ast σ := by
  intro H locs cells slots ls st ⟨hL, hS, hH, hV, hc, hk⟩
  unfold s_icmp at hs
  have ht2 : (pc : Int) + o = (t.toNat : Int) := by
    unfold tgt at ht
    split at ht
    · cases ht; omega
    · cases ht
  split at hs
  · cases hs
    obtain ⟨y, st, rfl, rfl, hS1⟩ := SR_i hS
    obtain ⟨x, st, rfl, rfl, hS2⟩ := SR_i hS1
    have go : W p l e R s m args below meth c H locs cells slots Q (F0 m (bif cnd k x.toInt y.toInt then t.toNat else pc + 3) ls st) := K _ _ _ _ _ _ ⟨hL, hS2, hH, hV, hc, hk⟩
    cases k
    · exact lv_icmp_eq hx hb hdg ht2 (fun q => by rw [cT_eq q] at go; exact go) (fun q => by rw [cF_eq q] at go; exact go)
    · exact lv_icmp_ne hx hb hdg ht2 (fun q => by rw [cT_ne q] at go; exact go) (fun q => by rw [cF_ne q] at go; exact go)
    · exact lv_icmp_lt hx hb hdg ht2 (fun q => by rw [cT_lt q] at go; exact go) (fun q => by rw [cF_lt q] at go; exact go)
    · exact lv_icmp_ge hx hb hdg ht2 (fun q => by rw [cT_ge q] at go; exact go) (fun q => by rw [cF_ge q] at go; exact go)
    · exact lv_icmp_gt hx hb hdg ht2 (fun q => by rw [cT_gt q] at go; exact go) (fun q => by rw [cF_gt q] at go; exact go)
    · exact lv_icmp_le hx hb hdg ht2 (fun q => by rw [cT_le q] at go; exact go) (fun q => by rw [cF_le q] at go; exact go)
  · cases hs
theorem w_ifnull (hx : p.tables.exec = Jvm.exec) (hb : c.code = mB mi) {o t : Int} (hs : s_ifnull t (pc + 3) al ast σ = some (pc', al', ast', σ')) (ht : tgt pc o = some t) (hdg : decode (mB mi) pc = .ok (.ifnull o, 3))
    (K : WX p l e R s m args below meth c Q base adc D mi nc0 ks0 pc' al' ast' σ') : WX p l e R s m args below meth c Q base adc D mi nc0 ks0 pc al ast σ := by
  intro H locs cells slots ls st ⟨hL, hS, hH, hV, hc, hk⟩
  unfold s_ifnull at hs
  have ht2 : (pc : Int) + o = (t.toNat : Int) := by
    unfold tgt at ht
    split at ht
    · cases ht; omega
    · cases ht
  split at hs
  · cases hs
    obtain ⟨st, rfl, hS1⟩ := SR_r hS
    exact lv_ifnull hx hb hdg (K _ _ _ _ _ _ ⟨hL, hS1, hH, hV, hc, hk⟩)
  · cases hs
    obtain ⟨st, rfl, hS1⟩ := SR_n hS
    exact lv_ifnullN hx hb hdg ht2 (K _ _ _ _ _ _ ⟨hL, hS1, hH, hV, hc, hk⟩)
  · cases hs
theorem w_ifnonnull (hx : p.tables.exec = Jvm.exec) (hb : c.code = mB mi) {o t : Int} (hs : s_ifnonnull t (pc + 3) al ast σ = some (pc', al', ast', σ')) (ht : tgt pc o = some t) (hdg : decode (mB mi) pc = .ok (.ifnonnull o, 3))
    (K : WX p l e R s m args below meth c Q base adc D mi nc0 ks0 pc' al' ast' σ') : WX p l e R s m args below meth c Q base adc D mi nc0 ks0 pc al ast σ := by
  intro H locs cells slots ls st ⟨hL, hS, hH, hV, hc, hk⟩
  unfold s_ifnonnull at hs
  have ht2 : (pc : Int) + o = (t.toNat : Int) := by
    unfold tgt at ht
    split at ht
    · cases ht; omega
    · cases ht
  split at hs
  · cases hs
    obtain ⟨st, rfl, hS1⟩ := SR_r hS
    exact lv_ifnonnull hx hb hdg ht2 (K _ _ _ _ _ _ ⟨hL, hS1, hH, hV, hc, hk⟩)
  · cases hs
    obtain ⟨st, rfl, hS1⟩ := SR_n hS
    exact lv_ifnonnullN hx hb hdg (K _ _ _ _ _ _ ⟨hL, hS1, hH, hV, hc, hk⟩)
  · cases hs
end STEPY
