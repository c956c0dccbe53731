/-! what is always so: the class's cells, the reference's, and how they go together -/
def msk (R : List Nat) (I : Fn) : Fn := fun k j => bif R.elem (ky k j) then I k j else 0
theorem msk_fr {R X : List Nat} {I I' : Fn} (h : Fr X I I') (hd : R.all (fun a => !X.elem a) = true) : msk R I' = msk R I := by
  funext k j
  unfold msk
  cases hr : R.elem (ky k j) with
  | false => rfl
  | true =>
    have := List.all_eq_true.mp hd _ (List.elem_iff.mp hr)
    exact h k j (by cases hx : X.elem (ky k j) with
      | false => rfl
      | true => rw [hx] at this; cases this)
def Al6 (P : Nat → Prop) : Prop := P 0 ∧ (P 1 ∧ (P 2 ∧ (P 3 ∧ (P 4 ∧ P 5))))
theorem Al6.at {P : Nat → Prop} (h : Al6 P) {c : Nat} (hc : c < 6) : P c := by
  obtain ⟨h0, h1, h2, h3, h4, h5⟩ := h
  match c, hc with
  | 0, _ => exact h0
  | 1, _ => exact h1
  | 2, _ => exact h2
  | 3, _ => exact h3
  | 4, _ => exact h4
  | 5, _ => exact h5
  | n + 6, h => omega
theorem Al6.of {P : Nat → Prop} (h : ∀ c, c < 6 → P c) : Al6 P := ⟨h 0 (by omega), h 1 (by omega), h 2 (by omega), h 3 (by omega), h 4 (by omega), h 5 (by omega)⟩
def rng (a b x : Int) : Prop := a ≤ x ∧ x ≤ b
/-- a case -/
def BagC (I : Fn) (c : Nat) : Prop := I (17 + c) 0 = c ∧ (rng 0 6 (I (17 + c) 1) ∧ (rng 0 9 (I (17 + c) 2) ∧ (rng 0 7 (I (17 + c) 3) ∧ (rng 0 7 (I (17 + c) 4) ∧ (rng 0 9 (I (17 + c) 5) ∧ (rng 0 999 (I (17 + c) 6) ∧ rng 0 9999 (I (17 + c) 7)))))))
def WC (hc : Int) (I : Fn) : Prop := Bts I ∧ (rng 0 6 (I 10 3) ∧ (rng 0 6 (I 10 6) ∧ (rng 0 12 (I 10 8) ∧ (rng (-1) (hc - 1) (I 10 9) ∧ (Al6 (BagC I) ∧ ((∀ o, o < 6 → rng 0 999 (I 14 o) ∧ rng 0 7 (I 15 o)) ∧ ∀ k, k < 12 → rng 0 7 (I 16 k)))))))
abbrev WCr : List Nat := [2003, 2006, 2008, 2009, 11, 12, 14, 15, 16, 17, 18, 19, 20, 21, 22]
theorem WC_fr {X : List Nat} {hc : Int} {I I' : Fn} (h : WC hc I) (hf : Fr X I I') (hd : WCr.all (fun a => !X.elem a) = true) : WC hc I' := by
  have h2 : WC hc (msk WCr I) := h
  rw [← msk_fr hf hd] at h2
  exact h2
def BagM (I0 I : Fn) (c : Nat) : Prop := I 95 c = I0 (17 + c) 1 ∧ (I 96 c = I0 (17 + c) 2 ∧ (I 97 c = I0 (17 + c) 3 ∧ (I 98 c = I0 (17 + c) 4 ∧ (I 99 c = I0 (17 + c) 5 ∧ (I 100 c = I0 (17 + c) 6 ∧ (I 101 c = I0 (17 + c) 7 ∧ I 102 c = I0 (17 + c) 8))))))
def WM (I0 I : Fn) : Prop := Mb I0 I ∧ (I 92 2 = I0 10 3 ∧ (I 92 3 = I0 10 6 ∧ (I 92 41 = I0 10 8 ∧ (I 92 16 = I0 10 9 ∧ (Al6 (BagM I0 I) ∧ ((∀ o, o < 6 → I 103 o = I0 14 o ∧ I 104 o = I0 15 o) ∧ ∀ k, k < 12 → I 123 k = I0 16 k))))))
abbrev WMr : List Nat := [1002, 1003, 1041, 1016, 93, 94, 95, 96, 97, 98, 99, 100, 101, 102, 103, 104, 123]
theorem WM_fr {X : List Nat} {I0 I I' : Fn} (h : WM I0 I) (hf : Fr X I I') (hd : WMr.all (fun a => !X.elem a) = true) : WM I0 I' := by
  have h2 : WM I0 (msk WMr I) := h
  rw [← msk_fr hf hd] at h2
  exact h2
theorem WM_fr0 {X : List Nat} {I0 I0' I : Fn} (h : WM I0 I) (hf : Fr X I0 I0') (hd : WCr.all (fun a => !X.elem a) = true) : WM I0' I := by
  have h2 : WM (msk (20 :: WCr) I0) I := h
  rw [← msk_fr hf (by
    rw [List.all_cons]
    rw [Bool.and_eq_true]
    refine ⟨?_, hd⟩
    exact List.all_eq_true.mp hd 20 (by decide))] at h2
  exact h2
/-- the image: as if it were a world -/
def PicC (I : Fn) : Fn := fun k j => I (k + 13) j
def picF (j : Nat) : Nat := bif Nat.beq j 2 then 45 else bif Nat.beq j 3 then 46 else bif Nat.beq j 41 then 47 else 44
def PicM (I : Fn) : Fn := fun k j => bif Nat.beq k 92 then I 92 (picF j) else bif Nat.beq k 123 then I 136 j else I (k + 31) j
def IM (hc : Int) (I : Fn) : Prop := (I 9 9 = 0 ∨ I 9 9 = 1) ∧ (I 92 43 = I 9 9 ∧ (Al6 (fun c => I (30 + c) 0 = c) ∧ (I 9 9 = 1 → WC hc (PicC I) ∧ WM (PicC I) (PicM I))))
abbrev IMr : List Nat := [9, 23, 24, 25, 27, 28, 29, 30, 31, 32, 33, 34, 35, 1043, 1044, 1045, 1046, 1047, 124, 125, 126, 127, 128, 129, 130, 131, 132, 133, 134, 135, 136]
theorem IM_fr {X : List Nat} {hc : Int} {I I' : Fn} (h : IM hc I) (hf : Fr X I I') (hd : IMr.all (fun a => !X.elem a) = true) : IM hc I' := by
  have h2 : IM hc (msk IMr I) := h
  rw [← msk_fr hf hd] at h2
  exact h2
/-- the text -/
def TX (I : Fn) : Prop := rng 0 100 (I 36 1) ∧ (I 92 17 = I 36 1 ∧ ∀ k, k < 100 → rng 0 127 (I 37 k) ∧ I 106 k = I 37 k)
abbrev TXr : List Nat := [3001, 1017, 37, 106]
theorem TX_fr {X : List Nat} {I I' : Fn} (h : TX I) (hf : Fr X I I') (hd : TXr.all (fun a => !X.elem a) = true) : TX I' := by
  have h2 : TX (msk TXr I) := h
  rw [← msk_fr hf hd] at h2
  exact h2
/-- one sign of an E, as the class and as the reference keep it -/
def TokR (x y : Int) : Prop := (x = -1 ∧ y = -33) ∨ ((x = -2 ∧ y = -38) ∨ ((x = -3 ∧ y = -124) ∨ ∃ l s n : Int, ((0 ≤ l ∧ l < 6) ∧ ((0 ≤ s ∧ s < 3) ∧ (0 ≤ n ∧ n < 100))) ∧ (x = (l * 3 + s) * 100 + n ∧ y = 1000 * l + 100 * s + n)))
/-- how many truths lie on the stack behind k signs -/
def dep (f : Nat → Int) : Nat → Option Nat
  | 0 => some 0
  | k + 1 => match dep f k with
    | none => none
    | some n => if 0 ≤ f k then (if n < 60 then some (n + 1) else none) else if f k = -1 then (if 1 ≤ n then some n else none) else if 2 ≤ n then some (n - 1) else none
/-- a clause: its first sign's place in the class's row of codes is fr -/
def ClR (I : Fn) (h f i : Nat) (fr : Int) : Prop := (rng 0 3 (I (h + 1) i) ∧ I 108 (10 * f + i) = I (h + 1) i) ∧ ((rng 0 99 (I (h + 2) i) ∧ I 109 (10 * f + i) = I (h + 2) i) ∧ ((0 ≤ fr ∧ (fr ≤ I (h + 3) i ∧ I (h + 3) i ≤ 100)) ∧ (I (h + 1) i ≠ 3 → (0 ≤ I 110 (10 * f + i) ∧ (I 111 (10 * f + i) ≤ ((100 * f + 100 : Nat) : Int) ∧ I 111 (10 * f + i) - I 110 (10 * f + i) = I (h + 3) i - fr)) ∧ ((∀ k : Nat, (k : Int) < I (h + 3) i - fr → TokR (I (h + 4) (fr.toNat + k)) (I 112 ((I 110 (10 * f + i)).toNat + k))) ∧ dep (fun k => I (h + 4) (fr.toNat + k)) (I (h + 3) i - fr).toNat = some 1))))
def frm (I : Fn) (h i : Nat) : Int := match i with
  | 0 => 0
  | i + 1 => I (h + 3) i
def HallR (I : Fn) (h f : Nat) : Prop := rng 0 10 (I h 0) ∧ (I 107 f = I h 0 ∧ ∀ i : Nat, (i : Int) < I h 0 → ClR I h f i (frm I h i))
def HL (I : Fn) : Prop := rng 0 6 (I 38 1) ∧ (I 92 15 = I 38 1 ∧ (I 40 0 = 0 ∧ Al6 (fun f => (f : Int) < I 38 1 → HallR I (45 + 5 * f) f)))
abbrev HLr : List Nat := [38, 40, 1015, 107, 108, 109, 110, 111, 112, 45, 46, 47, 48, 49, 50, 51, 52, 53, 54, 55, 56, 57, 58, 59, 60, 61, 62, 63, 64, 65, 66, 67, 68, 69, 70, 71, 72, 73, 74]
theorem frm_msk (I : Fn) (f i : Nat) (hf : f < 6) : frm (msk HLr I) (45 + 5 * f) i = frm I (45 + 5 * f) i := by
  cases i with
  | zero => rfl
  | succ i =>
    match f, hf with
    | 0, _ => rfl
    | 1, _ => rfl
    | 2, _ => rfl
    | 3, _ => rfl
    | 4, _ => rfl
    | 5, _ => rfl
    | n + 6, h => omega
theorem HallR_msk (I : Fn) (f : Nat) (hf : f < 6) : HallR (msk HLr I) (45 + 5 * f) f ↔ HallR I (45 + 5 * f) f := by
  unfold HallR
  simp only [frm_msk I f _ hf]
  match f, hf with
  | 0, _ => exact Iff.rfl
  | 1, _ => exact Iff.rfl
  | 2, _ => exact Iff.rfl
  | 3, _ => exact Iff.rfl
  | 4, _ => exact Iff.rfl
  | 5, _ => exact Iff.rfl
  | n + 6, h => omega
theorem HL_fr {X : List Nat} {I I' : Fn} (h : HL I) (hf : Fr X I I') (hd : HLr.all (fun a => !X.elem a) = true) : HL I' := by
  have e := msk_fr hf hd
  have f1 : I' 38 1 = I 38 1 := congrFun (congrFun e 38) 1
  have f2 : I' 92 15 = I 92 15 := congrFun (congrFun e 92) 15
  have f3 : I' 40 0 = I 40 0 := congrFun (congrFun e 40) 0
  obtain ⟨h1, h2, h3, h4⟩ := h
  refine ⟨by rw [f1]; exact h1, by rw [f1, f2]; exact h2, by rw [f3]; exact h3, Al6.of (fun f hf6 hl => ?_)⟩
  rw [f1] at hl
  have := h4.at hf6 hl
  rw [← HallR_msk _ _ hf6] at this ⊢
  rw [e]
  exact this
/-- acts and what they leave -/
def AC (I : Fn) : Prop := rng 0 1000 (I 86 1) ∧ (I 92 61 = I 86 1 ∧ ∀ k : Nat, k < 20 → (k : Int) < I 86 1 → I 137 k = I 87 k)
abbrev ACr : List Nat := [86, 87, 1061, 137]
theorem AC_fr {X : List Nat} {I I' : Fn} (h : AC I) (hf : Fr X I I') (hd : ACr.all (fun a => !X.elem a) = true) : AC I' := by
  have h2 : AC (msk ACr I) := h
  rw [← msk_fr hf hd] at h2
  exact h2
/-- tapes -/
def TP (I L : Fn) : Prop := (∀ t, t < 6 → rng (-1) 4 (I 89 t) ∧ (I 138 t = I 89 t ∧ (rng 0 60 (I 90 t) ∧ (I 139 t = I 90 t ∧ ((I 89 t = -1 → I 90 t = 0) ∧ (I 89 t = 0 → ∀ i, i < 60 → rng (-128) 127 (L 91 (60 * t + i)))))))) ∧ ∀ k, k < 360 → L 140 k = L 91 k
abbrev TPr : List Nat := [89, 90, 138, 139, 91, 140]
theorem TP_fr {X Y : List Nat} {I I' L L' : Fn} (h : TP I L) (hf : Fr X I I') (hd : TPr.all (fun a => !X.elem a) = true) (hL : Fr Y L L') (hdL : TPr.all (fun a => !Y.elem a) = true) : TP I' L' := by
  have h2 : TP (msk TPr I) (msk TPr L) := h
  rw [← msk_fr hf hd, ← msk_fr hL hdL] at h2
  exact h2
/-- what never changes -/
def CS (I : Fn) : Prop := (I 0 0 = -1 ∧ (I 0 1 = 0 ∧ (I 0 2 = 0 ∧ (I 0 3 = 0 ∧ (I 0 4 = 1 ∧ (I 0 5 = 2 ∧ I 0 6 = 3)))))) ∧ ((∀ j, j < 21 → I 1 j = ([10, 11, 12, 0, 20, 0, 30, 0, 0, 0, 0, 40, 50, 51, 0, 0, 0, 60, 71, 70, 0] : List Int).getD j 0) ∧ ((∀ j, j < 16 → I 5 j = ([114, 101, 97, 100, 98, 108, 117, 114, 115, 108, 111, 119, 114, 111, 111, 109] : List Int).getD j 0 ∧ I 114 j = I 5 j) ∧ ((I 6 0 = 98 ∧ (I 6 1 = 100 ∧ (I 6 2 = 107 ∧ (I 6 3 = 116 ∧ (I 6 4 = 103 ∧ I 6 5 = 99))))) ∧ ((I 7 0 = 60 ∧ (I 7 1 = 61 ∧ I 7 2 = 62)) ∧ (I 2 1 = 0 ∧ (I 3 1 = 0 ∧ I 4 1 = 0))))))
abbrev CSr : List Nat := [0, 1, 2, 3, 4, 5, 6, 7, 114]
theorem CS_fr {X : List Nat} {I I' : Fn} (h : CS I) (hf : Fr X I I') (hd : CSr.all (fun a => !X.elem a) = true) : CS I' := by
  have h2 : CS (msk CSr I) := h
  rw [← msk_fr hf hd] at h2
  exact h2
def Rel (I L : Fn) : Prop := WC (I 38 1) I ∧ (WM I I ∧ (IM (I 38 1) I ∧ (TX I ∧ (HL I ∧ (AC I ∧ (TP I L ∧ CS I))))))
/-- the cells that only serve while a call runs -/
abbrev SCR : List Nat := [76, 77, 78, 80, 81, 82, 84, 85, 105, 113, 115, 118, 119, 120, 121, 1018, 1019, 1028, 1029, 1030, 1039, 3002]
abbrev SCL : List Nat := [116, 117, 122, 141]
theorem Rel.scr {I I' L L' : Fn} (h : Rel I L) (hf : Fr SCR I I') (hL : Fr SCL L L') : Rel I' L' := by
  obtain ⟨h1, h2, h3, h4, h5, h6, h7, h8⟩ := h
  have e : I' 38 1 = I 38 1 := hf 38 1 rfl
  refine ⟨?_, WM_fr0 (WM_fr h2 hf (by decide)) hf (by decide), ?_, TX_fr h4 hf (by decide), HL_fr h5 hf (by decide), AC_fr h6 hf (by decide), TP_fr h7 hf (by decide) hL (by decide), CS_fr h8 hf (by decide)⟩
  · rw [e]; exact WC_fr h1 hf (by decide)
  · rw [e]; exact IM_fr h3 hf (by decide)
