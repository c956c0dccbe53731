/-- nothing of a case has changed -/
theorem BagC.fr {I I' : Fn} {c : Nat} (h : BagC I c) (e : ∀ j, I' (17 + c) j = I (17 + c) j) : BagC I' c := by
  unfold BagC
  rw [e, e, e, e, e, e, e, e]
  exact h
theorem BagM.fr {I0 I0' I I' : Fn} {c : Nat} (h : BagM I0 I c) (e0 : ∀ j, I0' (17 + c) j = I0 (17 + c) j) (e : ∀ k, 95 ≤ k → k ≤ 102 → I' k c = I k c) : BagM I0' I' c := by
  unfold BagM
  rw [e0, e0, e0, e0, e0, e0, e0, e0, e 95 (by omega) (by omega), e 96 (by omega) (by omega), e 97 (by omega) (by omega), e 98 (by omega) (by omega), e 99 (by omega) (by omega), e 100 (by omega) (by omega), e 101 (by omega) (by omega), e 102 (by omega) (by omega)]
  exact h
/-- the keys of the cases' cells -/
theorem elem_bag {c : Nat} (hc : c < 6) {X : List Nat} (h : [17, 18, 19, 20, 21, 22].all (fun a => X.elem a) = true) (j : Nat) : X.elem (ky (17 + c) j) = true := by
  match c, hc with
  | 0, _ => exact List.all_eq_true.mp h 17 (by decide)
  | 1, _ => exact List.all_eq_true.mp h 18 (by decide)
  | 2, _ => exact List.all_eq_true.mp h 19 (by decide)
  | 3, _ => exact List.all_eq_true.mp h 20 (by decide)
  | 4, _ => exact List.all_eq_true.mp h 21 (by decide)
  | 5, _ => exact List.all_eq_true.mp h 22 (by decide)
  | n + 6, h => omega
theorem Fr.bag {X : List Nat} {I I' : Fn} (h : Fr X I I') (hd : [17, 18, 19, 20, 21, 22].all (fun a => !X.elem a) = true) {c : Nat} (hc : c < 6) (j : Nat) : I' (17 + c) j = I (17 + c) j := by
  have g : ∀ a, a ∈ [17, 18, 19, 20, 21, 22] → X.elem a = false := by
    intro a ha
    have := List.all_eq_true.mp hd a ha
    cases hx : X.elem a with
    | false => rfl
    | true => rw [hx] at this; cases this
  match c, hc with
  | 0, _ => exact h.cell rfl (g 17 (by decide)) j
  | 1, _ => exact h.cell rfl (g 18 (by decide)) j
  | 2, _ => exact h.cell rfl (g 19 (by decide)) j
  | 3, _ => exact h.cell rfl (g 20 (by decide)) j
  | 4, _ => exact h.cell rfl (g 21 (by decide)) j
  | 5, _ => exact h.cell rfl (g 22 (by decide)) j
  | n + 6, h => omega
abbrev BGr : List Nat := [17, 18, 19, 20, 21, 22]
/-- Rel after a change of one case, on both sides -/
theorem Rel.oneBag {I I' L : Fn} {c : Nat} (h : Rel I L) (hc : c < 6) (hf : Fr (2003 :: 1002 :: BGr ++ [95, 96, 97, 98, 99, 100, 101, 102]) I I') (hn : rng 0 6 (I' 10 3)) (hnm : I' 92 2 = I' 10 3) (ho : ∀ c', c' < 6 → c' ≠ c → (∀ j, I' (17 + c') j = I (17 + c') j) ∧ ∀ k, 95 ≤ k → k ≤ 102 → I' k c' = I k c') (hb : BagC I' c) (hm : BagM I' I' c) : Rel I' L := by
  obtain ⟨h1, h2, h3, h4, h5, h6, h7, h8⟩ := h
  have e38 : I' 38 1 = I 38 1 := hf 38 1 rfl
  refine ⟨⟨?_, hn, ?_, ?_, ?_, ?_, ?_, ?_⟩, ⟨?_, hnm, ?_, ?_, ?_, ?_, ?_, ?_⟩, ?_, TX_fr h4 hf (by decide), HL_fr h5 hf (by decide), AC_fr h6 hf (by decide), TP_fr h7 hf (by decide) (Fr.refl [] L) (by decide), CS_fr h8 hf (by decide)⟩
  · intro b hb
    rw [hf 11 b rfl, hf 12 b rfl]
    exact h1.1 b hb
  · rw [hf 10 6 rfl]; exact h1.2.2.1
  · rw [hf 10 8 rfl]; exact h1.2.2.2.1
  · rw [hf 10 9 rfl, e38]; exact h1.2.2.2.2.1
  · refine Al6.of (fun c' hc' => ?_)
    by_cases e : c' = c
    · rw [e]; exact hb
    · exact (h1.2.2.2.2.2.1.at hc').fr (ho c' hc' e).1
  · intro o hos
    rw [hf 14 o rfl, hf 15 o rfl]
    exact h1.2.2.2.2.2.2.1 o hos
  · intro o hos
    rw [hf 16 o rfl]
    exact h1.2.2.2.2.2.2.2 o hos
  · intro b hb
    rw [hf 11 b rfl, hf 12 b rfl, hf 93 b rfl, hf 94 b rfl]
    exact h2.1 b hb
  · rw [hf 92 3 rfl, hf 10 6 rfl]; exact h2.2.2.1
  · rw [hf 92 41 rfl, hf 10 8 rfl]; exact h2.2.2.2.1
  · rw [hf 92 16 rfl, hf 10 9 rfl]; exact h2.2.2.2.2.1
  · refine Al6.of (fun c' hc' => ?_)
    by_cases e : c' = c
    · rw [e]; exact hm
    · exact (h2.2.2.2.2.2.1.at hc').fr (ho c' hc' e).1 (ho c' hc' e).2
  · intro o hos
    rw [hf 103 o rfl, hf 104 o rfl, hf 14 o rfl, hf 15 o rfl]
    exact h2.2.2.2.2.2.2.1 o hos
  · intro o hos
    rw [hf 123 o rfl, hf 16 o rfl]
    exact h2.2.2.2.2.2.2.2 o hos
  · rw [e38]; exact IM_fr h3 hf (by decide)
theorem k_bag {I L : Fn} {a1 a2 a3 a4 a5 : Int} (h : Rel I L) : SameI 17 146 [vi a1, vi a2, vi a3, vi a4, vi a5] I L := by
  have hn := h.2.1.2.1
  have hr := h.bags
  have hr' := hr
  unfold rng at hr'
  by_cases g1 : 0 ≤ a1 ∧ a1 < 7
  · by_cases g3 : 0 ≤ a3 ∧ a3 < 8
    · by_cases g4 : 0 ≤ a4 ∧ a4 < 8
      · by_cases g2 : 0 ≤ a2 ∧ a2 ≤ 9
        · by_cases g5 : 0 ≤ a5 ∧ a5 ≤ 999
          · by_cases e : I 10 3 = 6
            · exact ⟨_, _, _, _, _, (e17_6 (isK1 g1) (by omega) (isB1 g3) (by omega) (isB1 g4) (by omega) (by omega) (by omega) (isM1 g5) (by omega) rfl (by omega)), (e146_5 (mI1 (by omega)) (by omega) (mB1 g3) (by omega) (mB1 g4) (by omega) (mI1 g2) (by omega) (mM1 g5) (by omega) hn (by omega)), h⟩
            · have hc : (I 10 3).toNat < 6 := by omega
              have hk := K0bag hc
              have hbc := h.bagC hc
              have rd : (up (up (up (up (up (up (up (up I (17 + (I 10 3).toNat) 1 a1) (17 + (I 10 3).toNat) 2 a2) (17 + (I 10 3).toNat) 3 a3) (17 + (I 10 3).toNat) 4 a4) (17 + (I 10 3).toNat) 6 a5) (17 + (I 10 3).toNat) 5 0) (17 + (I 10 3).toNat) 7 0) (17 + (I 10 3).toNat) 8 0) 10 3 = I 10 3 := by
                simp (disch := omega) only [up_ne]
              refine ⟨_, _, _, _, _, (e17_5 (isK1 g1) (by omega) (isB1 g3) (by omega) (isB1 g4) (by omega) (by omega) (by omega) (isM1 g5) (by omega) rfl (by omega) (by omega) (R0bag hc) hk (e20_1 (by assumption) (by omega)) rd (w32_id (by omega) (by omega)) (w32_id (by omega) (by omega))), (e146_4 (mI1 (by omega)) (by omega) (mB1 g3) (by omega) (mB1 g4) (by omega) (mI1 g2) (by omega) (mM1 g5) (by omega) (show _ = I 10 3 from by simp (disch := omega) only [up_ne]; exact hn) (by omega) (by omega) (w32_id (by omega) (by omega)) (w32_id (by omega) (by omega))), ?_⟩
              obtain ⟨c, ec⟩ : ∃ c : Nat, I 10 3 = c := ⟨(I 10 3).toNat, by omega⟩
              simp only [ec, Int.toNat_natCast] at hc hbc ⊢
              have hX : ∀ j, (2003 :: 1002 :: BGr ++ [95, 96, 97, 98, 99, 100, 101, 102]).elem (ky (17 + c) j) = true := elem_bag hc (by decide)
              refine h.oneBag hc (Fr.up (Fr.up (Fr.up (Fr.up (Fr.up (Fr.up (Fr.up (Fr.up (Fr.up (Fr.up (Fr.up (Fr.up (Fr.up (Fr.up (Fr.up (Fr.up (Fr.up (Fr.up (Fr.refl _ I) (hX _)) (hX _)) (hX _)) (hX _)) (hX _)) (hX _)) (hX _)) (hX _)) rfl) rfl) rfl) rfl) rfl) rfl) rfl) rfl) rfl) rfl) ?_ ?_ ?_ ?_ ?_
              · show rng 0 6 ((c : Int) + 1)
                unfold rng; omega
              · rfl
              · intro c' hc' hne
                refine ⟨fun j => ?_, fun k hk1 hk2 => ?_⟩
                · simp (disch := omega) only [up_ne]
                · simp (disch := omega) only [up_nj, up_ne]
              · refine ⟨?_, ?_, ?_, ?_, ?_, ?_, ?_, ?_⟩ <;> simp (disch := omega) only [upx, up_ne, up_nj] <;> first | exact hbc.1 | (unfold rng; omega)
              · refine ⟨?_, ?_, ?_, ?_, ?_, ?_, ?_, ?_⟩ <;> simp (disch := omega) only [upx, up_ne, up_nj]
          · exact ⟨_, _, _, _, _, (e17_7 (isK1 g1) (by omega) (isB1 g3) (by omega) (isB1 g4) (by omega) (by omega) (by omega) (isM0 g5) (by omega)), (e146_6 (mI1 (by omega)) (by omega) (mB1 g3) (by omega) (mB1 g4) (by omega) (mI1 g2) (by omega) (mM0 g5) (by omega)), h⟩
        · by_cases q : a2 < 0
          · exact ⟨_, _, _, _, _, (e17_3 (isK1 g1) (by omega) (isB1 g3) (by omega) (isB1 g4) (by omega) (by omega)), (e146_3 (mI1 (by omega)) (by omega) (mB1 g3) (by omega) (mB1 g4) (by omega) (mI0 g2) (by omega)), h⟩
          · exact ⟨_, _, _, _, _, (e17_4 (isK1 g1) (by omega) (isB1 g3) (by omega) (isB1 g4) (by omega) (by omega) (by omega)), (e146_3 (mI1 (by omega)) (by omega) (mB1 g3) (by omega) (mB1 g4) (by omega) (mI0 g2) (by omega)), h⟩
      · exact ⟨_, _, _, _, _, (e17_8 (isK1 g1) (by omega) (isB1 g3) (by omega) (isB0 g4) (by omega)), (e146_7 (mI1 (by omega)) (by omega) (mB1 g3) (by omega) (mB0 g4) (by omega)), h⟩
    · exact ⟨_, _, _, _, _, (e17_2 (isK1 g1) (by omega) (isB0 g3) (by omega)), (e146_2 (mI1 (by omega)) (by omega) (mB0 g3) (by omega)), h⟩
  · exact ⟨_, _, _, _, _, (e17_1 (isK0 g1) (by omega)), (e146_1 (mI0 (by omega)) (by omega)), h⟩
