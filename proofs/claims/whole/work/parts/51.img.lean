theorem Fr_rng {lo hi : Nat} {X : List Nat} {I I' : Fn} (h : ∀ a j, ¬ (lo ≤ a ∧ a ≤ hi) → I' a j = I a j) (hX : (List.range (hi + 1)).all (fun a => Nat.blt a lo || X.elem a) = true) (h9 : 93 ≤ lo) : Fr X I I' := by
  intro a j e
  refine h a j (fun q => ?_)
  have h1 := List.all_eq_true.mp hX a (List.mem_range.mpr (by omega))
  have h2 : Nat.blt a lo = false := by
    cases hb : Nat.blt a lo with
    | false => rfl
    | true =>
      have : a + 1 ≤ lo := Nat.le_of_ble_eq_true hb
      omega
  rw [h2, Bool.false_or] at h1
  have h3 : ky a j = a := by
    unfold ky
    rw [nbeq, nbeq, nbeq]
    rw [show decide (a = 92) = false from decide_eq_false (by omega), show decide (a = 10) = false from decide_eq_false (by omega), show decide (a = 36) = false from decide_eq_false (by omega)]
    rfl
  rw [h3, h1] at e
  cases e
theorem WEq_c2 {I A B : Fn} (h : WEq I A) (e : ∀ k j, 10 ≤ k → k ≤ 22 → B k j = A k j) : WEq I B := by
  obtain ⟨e1, e2, e3, e4, e5, e6, e7, e8⟩ := h
  refine ⟨fun b hb => ?_, ?_, ?_, ?_, ?_, fun c hc j hj => ?_, fun o ho => ?_, fun k hk => ?_⟩
  · rw [e _ _ (by omega) (by omega), e _ _ (by omega) (by omega)]; exact e1 b hb
  · rw [e _ _ (by omega) (by omega)]; exact e2
  · rw [e _ _ (by omega) (by omega)]; exact e3
  · rw [e _ _ (by omega) (by omega)]; exact e4
  · rw [e _ _ (by omega) (by omega)]; exact e5
  · rw [e _ _ (by omega) (by omega)]; exact e6 c hc j hj
  · rw [e _ _ (by omega) (by omega), e _ _ (by omega) (by omega)]; exact e7 o ho
  · rw [e _ _ (by omega) (by omega)]; exact e8 k hk
theorem PicM_k {I : Fn} {k j : Nat} (h1 : k ≠ 92) (h2 : k ≠ 123) : PicM I k j = I (k + 31) j := by
  unfold PicM
  rw [nbeq, nbeq, show decide (k = 92) = false from decide_eq_false h1, show decide (k = 123) = false from decide_eq_false h2]
  rfl
theorem Rel.num {I L : Fn} (h : Rel I L) : ∀ c, c < 6 → I (30 + c) 0 = I (17 + c) 0 := fun c hc => (h.2.2.1.2.2.1.at hc).trans (h.bagC hc).1.symm
abbrev IGr : List Nat := [23, 24, 25, 27, 28, 29, 30, 31, 32, 33, 34, 35, 9, 1043, 1044, 1045, 1046, 1047, 124, 125, 126, 127, 128, 129, 130, 131, 132, 133, 134, 135, 136]
theorem k_image {I L : Fn} (h : Rel I L) : SameI 118 215 [] I L := by
  obtain ⟨I1, p1, p2, p3, p4⟩ := c_toPic (d := 56) (L := L) h.num
  have f1 : Fr IGr I (up I1 9 9 1) := (p4.mono (by decide)).up rfl
  have f2 : Fr IGr I (up (up (up (up (up (up I1 9 9 1) 92 43 1) 92 44 (I 10 9)) 92 45 (I 10 3)) 92 46 (I 10 6)) 92 47 (I 10 8)) := ((((f1.up rfl).up rfl).up rfl).up rfl).up rfl
  obtain ⟨Ia, a1, a2, a3⟩ := mi1 (F := CallD 59) (J := up (up (up (up (up (up I1 9 9 1) 92 43 1) 92 44 (I 10 9)) 92 45 (I 10 3)) 92 46 (I 10 6)) 92 47 (I 10 8)) (L := L) 8 0 _ (by omega) (by omega) (fun _ _ _ _ => rfl) (fun b hb => by omega)
  have fa : Fr IGr I Ia := f2.trans (Fr_rng (lo := 124) (hi := 125) (fun a j q => a2 a j (by omega) (by omega)) (by decide) (by decide))
  obtain ⟨Ib, b1, b2, b3⟩ := mi2 (F := CallD 59) (J := Ia) (L := L) 6 0 Ia (by omega) (by omega) (fun _ _ _ => rfl) (fun b hb => by omega)
  have fb : Fr IGr I Ib := fa.trans (Fr_rng b2 (by decide) (by decide))
  obtain ⟨Ic, c1, c2, c3⟩ := mi3 (F := CallD 59) (J := Ib) (L := L) 12 0 Ib (by omega) (by omega) (fun _ _ _ => rfl) (fun b hb => by omega)
  have fc : Fr IGr I Ic := fb.trans (Fr_rng (lo := 136) (hi := 136) (fun a j q => c2 a j (by omega)) (by decide) (by decide))
  have g1 := h.2.1.2.2.2.2.1
  have g2 := h.2.1.2.1
  have g3 := h.2.1.2.2.1
  have g4 := h.2.1.2.2.2.1
  have low : ∀ a j, a < 92 → Ic a j = up I1 9 9 1 a j := by
    intro a j ha
    rw [c2 a j (by omega), b2 a j (by omega), a2 a j (by omega) (by omega)]
    simp (disch := omega) only [up_ne]
  have m92 : ∀ j, Ic 92 j = (up (up (up (up (up (up I1 9 9 1) 92 43 1) 92 44 (I 10 9)) 92 45 (I 10 3)) 92 46 (I 10 6)) 92 47 (I 10 8)) 92 j := by
    intro j
    rw [c2 92 j (by omega), b2 92 j (by omega), a2 92 j (by omega) (by omega)]
  have rv : Ib 92 2 = I 10 3 := (fb 92 2 rfl).trans g2
  rw [rv] at c1
  have e38 : Ic 38 1 = I 38 1 := fc 38 1 rfl
  refine ⟨I 10 3, _, _, _, _, (e118_1 p1 (p4 10 3 rfl)), Eq.trans (e215_1 ((f1 92 16 rfl).trans g1) ((f1 92 2 rfl).trans g2) ((f1 92 3 rfl).trans g3) ((f1 92 41 rfl).trans g4)) (a1.trans (b1.trans c1)), ?_⟩
  obtain ⟨h1, h2, h3, h4, h5, h6, h7, h8⟩ := h
  have e99 : Ic 9 9 = 1 := (low 9 9 (by omega)).trans rfl
  have peq : WEq I (PicC Ic) := WEq_c2 p2 (fun k j k1 k2 => (low (k + 13) j (by omega)).trans (by rw [up_ne (by omega)]; rfl))
  have meq : MEq I (PicM Ic) := by
    refine ⟨fun b hb => ⟨?_, ?_⟩, (m92 45).trans g2.symm, (m92 46).trans g3.symm, (m92 47).trans g4.symm, (m92 44).trans g1.symm, fun c hc k k1 k2 => ?_, fun k hk => ?_⟩
    · exact (c2 124 b (by omega)).trans ((b2 124 b (by omega)).trans ((a3 b hb).1.trans (f2 93 b rfl)))
    · exact (c2 125 b (by omega)).trans ((b2 125 b (by omega)).trans ((a3 b hb).2.trans (f2 94 b rfl)))
    · rw [PicM_k (by omega) (by omega), c2 _ _ (by omega), b3 c hc k k1 k2]
      rcases (by omega : k = 95 ∨ k = 96 ∨ k = 97 ∨ k = 98 ∨ k = 99 ∨ k = 100 ∨ k = 101 ∨ k = 102 ∨ k = 103 ∨ k = 104) with z | z | z | z | z | z | z | z | z | z <;> subst z <;> exact fa _ c rfl
    · exact (c3 k hk).trans (fb 123 k rfl)
  refine ⟨by rw [e38]; exact WC_fr h1 fc (by decide), WM_fr0 (WM_fr h2 fc (by decide)) fc (by decide), ⟨.inr e99, (m92 43).trans e99.symm, Al6.of (fun c hc => ?_), fun _ => ⟨by rw [e38]; exact WC_eq h1 peq, WM_eq h2 peq meq⟩⟩, TX_fr h4 fc (by decide), HL_fr h5 fc (by decide), AC_fr h6 fc (by decide), TP_fr h7 fc (by decide) (Fr.refl [] L) (by decide), CS_fr h8 fc (by decide)⟩
  rw [low (30 + c) 0 (by omega), up_ne (by omega), p3 c hc]
  exact h3.2.2.1.at hc
