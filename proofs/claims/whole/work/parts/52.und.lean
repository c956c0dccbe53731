abbrev UNr : List Nat := [2003, 2006, 2008, 2009, 11, 12, 14, 15, 16, 17, 18, 19, 20, 21, 22, 1002, 1003, 1041, 1016, 93, 94, 95, 96, 97, 98, 99, 100, 101, 102, 103, 104, 123]
theorem k_undo {I L : Fn} (h : Rel I L) : SameI 121 216 [] I L := by
  have hno := h.num
  have h0 := h
  obtain ⟨h1, h2, h3, h4, h5, h6, h7, h8⟩ := h
  obtain ⟨i1, i2, i3, i4⟩ := h3
  by_cases e0 : I 9 9 = 0
  · exact ⟨_, _, _, _, _, (e121_2 rfl (by omega)), (e216_2 i2 (by omega)), h0⟩
  obtain ⟨wc, wm⟩ := i4 (by omega)
  obtain ⟨I1, p1, p2, p4⟩ := c_toWorld (d := 56) (L := L) hno
  have f1 : Fr UNr I I1 := p4.mono (by decide)
  have f2 : Fr UNr I (up (up (up (up I1 92 16 (I 92 44)) 92 2 (I 92 45)) 92 3 (I 92 46)) 92 41 (I 92 47)) := (((f1.up rfl).up rfl).up rfl).up rfl
  obtain ⟨Ia, a1, a2, a3⟩ := mu1 (F := CallD 59) (J := up (up (up (up I1 92 16 (I 92 44)) 92 2 (I 92 45)) 92 3 (I 92 46)) 92 41 (I 92 47)) (L := L) 8 0 _ (by omega) (by omega) (fun _ _ _ _ => rfl) (fun b hb => by omega)
  have fa : Fr UNr I Ia := f2.trans (Fr_rng (lo := 93) (hi := 94) (fun a j q => a2 a j (by omega) (by omega)) (by decide) (by decide))
  obtain ⟨Ib, b1, b2, b3⟩ := mu2 (F := CallD 59) (J := Ia) (L := L) 6 0 Ia (by omega) (by omega) (fun _ _ _ => rfl) (fun b hb => by omega)
  have fb : Fr UNr I Ib := fa.trans (Fr_rng b2 (by decide) (by decide))
  obtain ⟨Ic, c1, c2, c3⟩ := mu3 (F := CallD 59) (J := Ib) (L := L) 12 0 Ib (by omega) (by omega) (fun _ _ _ => rfl) (fun b hb => by omega)
  have fc : Fr UNr I Ic := fb.trans (Fr_rng (lo := 123) (hi := 123) (fun a j q => c2 a j (by omega)) (by decide) (by decide))
  have low : ∀ a j, a < 92 → Ic a j = I1 a j := by
    intro a j ha
    rw [c2 a j (by omega), b2 a j (by omega), a2 a j (by omega) (by omega)]
    simp (disch := omega) only [up_ne]
  have m92 : ∀ j, Ic 92 j = (up (up (up (up I1 92 16 (I 92 44)) 92 2 (I 92 45)) 92 3 (I 92 46)) 92 41 (I 92 47)) 92 j := by
    intro j
    rw [c2 92 j (by omega), b2 92 j (by omega), a2 92 j (by omega) (by omega)]
  have rv : Ib 92 2 = I 23 3 := by
    have q : Ib 92 2 = I 92 45 := by rw [b2 92 2 (by omega), a2 92 2 (by omega) (by omega)]; rfl
    exact q.trans wm.2.1
  rw [rv] at c1
  have e38 : Ic 38 1 = I 38 1 := fc 38 1 rfl
  refine ⟨I 23 3, _, _, _, _, (e121_1 rfl (by omega) p1 p2.2.1), Eq.trans (e216_1 ((f1 92 43 rfl).trans i2) (by omega) (f1 92 44 rfl) (f1 92 45 rfl) (f1 92 46 rfl) (f1 92 47 rfl)) (a1.trans (b1.trans c1)), ?_⟩
  have peq : WEq (PicC I) Ic := WEq_c2 p2 (fun k j k1 k2 => low k j (by omega))
  have meq : MEq (PicM I) Ic := by
    refine ⟨fun b hb => ⟨?_, ?_⟩, m92 2, m92 3, m92 41, m92 16, fun c hc k k1 k2 => ?_, fun k hk => ?_⟩
    · exact (c2 93 b (by omega)).trans ((b2 93 b (by omega)).trans ((a3 b hb).1.trans (f2 124 b rfl)))
    · exact (c2 94 b (by omega)).trans ((b2 94 b (by omega)).trans ((a3 b hb).2.trans (f2 125 b rfl)))
    · rw [PicM_k (by omega) (by omega), c2 _ _ (by omega), b3 c hc k k1 k2]
      rcases (by omega : k = 95 ∨ k = 96 ∨ k = 97 ∨ k = 98 ∨ k = 99 ∨ k = 100 ∨ k = 101 ∨ k = 102 ∨ k = 103 ∨ k = 104) with z | z | z | z | z | z | z | z | z | z <;> subst z <;> exact fa _ c rfl
    · exact (c3 k hk).trans (fb 136 k rfl)
  exact ⟨by rw [e38]; exact WC_eq wc peq, WM_eq wm peq meq, by rw [e38]; exact IM_fr ⟨i1, i2, i3, i4⟩ fc (by decide), TX_fr h4 fc (by decide), HL_fr h5 fc (by decide), AC_fr h6 fc (by decide), TP_fr h7 fc (by decide) (Fr.refl [] L) (by decide), CS_fr h8 fc (by decide)⟩
