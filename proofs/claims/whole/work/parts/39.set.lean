theorem Rel.setF {I L : Fn} {c f mk : Nat} {v : Int} (h : Rel I L) (hc : c < 6) (hq : (f = 3 ∧ (mk = 97 ∧ (0 ≤ v ∧ v ≤ 7))) ∨ ((f = 4 ∧ (mk = 98 ∧ (0 ≤ v ∧ v ≤ 7))) ∨ (f = 5 ∧ (mk = 99 ∧ (0 ≤ v ∧ v ≤ 9))))) : Rel (up (up I (17 + c) f v) mk c v) L := by
  have hbc := h.bagC hc
  have hbm := h.bagM hc
  have hr := h.bags
  have hn := h.2.1.2.1
  have hX : ∀ j, (2003 :: 1002 :: BGr ++ [95, 96, 97, 98, 99, 100, 101, 102]).elem (ky (17 + c) j) = true := elem_bag hc (by decide)
  have hm : 95 ≤ mk ∧ mk ≤ 102 := by omega
  refine h.oneBag hc (Fr.up (Fr.up (Fr.refl _ I) (hX _)) (by rcases hq with ⟨_, q, _⟩ | ⟨_, q, _⟩ | ⟨_, q, _⟩ <;> subst q <;> rfl)) ?_ ?_ ?_ ?_ ?_
  · simp (disch := omega) only [up_ne]; exact hr
  · simp (disch := omega) only [up_ne]; exact hn
  · intro c' hc' hne
    refine ⟨fun j => ?_, fun k hk1 hk2 => ?_⟩
    · simp (disch := omega) only [up_ne]
    · simp (disch := omega) only [up_nj, up_ne]
  · unfold BagC rng at hbc ⊢
    rcases hq with ⟨q1, q2, q3⟩ | ⟨q1, q2, q3⟩ | ⟨q1, q2, q3⟩ <;> subst q1 <;> subst q2 <;> simp (disch := omega) only [upx, up_ne, up_nj] <;> omega
  · unfold BagM at hbm ⊢
    rcases hq with ⟨q1, q2, q3⟩ | ⟨q1, q2, q3⟩ | ⟨q1, q2, q3⟩ <;> subst q1 <;> subst q2 <;> simp (disch := omega) only [upx, up_ne, up_nj] <;> simp only [hbm, and_self]
theorem k_set {I L : Fn} {a b v : Int} (h : Rel I L) : SameI 31 148 [vi a, vi b, vi v] I L := by
  have hn := h.2.1.2.1
  have hr := h.bags
  have hr' := hr
  unfold rng at hr'
  by_cases ha : 0 ≤ a ∧ a < I 10 3
  · have hc : a.toNat < 6 := by omega
    have hm := h.bagM hc
    have hk := K0bag hc
    have ne : ∀ f (w : Int), (up I (17 + a.toNat) f w) 92 2 = I 10 3 := fun f w => by rw [up_ne (by omega)]; exact hn
    have e1 := bagAt1 (d := 58) (L := L) ha hr
    by_cases hb : 0 ≤ b ∧ b ≤ 2
    · by_cases b1 : b = 1
      · by_cases hv : 0 ≤ v ∧ v ≤ 9
        · refine ⟨_, _, _, _, _, (e31_9 e1 (by omega) (by omega) (by omega) (by omega) (by omega) (by omega) (by omega) (by omega) (by assumption) rfl (by omega)), (e148_16 (mC1 (ne _ _) hr ha) (by omega) (mI1 hb) (by omega) (by omega) (by omega) (mI1 hv) (by omega) (by omega) (by omega) (by omega) (show _ = I (17 + a.toNat) 5 from by rw [up_ne (by omega)]; exact hm.2.2.2.2.1) (by omega) (by omega)), h.setF hc (by omega)⟩
        · by_cases q : v < 0
          · exact ⟨_, _, _, _, _, (e31_7 e1 (by omega) (by omega) (by omega) (by omega) (by omega)), (e148_21 (mC1 hn hr ha) (by omega) (mI1 hb) (by omega) (by omega) (by omega) (mI0 hv) (by omega)), h⟩
          · exact ⟨_, _, _, _, _, (e31_11 e1 (by omega) (by omega) (by omega) (by omega) (by omega) (by omega)), (e148_21 (mC1 hn hr ha) (by omega) (mI1 hb) (by omega) (by omega) (by omega) (mI0 hv) (by omega)), h⟩
      · by_cases hv : 0 ≤ v ∧ v < 8
        · by_cases b0 : b = 0
          · refine ⟨_, _, _, _, _, (e31_14 e1 (by omega) (by omega) (by omega) (isB1 hv) (by omega) (by omega) (by omega) (by assumption) rfl (by omega)), (e148_30 (mC1 (ne _ _) hr ha) (by omega) (mI1 hb) (by omega) (by omega) (mB1 hv) (by omega) (by omega) (by omega) (by omega) (show _ = I (17 + a.toNat) 4 from by rw [up_ne (by omega)]; exact hm.2.2.2.1) (by omega)), h.setF hc (by omega)⟩
          · refine ⟨_, _, _, _, _, (e31_12 e1 (by omega) (by omega) (by omega) (isB1 hv) (by omega) (by omega) (by omega) (by omega) (by assumption) rfl (by omega)), (e148_22 (mC1 (ne _ _) hr ha) (by omega) (mI1 hb) (by omega) (by omega) (mB1 hv) (by omega) (by omega) (by omega) (by omega) (by omega) (show _ = I (17 + a.toNat) 3 from by rw [up_ne (by omega)]; exact hm.2.2.1) (by omega) (by omega)), h.setF hc (by omega)⟩
        · exact ⟨_, _, _, _, _, (e31_20 e1 (by omega) (by omega) (by omega) (isB0 hv) (by omega)), (e148_41 (mC1 hn hr ha) (by omega) (mI1 hb) (by omega) (by omega) (mB0 hv) (by omega)), h⟩
    · by_cases q : b < 0
      · exact ⟨_, _, _, _, _, (e31_2 e1 (by omega)), (e148_2 (mC1 hn hr ha) (by omega) (mI0 hb) (by omega)), h⟩
      · exact ⟨_, _, _, _, _, (e31_3 e1 (by omega) (by omega)), (e148_2 (mC1 hn hr ha) (by omega) (mI0 hb) (by omega)), h⟩
  · exact ⟨_, _, _, _, _, (e31_1 (bagAt0 ha hr)), (e148_1 (mC0 hn hr ha) (by omega)), h⟩
