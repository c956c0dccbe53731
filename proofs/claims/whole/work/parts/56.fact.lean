theorem m_factOf_ok {d : Nat} {I0 I L : Fn} {b g l c : Int} (hM : WM I0 I) (hc : 0 ≤ c ∧ c < 6) : CallD (d + 1) 175 [vr 92, vi l, vi c, vi b, vi g] (S I L) = some (some (vi (fct I0 c.toNat b g l)), S I L) := by
  have hb := hM.2.2.2.2.2.1.at (c := c.toNat) (by omega)
  unfold fct
  by_cases l0 : l = 0
  · rw [if_pos l0]
    exact (e175_1 (by omega))
  rw [if_neg l0]
  by_cases l1 : l = 1
  · rw [if_pos l1]
    exact (e175_2 (by omega) (by omega) hb.2.2.2.1)
  rw [if_neg l1]
  by_cases l2 : l = 2
  · rw [if_pos l2]
    exact (e175_3 (by omega) (by omega) hb.1)
  rw [if_neg l2]
  by_cases l3 : l = 3
  · rw [if_pos l3]
    exact (e175_4 (by omega) (by omega) hb.2.2.2.2.1)
  rw [if_neg l3]
  by_cases l4 : l = 4
  · rw [if_pos l4]
    exact (e175_5 (by omega) rfl)
  rw [if_neg l4, Int.toNat_of_nonneg hc.1]
  exact (e175_6 (by omega) (by omega) (by omega) (by omega) (by omega))
