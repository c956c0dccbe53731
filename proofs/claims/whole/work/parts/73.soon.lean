theorem k_soonest {I L : Fn} {a b : Int} (h : Rel I L) : SameI 72 185 [vi a, vi b] I L := by
  have hn := h.2.1.2.1
  have hr := h.bags
  have hr' := hr
  unfold rng at hr'
  by_cases ha : 0 ≤ a ∧ a < I 10 3
  · have hc : a.toNat < 6 := by omega
    have hbc := h.bagC hc
    have hm := h.bagM hc
    have hk := K0bag hc
    have e1 := bagAt1 (d := 58) (L := L) ha hr
    have e2 := mC1 (d := 57) (L := L) hn hr ha
    obtain ⟨b0, b1, b2, b3, b4, b5, b6, b7⟩ := hbc
    unfold rng at b3 b4 b7
    by_cases hb : 0 ≤ b ∧ b ≤ 1
    · -- the reference's first search, in any state that keeps its cells
      have first : ∀ J, Fr SCR I J → ∃ J1 J2 F, CallD 59 145 [vr 92, vi (I (17 + a.toNat) 4)] (S J L) = some (none, S J1 L) ∧ (CallD 59 186 [vr 92, vi a, vi (I (17 + a.toNat) 3), vi (I (17 + a.toNat) 7), vi 40] (S J1 L) = some (some (vi F), S J2 L) ∧ (Fr SCR I J1 ∧ (Fr SCR I J2 ∧ (FarM I J2 (I (17 + a.toNat) 4).toNat ∧ ((F = -1 ∨ (0 ≤ F ∧ F ≤ 40000)) ∧ ∀ x, (0 ≤ F ∧ F ≤ x) ↔ pR I a.toNat (I (17 + a.toNat) 4) 40 (I (17 + a.toNat) 7) (I (17 + a.toNat) 3).toNat x))))) := by
        intro J hJ
        have hM := h.mh.fr hJ (by decide)
        obtain ⟨J1, g1, g2, g3⟩ := m_lay (d := 58) (L := L) h.1.1 hM.1.1 (t := I (17 + a.toNat) 4) (by omega)
        obtain ⟨J2, F, q1, q2, q3, q4⟩ := m_minF (d := 54) (L := L) (c := a) (t := I (17 + a.toNat) 4) (g0 := I (17 + a.toNat) 7) (b0 := I (17 + a.toNat) 3) (most := 40) h.1.1 h.cur (hM.fr g2 (by decide)) g3 (by omega) rfl (by omega) (by omega) (by omega) (by omega)
        exact ⟨J1, J2, F, g1, q1, hJ.trans (g2.mono (by decide)), (hJ.trans (g2.mono (by decide))).trans (q2.mono (by decide)), g3.fr q2 (by decide) (by decide) (by decide), by omega, q4⟩
      by_cases e : I (17 + a.toNat) 3 = I (17 + a.toNat) 4
      · obtain ⟨J1, J2, F, q1, q2, q3, q4, q5, q6, q7⟩ := first I (Fr.refl _ _)
        have hm1 := (h.mh.fr q3 (by decide)).1.2.2.2.2.2.1.at hc
        have hm2 := (h.mh.fr q4 (by decide)).1.2.2.2.2.2.1.at hc
        have F0 : F = 0 := by
          have := (q7 0).mpr (by
            rw [e]
            exact (pR_t h.cur b4.1).mpr (Int.le_refl 0))
          omega
        subst F0
        by_cases b0 : b = 0
        · exact ⟨_, _, _, _, _, (e72_7 e1 (by omega) (by omega) (by assumption) (there1 hk e) (by decide) (by omega)), (e185_8 e2 (by omega) (mI1 hb) (by omega) (by omega) hm.2.2.2.1 q1 hm1.2.2.1 hm1.2.2.2.2.2.2.1 q2 (by omega) (by omega) (by omega)), h.scr q4 (Fr.refl _ _)⟩
        · exact ⟨_, _, _, _, _, (e72_6 e1 (by omega) (by omega) (by assumption) (there1 hk e) (by decide) (by omega)), (e185_7 e2 (by omega) (mI1 hb) (by omega) (by omega) hm.2.2.2.1 q1 hm1.2.2.1 hm1.2.2.2.2.2.2.1 q2 (by omega) (by omega) hm2.2.2.1 hm2.2.2.2.1 (by omega)), h.scr q4 (Fr.refl _ _)⟩
      · obtain ⟨J, K, f1, f2, f3, f4⟩ := c_soonestKey (d := 53) h hc e
        obtain ⟨J1, J2, F, q1, q2, q3, q4, q5, q6, q7⟩ := first J f2
        have hm0 := (h.mh.fr f2 (by decide)).1.2.2.2.2.2.1.at hc
        have hm1 := (h.mh.fr q3 (by decide)).1.2.2.2.2.2.1.at hc
        have hm2 := (h.mh.fr q4 (by decide)).1.2.2.2.2.2.1.at hc
        have e3 := mC1 (d := 57) (L := L) ((f2 92 2 rfl).trans hn) hr ha
        rcases key_F h.cur (by omega) f3 f4 q6 q7 with ⟨z1, z2⟩ | ⟨z1, z2, z3⟩
        · unfold NK at z2
          exact ⟨_, _, _, _, _, (e72_5 e1 (by omega) (by omega) (by assumption) (there0 hk e) rfl f1 (by omega)), (e185_3 e3 (by omega) (mI1 hb) (by omega) (by omega) hm0.2.2.2.1 q1 hm1.2.2.1 hm1.2.2.2.2.2.2.1 q2 (by omega) (by omega)), h.scr q4 (Fr.refl _ _)⟩
        · by_cases b0 : b = 0
          · have dv : div32 K 2 = F := by rw [dvp (by omega) (by omega)]; omega
            exact ⟨_, _, _, _, _, (e72_4 e1 (by omega) (by omega) (by assumption) (there0 hk e) rfl f1 (by omega) (by omega) dv), (e185_8 e3 (by omega) (mI1 hb) (by omega) (by omega) hm0.2.2.2.1 q1 hm1.2.2.1 hm1.2.2.2.2.2.2.1 q2 (by omega) (by omega) (by omega)), h.scr q4 (Fr.refl _ _)⟩
          · have hM2 := h.mh.fr q4 (by decide)
            have s0 := m_step_ok (d := 58) (L := L) (w := 0) (b := I (17 + a.toNat) 3) h.1.1 q5 (by omega)
            rw [show stS I (I (17 + a.toNat) 4).toNat 0 (I (17 + a.toNat) 3).toNat = I 11 (I (17 + a.toNat) 3).toNat from rfl] at s0
            have hq := h.1.1 (I (17 + a.toNat) 3).toNat (by omega)
            obtain ⟨J3, U, u1, u2, u3, u4⟩ := m_minF (d := 54) (L := L) (c := a) (t := I (17 + a.toNat) 4) (g0 := I (17 + a.toNat) 7 + 1) (b0 := I 11 (I (17 + a.toNat) 3).toNat) (most := 39) h.1.1 h.cur hM2 q5 (by omega) rfl (by omega) (by omega) (by omega) (by omega)
            have hM3 := hM2.fr u2 (by decide)
            have hm3 := hM3.1.2.2.2.2.2.1.at hc
            obtain ⟨J4, t1, t2⟩ := m_minutes_ok (d := 55) (L := L) (c := a) (b := I (17 + a.toNat) 3) (g := I (17 + a.toNat) 7) h.cur hM3 (by omega)
            have tr := tk_rng h.cur a.toNat (I (17 + a.toNat) 3) (I (17 + a.toNat) 7)
            have ku := key_U (U := U) h.cur (by omega) z2 z3 f4 z1 q7 u4
            rw [Int.toNat_of_nonneg b3.1] at ku
            by_cases k0 : K = 2 * F
            · have ku := ku.mp k0
              have md : Int.tmod K 2 = 0 := by rw [mdp (by omega)]; omega
              exact ⟨_, _, _, _, _, (e72_3 e1 (by omega) (by omega) (by assumption) (there0 hk e) rfl f1 (by omega) (by omega) md), (e185_6 e3 (by omega) (mI1 hb) (by omega) (by omega) hm0.2.2.2.1 q1 hm1.2.2.1 hm1.2.2.2.2.2.2.1 q2 (by omega) (by omega) hm2.2.2.1 hm2.2.2.2.1 e s0 hm2.2.2.2.2.2.2.1 (w32_id (by omega) (by omega)) u1 (by omega) hm3.2.2.1 hm3.2.2.2.2.2.2.1 t1 (w32_id (by omega) (by omega)) ku.2), h.scr ((q4.trans (u2.mono (by decide))).trans (t2.mono (by decide))) (Fr.refl _ _)⟩
            · have ku : ¬ (0 ≤ U ∧ U + tk I a.toNat (I (17 + a.toNat) 3) (I (17 + a.toNat) 7) = F) := fun w => k0 (ku.mpr w)
              have md : Int.tmod K 2 = 1 := by rw [mdp (by omega)]; omega
              by_cases u0 : U < 0
              · exact ⟨_, _, _, _, _, (e72_3 e1 (by omega) (by omega) (by assumption) (there0 hk e) rfl f1 (by omega) (by omega) md), (e185_4 e3 (by omega) (mI1 hb) (by omega) (by omega) hm0.2.2.2.1 q1 hm1.2.2.1 hm1.2.2.2.2.2.2.1 q2 (by omega) (by omega) hm2.2.2.1 hm2.2.2.2.1 e s0 hm2.2.2.2.2.2.2.1 (w32_id (by omega) (by omega)) u1 (by omega)), h.scr (q4.trans (u2.mono (by decide))) (Fr.refl _ _)⟩
              · exact ⟨_, _, _, _, _, (e72_3 e1 (by omega) (by omega) (by assumption) (there0 hk e) rfl f1 (by omega) (by omega) md), (e185_5 e3 (by omega) (mI1 hb) (by omega) (by omega) hm0.2.2.2.1 q1 hm1.2.2.1 hm1.2.2.2.2.2.2.1 q2 (by omega) (by omega) hm2.2.2.1 hm2.2.2.2.1 e s0 hm2.2.2.2.2.2.2.1 (w32_id (by omega) (by omega)) u1 (by omega) hm3.2.2.1 hm3.2.2.2.2.2.2.1 t1 (w32_id (by omega) (by omega)) (by omega)), h.scr ((q4.trans (u2.mono (by decide))).trans (t2.mono (by decide))) (Fr.refl _ _)⟩
    · by_cases q : b < 0
      · exact ⟨_, _, _, _, _, (e72_2 e1 (by omega)), (e185_10 e2 (by omega) (mI0 hb) (by omega)), h⟩
      · exact ⟨_, _, _, _, _, (e72_8 e1 (by omega) (by omega)), (e185_10 e2 (by omega) (mI0 hb) (by omega)), h⟩
  · exact ⟨_, _, _, _, _, (e72_1 (bagAt0 ha hr)), (e185_1 (mC0 hn hr ha) (by omega)), h⟩
