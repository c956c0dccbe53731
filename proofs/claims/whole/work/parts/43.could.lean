theorem could_loop {d e' : Nat} {I J1 J2 L : Fn} {t c : Int} {k : Nat} (hB : Bts I) (hF : FarC I J1 t.toNat) (hG : FarM I J2 t.toNat) (hk : nth K0 k = some (2, 9)) (s3 : J1 k 3 = I k 3) (s4 : J1 k 4 = t) (n1 : J1 10 8 = I 10 8) (n2 : J2 92 41 = I 10 8) (hr : rng 0 12 (I 10 8)) (hc : 0 ≤ c ∧ c < 6) (t2 : J2 98 c.toNat = t) (f1 : ∀ j, j < 12 → J1 16 j = I 16 j) (f2 : ∀ j, j < 12 → J2 123 j = I 16 j) (fr : ∀ j, j < 12 → rng 0 7 (I 16 j)) (hb : rng 0 7 (I k 3)) : ∀ (r : Nat) (i is : Int), i + r = I 10 8 → 0 ≤ i → is = (if i = 0 then I k 3 else I 16 (i - 1).toNat) → ∃ v, y111_10 (CallD (d + 2)) k i J1 L = some (some (vi v), S J1 L) ∧ y212_29 (CallD (e' + 1)) c is i J2 L = some (some (vi v), S J2 L)
  | 0, i, is, hi, h0, hv => ⟨-5, (y111_10_1 n1 (by omega)), (y212_29_1 n2 (by omega))⟩
  | r + 1, i, is, hi, h0, hv => by
    unfold rng at hr
    have q1 := f1 i.toNat (by omega)
    have q2 := f2 i.toNat (by omega)
    have q0 := fr i.toNat (by omega)
    unfold rng at q0
    have ih := could_loop (d := d) (e' := e') (L := L) hB hF hG hk s3 s4 n1 n2 hr hc t2 f1 f2 fr hb r (i + 1) (I 16 i.toNat) (by omega) (by omega) (by rw [if_neg (by omega), show i + 1 - 1 = i by omega])
    by_cases z : i = 0
    · rw [if_pos z] at hv
      subst z
      by_cases g : I 16 0 = I k 3
      · obtain ⟨v, h1, h2⟩ := ih
        refine ⟨v, ?_, ?_⟩
        · refine Eq.trans (y111_10_2 n1 (by omega) (e112_7 (by omega) q1 (by omega) (by assumption) s3 g) (by decide) (w32_id (by omega) (by omega))) ?_
          exact h1
        · refine Eq.trans (y212_29_8 n2 (by omega) (by omega) q2 (g.trans hv.symm) (by omega) q2 (w32_id (by omega) (by omega))) ?_
          exact h2
      · refine ⟨0, ?_, ?_⟩
        · exact (y111_10_3 n1 (by omega) (e112_6 (by omega) q1 (by omega) (by assumption) s3 g) rfl)
        · exact (y212_29_7 n2 (by omega) (by omega) q2 (fun w => g (w.trans hv)))
    · rw [if_neg z] at hv
      have p1 := f1 (i - 1).toNat (by omega)
      have p0 := fr (i - 1).toNat (by omega)
      unfold rng at p0
      rw [← hv] at p1 p0
      have w0 := hF is.toNat (by omega)
      have m1 := m_step_ok (d := e') (L := L) (w := 1) hB hG (b := is) (by omega)
      have m0 := m_step_ok (d := e') (L := L) (w := 0) hB hG (b := is) (by omega)
      have c1 := c_readTo (d := d) (L := L) hB hF (b := is) (by omega)
      have e0 : stS I t.toNat 0 is.toNat = I 11 is.toNat := rfl
      have e1 : stS I t.toNat 1 is.toNat = rdS I t.toNat is.toNat := rfl
      rw [e0] at m0
      rw [e1] at m1
      by_cases g : is = t
      · by_cases y : I 16 i.toNat = is
        · obtain ⟨v, h1, h2⟩ := ih
          refine ⟨v, ?_, ?_⟩
          · refine Eq.trans (y111_10_2 n1 (by omega) (e112_5 (by omega) q1 (by omega) (w32_id (by omega) (by omega)) (by omega) p1 (by assumption) s4 g y) (by decide) (w32_id (by omega) (by omega))) ?_
            exact h1
          · refine Eq.trans (y212_29_6 n2 (by omega) (by omega) (by omega) t2 (by omega) (by omega) q2 (by omega) (w32_id (by omega) (by omega))) ?_
            exact h2
        · refine ⟨i, ?_, ?_⟩
          · exact (y111_10_3 n1 (by omega) (e112_4 (by omega) q1 (by omega) (w32_id (by omega) (by omega)) (by omega) p1 (by assumption) s4 g y) rfl)
          · exact (y212_29_5 n2 (by omega) (by omega) (by omega) t2 (by omega) (by omega) q2 (by omega))
      · by_cases y1 : I 16 i.toNat = rdS I t.toNat is.toNat
        · obtain ⟨v, h1, h2⟩ := ih
          refine ⟨v, ?_, ?_⟩
          · by_cases y0 : I 16 i.toNat = I 11 is.toNat
            · refine Eq.trans (y111_10_2 n1 (by omega) (e112_1 (by omega) q1 (by omega) (w32_id (by omega) (by omega)) (by omega) p1 (by assumption) s4 g (by omega) w0.1 y0) (by decide) (w32_id (by omega) (by omega))) ?_
              exact h1
            · refine Eq.trans (y111_10_2 n1 (by omega) (e112_3 (by omega) q1 (by omega) (w32_id (by omega) (by omega)) (by omega) p1 (by assumption) s4 g (by omega) w0.1 y0 c1 y1) (by decide) (w32_id (by omega) (by omega))) ?_
              exact h1
          · refine Eq.trans (y212_29_2 n2 (by omega) (by omega) (by omega) t2 (by omega) (by omega) q2 m1 y1 q2 (w32_id (by omega) (by omega))) ?_
            exact h2
        · by_cases y0 : I 16 i.toNat = I 11 is.toNat
          · obtain ⟨v, h1, h2⟩ := ih
            refine ⟨v, ?_, ?_⟩
            · refine Eq.trans (y111_10_2 n1 (by omega) (e112_1 (by omega) q1 (by omega) (w32_id (by omega) (by omega)) (by omega) p1 (by assumption) s4 g (by omega) w0.1 y0) (by decide) (w32_id (by omega) (by omega))) ?_
              exact h1
            · refine Eq.trans (y212_29_4 n2 (by omega) (by omega) (by omega) t2 (by omega) (by omega) q2 m1 y1 q2 m0 y0 q2 (w32_id (by omega) (by omega))) ?_
              exact h2
          · refine ⟨i, ?_, ?_⟩
            · exact (y111_10_3 n1 (by omega) (e112_2 (by omega) q1 (by omega) (w32_id (by omega) (by omega)) (by omega) p1 (by assumption) s4 g (by omega) w0.1 y0 c1 y1) rfl)
            · exact (y212_29_3 n2 (by omega) (by omega) (by omega) t2 (by omega) (by omega) q2 m1 y1 q2 m0 y0)
theorem k_could {I L : Fn} {a : Int} (h : Rel I L) : SameI 110 212 [vi a] I L := by
  have hn := h.2.1.2.1
  have hr := h.bags
  have hr' := hr
  unfold rng at hr'
  by_cases ha : 0 ≤ a ∧ a < I 10 3
  · have hc : a.toNat < 6 := by omega
    have hbc := h.bagC hc
    have hbm := h.bagM hc
    have hk := K0bag hc
    obtain ⟨b0, b1, b2, b3, b4, b5⟩ := hbc
    have b4' := b4
    unfold rng at b4'
    obtain ⟨I1, h1, h2, h3⟩ := c_meas (d := 56) (L := L) h.1.1 (t := I (17 + a.toNat) 4) (by omega)
    have hM := WM_fr h.2.1 h2 (by decide)
    obtain ⟨I2, g1, g2, g3⟩ := m_lay (d := 58) (L := L) h.1.1 hM.1 (t := I (17 + a.toNat) 4) (by omega)
    have hM2 := WM_fr hM g2 (by decide)
    obtain ⟨v, k1, k2⟩ := could_loop (d := 56) (e' := 58) (L := L) (t := I (17 + a.toNat) 4) (c := a) h.1.1 h3 g3 hk (h2.bag (by decide) hc 3) (h2.bag (by decide) hc 4) (h2 10 8 rfl) hM2.2.2.2.1 h.1.2.2.2.1 (by omega) (hM2.2.2.2.2.2.1.at hc).2.2.2.1 (fun j hj => h2 16 j rfl) hM2.2.2.2.2.2.2.2 h.1.2.2.2.2.2.2.2 b3 (I 10 8).toNat 0 (I (17 + a.toNat) 3) (by have := h.1.2.2.2.1; unfold rng at this; omega) (by omega) rfl
    refine ⟨v, _, _, _, _, (e110_2 (bagAt1 ha hr) (Eq.trans (e111_1 (by assumption) rfl h1) k1)), ?_, h.scr ((h2.mono (by decide)).trans (g2.mono (by decide))) (Fr.refl _ _)⟩
    have hm' := hM.2.2.2.2.2.1.at hc
    refine Eq.trans (e212_1 (mC1 hM.2.1 hr ha) (by omega) (by omega) hm'.2.2.2.1 g1 (hM2.2.2.2.2.2.1.at hc).2.2.1) ?_
    exact k2
  · exact ⟨_, _, _, _, _, (e110_1 (bagAt0 ha hr)), (e212_2 (mC0 hn hr ha) (by omega)), h⟩
