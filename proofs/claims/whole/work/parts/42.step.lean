/-! steps -/
def rdS (I : Fn) (t b : Nat) : Int := if dst I t (I 12 b).toNat < dst I t (I 11 b).toNat then I 12 b else I 11 b
/-- a step, read (w is not 0) or not -/
def stS (I : Fn) (t : Nat) (w : Int) (b : Nat) : Int := if w = 0 then I 11 b else rdS I t b
theorem stS_rng {I : Fn} {t : Nat} {w : Int} {b : Nat} (hB : Bts I) (hb : b < 8) : 0 ≤ stS I t w b ∧ stS I t w b < 8 := by
  have := hB b hb
  unfold stS rdS
  repeat' split
  all_goals omega
def FarC (I0 J : Fn) (t : Nat) : Prop := ∀ b, b < 8 → J 11 b = I0 11 b ∧ (J 12 b = I0 12 b ∧ J 76 b = dst I0 t b)
def FarM (I0 J : Fn) (t : Nat) : Prop := ∀ b, b < 8 → J 93 b = I0 11 b ∧ (J 94 b = I0 12 b ∧ J 105 b = mfar (dst I0 t b))
theorem FarC.fr {X : List Nat} {I0 J J' : Fn} {t : Nat} (h : FarC I0 J t) (hf : Fr X J J') (h1 : X.elem 11 = false) (h2 : X.elem 12 = false) (h3 : X.elem 76 = false) : FarC I0 J' t := by
  intro b hb
  rw [hf.cell rfl h1, hf.cell rfl h2, hf.cell rfl h3]
  exact h b hb
theorem FarM.fr {X : List Nat} {I0 J J' : Fn} {t : Nat} (h : FarM I0 J t) (hf : Fr X J J') (h1 : X.elem 93 = false) (h2 : X.elem 94 = false) (h3 : X.elem 105 = false) : FarM I0 J' t := by
  intro b hb
  rw [hf.cell rfl h1, hf.cell rfl h2, hf.cell rfl h3]
  exact h b hb
theorem c_meas {d : Nat} {t : Int} {I L : Fn} (hB : Bts I) (ht : 0 ≤ t ∧ t < 8) : ∃ I', CallD (d + 2) 15 [vr 75, vi t] (S I L) = some (none, S I' L) ∧ (Fr [76] I I' ∧ FarC I I' t.toNat) := by
  obtain ⟨I', h1, h2, h3⟩ := c_measure (d := d) (L := L) hB ht
  exact ⟨I', h1, h2, fun b hb => ⟨h2 11 b rfl, h2 12 b rfl, h3 b hb⟩⟩
theorem m_lay {d : Nat} {t : Int} {I0 I L : Fn} (hB : Bts I0) (hM : Mb I0 I) (ht : 0 ≤ t ∧ t < 8) : ∃ I', CallD (d + 1) 145 [vr 92, vi t] (S I L) = some (none, S I' L) ∧ (Fr [105] I I' ∧ FarM I0 I' t.toNat) := by
  obtain ⟨I', h1, h2, h3⟩ := m_layFar_ok (d := d) (L := L) hB hM ht
  exact ⟨I', h1, h2, fun b hb => ⟨(h2 93 b rfl).trans (hM b hb).1, (h2 94 b rfl).trans (hM b hb).2, h3 b hb⟩⟩
theorem c_readTo {d : Nat} {I0 J L : Fn} {t : Nat} {b : Int} (hB : Bts I0) (hF : FarC I0 J t) (hb : 0 ≤ b ∧ b < 8) : CallD (d + 1) 65 [vr 75, vi b] (S J L) = some (some (vi (rdS I0 t b.toNat)), S J L) := by
  have q := hB b.toNat (by omega)
  have f0 := hF b.toNat (by omega)
  have f1 := hF (I0 11 b.toNat).toNat (by omega)
  have f2 := hF (I0 12 b.toNat).toNat (by omega)
  unfold rdS
  by_cases e : dst I0 t (I0 12 b.toNat).toNat < dst I0 t (I0 11 b.toNat).toNat
  · rw [if_pos e]
    exact (e65_2 (by omega) f0.1 f0.2.1 (by omega) f2.2.2 (by omega) f1.2.2 (by omega))
  · rw [if_neg e]
    exact (e65_1 (by omega) f0.1 f0.2.1 (by omega) f2.2.2 (by omega) f1.2.2 (by omega))
theorem m_step_ok {d : Nat} {I0 J L : Fn} {t : Nat} {b w : Int} (hB : Bts I0) (hF : FarM I0 J t) (hb : 0 ≤ b ∧ b < 8) : CallD (d + 1) 178 [vr 92, vi b, vi w] (S J L) = some (some (vi (stS I0 t w b.toNat)), S J L) := by
  have q := hB b.toNat (by omega)
  have f0 := hF b.toNat (by omega)
  have f1 := hF (I0 11 b.toNat).toNat (by omega)
  have f2 := hF (I0 12 b.toNat).toNat (by omega)
  have d1 := dst_rng I0 t (I0 11 b.toNat).toNat
  have d2 := dst_rng I0 t (I0 12 b.toNat).toNat
  unfold stS
  by_cases hw : w = 0
  · rw [if_pos hw]
    exact (e178_1 (by omega) (by omega) f0.1)
  · rw [if_neg hw]
    unfold rdS
    by_cases e2 : dst I0 t (I0 12 b.toNat).toNat = 99
    · rw [if_neg (by omega)]
      have m2 := f2.2.2
      rw [e2] at m2
      exact (e178_5 (by omega) (by omega) f0.2.1 (by omega) m2 (by decide) f0.1)
    · have m2 := f2.2.2.trans (show mfar (dst I0 t (I0 12 b.toNat).toNat) = dst I0 t (I0 12 b.toNat).toNat from if_neg e2)
      by_cases e1 : dst I0 t (I0 11 b.toNat).toNat = 99
      · rw [if_pos (by omega)]
        have m1 := f1.2.2
        rw [e1] at m1
        exact (e178_2 (by omega) (by omega) f0.2.1 (by omega) m2 (by omega) f0.1 (by omega) m1 (by decide))
      · have m1 := f1.2.2.trans (show mfar (dst I0 t (I0 11 b.toNat).toNat) = dst I0 t (I0 11 b.toNat).toNat from if_neg e1)
        by_cases e : dst I0 t (I0 12 b.toNat).toNat < dst I0 t (I0 11 b.toNat).toNat
        · rw [if_pos e]
          exact (e178_4 (by omega) (by omega) f0.2.1 (by omega) m2 (by omega) f0.1 (by omega) m1 (by omega) (by omega))
        · rw [if_neg e]
          exact (e178_3 (by omega) (by omega) f0.2.1 (by omega) m2 (by omega) f0.1 (by omega) m1 (by omega) (by omega))
/-- how many steps until there -/
def stepsv (I : Fn) (t : Int) (w : Int) : Nat → Nat → Int → Int
  | 0, _, _ => -5
  | r + 1, n, b => if b = t then n else stepsv I t w r (n + 1) (stS I t.toNat w b.toNat)
theorem c_stl {d : Nat} {I0 J L : Fn} {t w : Int} {k : Nat} (hB : Bts I0) (hF : FarC I0 J t.toNat) (hk : nth K0 k = some (2, 9)) (hs : J k 4 = t) : ∀ (r n : Nat) (b : Int), n + r = 41 → 0 ≤ b ∧ b < 8 → y78_16 (CallD (d + 1)) k w b n J L = some (some (vi (stepsv I0 t w r n b)), S J L)
  | 0, n, b, hn, hb => by
    exact (y78_16_1 (by omega))
  | r + 1, n, b, hn, hb => by
    unfold stepsv
    by_cases e : b = t
    · rw [if_pos e]
      exact (y78_16_4 (by omega) (by assumption) hs (by omega))
    · rw [if_neg e]
      have hv := stS_rng (t := t.toNat) (w := w) (b := b.toNat) hB (by omega)
      have ih := c_stl (d := d) (w := w) (L := L) hB hF hk hs r (n + 1) (stS I0 t.toNat w b.toNat) (by omega) hv
      by_cases hw : w = 0
      · have e1 : stS I0 t.toNat w b.toNat = I0 11 b.toNat := if_pos hw
        refine Eq.trans (y78_16_2 (by omega) (by assumption) hs (by omega) (by omega) (by omega) ((hF b.toNat (by omega)).1.trans e1.symm) (w32_id (by omega) (by omega))) ?_
        exact ih
      · have e1 : stS I0 t.toNat w b.toNat = rdS I0 t.toNat b.toNat := if_neg hw
        have c1 := c_readTo (d := d) (L := L) hB hF hb
        rw [← e1] at c1
        refine Eq.trans (y78_16_3 (by omega) (by assumption) hs (by omega) (by omega) c1 (w32_id (by omega) (by omega))) ?_
        exact ih
theorem m_stl {d : Nat} {I0 J L : Fn} {t w c : Int} (hB : Bts I0) (hF : FarM I0 J t.toNat) (hc : 0 ≤ c ∧ c < 6) (hs : J 98 c.toNat = t) : ∀ (r n : Nat) (b : Int), n + r = 41 → 0 ≤ b ∧ b < 8 → y192_20 (CallD (d + 1)) c w b n J L = some (some (vi (stepsv I0 t w r n b)), S J L)
  | 0, n, b, hn, hb => by
    exact (y192_20_1 (by omega))
  | r + 1, n, b, hn, hb => by
    unfold stepsv
    by_cases e : b = t
    · rw [if_pos e]
      exact (y192_20_3 (by omega) (by omega) hs (by omega))
    · rw [if_neg e]
      have hv := stS_rng (t := t.toNat) (w := w) (b := b.toNat) hB (by omega)
      have ih := m_stl (d := d) (w := w) (L := L) hB hF hc hs r (n + 1) (stS I0 t.toNat w b.toNat) (by omega) hv
      have c1 := m_step_ok (d := d) (L := L) (w := w) hB hF hb
      refine Eq.trans (y192_20_2 (by omega) (by omega) hs (by omega) c1 (w32_id (by omega) (by omega))) ?_
      exact ih
/-- Ways.stepsTillThere -/
theorem c_stepsTill {d : Nat} {I L : Fn} {w : Int} {c : Nat} (hB : Bts I) (hc : c < 6) (hb : BagC I c) : ∃ I', CallD (d + 3) 78 [vr 75, vr (17 + c), vi w] (S I L) = some (some (vi (stepsv I (I (17 + c) 4) w 41 0 (I (17 + c) 3))), S I' L) ∧ (Fr [76] I I' ∧ FarC I I' (I (17 + c) 4).toNat) := by
  have hk := K0bag hc
  obtain ⟨b0, b1, b2, b3, b4, b5⟩ := hb
  unfold rng at b3 b4
  obtain ⟨I', h1, h2, h3⟩ := c_meas (d := d) (L := L) hB (t := I (17 + c) 4) (by omega)
  refine ⟨I', ?_, h2, h3⟩
  have g3 := h2.bag (by decide) hc 3
  have g4 := h2.bag (by decide) hc 4
  refine Eq.trans (e78_1 (by assumption) rfl h1 g3) ?_
  exact c_stl (d := d + 1) hB h3 hk g4 41 0 _ (by omega) (by omega)
theorem m_stepsBy_ok {d : Nat} {I0 I L : Fn} {w c : Int} (hB : Bts I0) (hM : WM I0 I) (hc : 0 ≤ c ∧ c < 6) (hb : BagC I0 c.toNat) : ∃ I', CallD (d + 2) 192 [vr 92, vi c, vi w] (S I L) = some (some (vi (stepsv I0 (I0 (17 + c.toNat) 4) w 41 0 (I0 (17 + c.toNat) 3))), S I' L) ∧ (Fr [105] I I' ∧ FarM I0 I' (I0 (17 + c.toNat) 4).toNat) := by
  have hm := hM.2.2.2.2.2.1.at (c := c.toNat) (by omega)
  obtain ⟨b0, b1, b2, b3, b4, b5⟩ := hb
  unfold rng at b3 b4
  obtain ⟨I', h1, h2, h3⟩ := m_lay (d := d) (L := L) hB hM.1 (t := I0 (17 + c.toNat) 4) (by omega)
  refine ⟨I', ?_, h2, h3⟩
  have g3 := (h2 97 c.toNat rfl).trans hm.2.2.1
  have g4 := (h2 98 c.toNat rfl).trans hm.2.2.2.1
  refine Eq.trans (e192_1 (by omega) hm.2.2.2.1 h1 g3) ?_
  exact m_stl (d := d) hB h3 hc g4 41 0 _ (by omega) (by omega)
theorem k_steps {I L : Fn} {a b : Int} (h : Rel I L) : SameI 77 191 [vi a, vi b] I L := by
  have hn := h.2.1.2.1
  have hr := h.bags
  have hr' := hr
  unfold rng at hr'
  by_cases ha : 0 ≤ a ∧ a < I 10 3
  · have hbc := h.bagC (c := a.toNat) (by omega)
    by_cases hb : 0 ≤ b ∧ b ≤ 1
    · by_cases b0 : b = 0
      · obtain ⟨I1, h1, h2, _⟩ := c_stepsTill (d := 56) (L := L) (w := 1) h.1.1 (by omega) hbc
        have hM := WM_fr h.2.1 h2 (by decide)
        obtain ⟨I2, g1, g2, _⟩ := m_stepsBy_ok (d := 57) (L := L) (w := 1) h.1.1 hM (c := a) (by omega) hbc
        exact ⟨_, _, _, _, _, (e77_4 (bagAt1 ha hr) (by omega) (by omega) (by omega) h1), (e191_3 (mC1 ((h2 92 2 rfl).trans hn) hr ha) (by omega) (mI1 hb) (by omega) (by omega) g1), h.scr ((h2.mono (by decide)).trans (g2.mono (by decide))) (Fr.refl _ _)⟩
      · obtain ⟨I1, h1, h2, _⟩ := c_stepsTill (d := 56) (L := L) (w := 0) h.1.1 (by omega) hbc
        have hM := WM_fr h.2.1 h2 (by decide)
        obtain ⟨I2, g1, g2, _⟩ := m_stepsBy_ok (d := 57) (L := L) (w := 0) h.1.1 hM (c := a) (by omega) hbc
        exact ⟨_, _, _, _, _, (e77_3 (bagAt1 ha hr) (by omega) (by omega) (by omega) h1), (e191_2 (mC1 ((h2 92 2 rfl).trans hn) hr ha) (by omega) (mI1 hb) (by omega) (by omega) g1), h.scr ((h2.mono (by decide)).trans (g2.mono (by decide))) (Fr.refl _ _)⟩
    · by_cases q : b < 0
      · exact ⟨_, _, _, _, _, (e77_2 (bagAt1 ha hr) (by omega)), (e191_4 (mC1 hn hr ha) (by omega) (mI0 hb) (by omega)), h⟩
      · exact ⟨_, _, _, _, _, (e77_5 (bagAt1 ha hr) (by omega) (by omega)), (e191_4 (mC1 hn hr ha) (by omega) (mI0 hb) (by omega)), h⟩
  · exact ⟨_, _, _, _, _, (e77_1 (bagAt0 ha hr)), (e191_1 (mC0 hn hr ha) (by omega)), h⟩
