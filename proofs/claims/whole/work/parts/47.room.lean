/-! the hall that holds -/
def isH (h : Nat) : Prop := h = 40 ∨ ∃ f, f < 6 ∧ h = 45 + 5 * f
theorem isH_K {h : Nat} (q : isH h) : nth K0 h = some (5, 6) ∧ ((R0 h 1 = some (h + 1) ∧ (R0 h 2 = some (h + 2) ∧ (R0 h 3 = some (h + 3) ∧ R0 h 4 = some (h + 4)))) ∧ (nth K0 (h + 1) = some (100, 10) ∧ (nth K0 (h + 2) = some (100, 10) ∧ (nth K0 (h + 3) = some (100, 10) ∧ nth K0 (h + 4) = some (100, 100))))) := by
  rcases q with q | ⟨f, hf, q⟩
  · subst q
    exact ⟨rfl, ⟨rfl, rfl, rfl, rfl⟩, rfl, rfl, rfl, rfl⟩
  · subst q
    match f, hf with
    | 0, _ => exact ⟨rfl, ⟨rfl, rfl, rfl, rfl⟩, rfl, rfl, rfl, rfl⟩
    | 1, _ => exact ⟨rfl, ⟨rfl, rfl, rfl, rfl⟩, rfl, rfl, rfl, rfl⟩
    | 2, _ => exact ⟨rfl, ⟨rfl, rfl, rfl, rfl⟩, rfl, rfl, rfl, rfl⟩
    | 3, _ => exact ⟨rfl, ⟨rfl, rfl, rfl, rfl⟩, rfl, rfl, rfl, rfl⟩
    | 4, _ => exact ⟨rfl, ⟨rfl, rfl, rfl, rfl⟩, rfl, rfl, rfl, rfl⟩
    | 5, _ => exact ⟨rfl, ⟨rfl, rfl, rfl, rfl⟩, rfl, rfl, rfl, rfl⟩
    | n + 6, h => omega
def hcell (I : Fn) : Nat := if 0 ≤ I 10 9 then 45 + 5 * (I 10 9).toNat else 40
def hbeg (I : Fn) : Int := if 0 ≤ I 10 9 then 10 * I 10 9 else 0
/-- what holds, as far as the hall that holds goes -/
def Cur (I0 I : Fn) : Prop := isH (hcell I0) ∧ (rng 0 10 (I (hcell I0) 0) ∧ (rng (-1) 5 (I0 10 9) ∧ ((0 ≤ I0 10 9 → I 107 (I0 10 9).toNat = I (hcell I0) 0) ∧ ((I0 10 9 < 0 → I (hcell I0) 0 = 0) ∧ ∀ i : Nat, (i : Int) < I (hcell I0) 0 → 0 ≤ I0 10 9 ∧ ClR I (hcell I0) (I0 10 9).toNat i (frm I (hcell I0) i)))))
theorem cur_of {I0 I : Fn} (hr : rng (-1) (I 38 1 - 1) (I0 10 9)) (h : HL I) : Cur I0 I := by
  obtain ⟨h1, h2, h3, h4⟩ := h
  unfold rng at hr h1
  unfold Cur hcell
  by_cases e : 0 ≤ I0 10 9
  · rw [if_pos e]
    obtain ⟨g1, g2, g3⟩ := h4.at (c := (I0 10 9).toNat) (by omega) (by omega)
    exact ⟨.inr ⟨_, by omega, rfl⟩, g1, by unfold rng; omega, fun _ => g2, fun q => by omega, fun i hi => ⟨e, g3 i hi⟩⟩
  · rw [if_neg e]
    exact ⟨.inl rfl, by rw [h3]; unfold rng; omega, by unfold rng; omega, fun q => absurd q e, fun _ => h3, fun i hi => by rw [h3] at hi; omega⟩
theorem Rel.cur {I L : Fn} (h : Rel I L) : Cur I I := cur_of h.1.2.2.2.2.1 h.2.2.2.2.1
theorem c_holding {d : Nat} {I L : Fn} (hr : rng (-1) (I 38 1 - 1) (I 10 9)) (h6 : rng 0 6 (I 38 1)) : CallD (d + 1) 25 [vr 38, vr 10] (S I L) = some (some (vr (hcell I)), S I L) := by
  unfold rng at hr h6
  unfold hcell
  by_cases e : 0 ≤ I 10 9
  · rw [if_pos e]
    have hR : R0 39 (I 10 9).toNat = some (45 + 5 * (I 10 9).toNat) := by
      obtain ⟨f, hf⟩ : ∃ f : Nat, I 10 9 = f := ⟨(I 10 9).toNat, by omega⟩
      rw [hf, Int.toNat_natCast]
      have : f < 6 := by omega
      match f, this with
      | 0, _ => rfl
      | 1, _ => rfl
      | 2, _ => rfl
      | 3, _ => rfl
      | 4, _ => rfl
      | 5, _ => rfl
      | n + 6, h => omega
    exact (e25_4 rfl (by omega) rfl (by omega) (by omega) (by omega) hR)
  · rw [if_neg e]
    exact (e25_1 rfl (by omega))
theorem m_begin_ok {d : Nat} {I0 I L : Fn} (hc : Cur I0 I) (hn : I 92 16 = I0 10 9) : CallD (d + 1) 172 [vr 92] (S I L) = some (some (vi (hbeg I0)), S I L) := by
  have hr := hc.2.2.1
  unfold rng at hr
  unfold hbeg
  by_cases e : 0 ≤ I0 10 9
  · rw [if_pos e]
    exact (e172_1 hn (by omega) (w32_id (by omega) (by omega)))
  · rw [if_neg e]
    exact (e172_2 hn (by omega))
theorem m_behind_ok {d : Nat} {I0 I L : Fn} (hc : Cur I0 I) (hn : I 92 16 = I0 10 9) : CallD (d + 1) 173 [vr 92] (S I L) = some (some (vi (hbeg I0 + I (hcell I0) 0)), S I L) := by
  have hr := hc.2.2.1
  have hl := hc.2.1
  unfold rng at hr hl
  unfold hbeg
  by_cases e : 0 ≤ I0 10 9
  · rw [if_pos e]
    exact (e173_1 hn (by omega) (w32_id (by omega) (by omega)) (by omega) (hc.2.2.2.1 e) (w32_id (by omega) (by omega)))
  · rw [if_neg e, hc.2.2.2.2.1 (by omega)]
    exact (e173_2 hn (by omega))
theorem room_loop {F : Cal} {d : Nat} {I0 I L : Fn} (hc : Cur I0 I) (hn : I 92 16 = I0 10 9) : ∀ (r : Nat) (n i : Int), i + r = I (hcell I0) 0 → 0 ≤ i → rng 0 99 n → ∃ v, rng 0 99 v ∧ (y106_4 F (hcell I0) n i I L = some (some (vi v), S I L) ∧ y209_7 (CallD (d + 1)) n (hbeg I0 + i) I L = some (some (vi v), S I L))
  | 0, n, i, hi, h0, hg => by
    have hk := (isH_K hc.1).1
    have hl := hc.2.1
    unfold rng at hl
    refine ⟨n, hg, ?_, ?_⟩
    · exact (y106_4_1 (by assumption) rfl (by omega))
    · exact (y209_7_1 (m_behind_ok hc hn) (by omega))
  | r + 1, n, i, hi, h0, hg => by
    obtain ⟨hk, ⟨r1, r2, r3, r4⟩, k1, k2, k3, k4⟩ := isH_K hc.1
    have hl := hc.2.1
    have hr := hc.2.2.1
    obtain ⟨he, cl⟩ := hc.2.2.2.2.2 i.toNat (by omega)
    have eb : hbeg I0 = 10 * I0 10 9 := if_pos he
    have ei : (hbeg I0 + i).toNat = 10 * (I0 10 9).toNat + i.toNat := by unfold rng at hl hr; omega
    have w1 : I 108 (hbeg I0 + i).toNat = I (hcell I0 + 1) i.toNat := by rw [ei]; exact cl.1.2
    have w2 : I 109 (hbeg I0 + i).toNat = I (hcell I0 + 2) i.toNat := by rw [ei]; exact cl.2.1.2
    unfold rng at hl hr
    have bh := m_behind_ok (d := d) (L := L) hc hn
    by_cases e : I (hcell I0 + 1) i.toNat = 3
    · obtain ⟨v, hv, h1, h2⟩ := room_loop (F := F) (d := d) (L := L) hc hn r (I (hcell I0 + 2) i.toNat) (i + 1) (by omega) (by omega) cl.2.1.1
      refine ⟨v, hv, ?_, ?_⟩
      · refine Eq.trans (y106_4_3 (by assumption) rfl (by omega) r1 (by assumption) (by omega) rfl (by omega) r2 (by assumption) rfl (w32_id (by omega) (by omega))) ?_
        exact h1
      · refine Eq.trans (y209_7_3 bh (by omega) (by omega) w1 (by omega) w2 (w32_id (by omega) (by omega))) ?_
        rw [show hbeg I0 + i + 1 = hbeg I0 + (i + 1) by omega]
        exact h2
    · obtain ⟨v, hv, h1, h2⟩ := room_loop (F := F) (d := d) (L := L) hc hn r n (i + 1) (by omega) (by omega) hg
      refine ⟨v, hv, ?_, ?_⟩
      · refine Eq.trans (y106_4_2 (by assumption) rfl (by omega) r1 (by assumption) (by omega) rfl (by omega) (w32_id (by omega) (by omega))) ?_
        exact h1
      · refine Eq.trans (y209_7_2 bh (by omega) (by omega) w1 (by omega) (w32_id (by omega) (by omega))) ?_
        rw [show hbeg I0 + i + 1 = hbeg I0 + (i + 1) by omega]
        exact h2
theorem many_loop {d : Nat} {F : Cal} {I L : Fn} (h : Rel I L) : ∀ (r : Nat) (n c : Int), c + r = I 10 3 → 0 ≤ c → 0 ≤ n ∧ n ≤ c → ∃ v, y107_4 (CallD (d + 1)) n c I L = some (some (vi v), S I L) ∧ y210_4 F n c I L = some (some (vi v), S I L)
  | 0, n, c, hc, h0, hq => ⟨n, (y107_4_1 rfl (by omega)), (y210_4_1 h.2.1.2.1 (by omega))⟩
  | r + 1, n, c, hc, h0, hq => by
    have hn := h.2.1.2.1
    have hr := h.bags
    unfold rng at hr
    have hm := h.bagM (c := c.toNat) (by omega)
    have hk := K0bag (c := c.toNat) (by omega)
    by_cases e : I (17 + c.toNat) 3 = I (17 + c.toNat) 4
    · obtain ⟨v, h1, h2⟩ := many_loop (d := d) (F := F) h r (n + 1) (c + 1) (by omega) (by omega) (by omega)
      refine ⟨v, ?_, ?_⟩
      · refine Eq.trans (y107_4_3 rfl (by omega) (by omega) (R0bag (by omega)) (by assumption) (there1 hk e) (by decide) (w32_id (by omega) (by omega)) (w32_id (by omega) (by omega))) ?_
        exact h1
      · refine Eq.trans (y210_4_3 hn (by omega) (by omega) hm.2.2.1 hm.2.2.2.1 (by omega) (w32_id (by omega) (by omega)) (w32_id (by omega) (by omega))) ?_
        exact h2
    · obtain ⟨v, h1, h2⟩ := many_loop (d := d) (F := F) h r n (c + 1) (by omega) (by omega) (by omega)
      refine ⟨v, ?_, ?_⟩
      · refine Eq.trans (y107_4_2 rfl (by omega) (by omega) (R0bag (by omega)) (by assumption) (there0 hk e) rfl (w32_id (by omega) (by omega))) ?_
        exact h1
      · refine Eq.trans (y210_4_2 hn (by omega) (by omega) hm.2.2.1 hm.2.2.2.1 (by omega) (show _ = n from by rw [Int.add_zero]; exact w32_id (by omega) (by omega)) (w32_id (by omega) (by omega))) ?_
        exact h2
theorem ahead_loop {d : Nat} {F : Cal} {I L : Fn} {a q : Int} (h : Rel I L) (ha : 0 ≤ a ∧ a < 6) (hq0 : ¬ q = 0) : ∀ (r : Nat) (n c : Int), c + r = I 10 3 → 0 ≤ c → 0 ≤ n ∧ n ≤ c → ∃ v, y108_4 (CallD (d + 1)) (17 + a.toNat) n c I L = some (some (vi v), S I L) ∧ y208_68 F a q n c I L = some (some (vi (div32 v q)), S I L)
  | 0, n, c, hc, h0, hq => ⟨n, (y108_4_1 rfl (by omega)), (y208_68_1 h.2.1.2.1 (by omega) (by omega) rfl)⟩
  | r + 1, n, c, hc, h0, hq => by
    have hn := h.2.1.2.1
    have hr := h.bags
    unfold rng at hr
    have hm := h.bagM (c := c.toNat) (by omega)
    have hk := K0bag (c := c.toNat) (by omega)
    have hma := h.bagM (c := a.toNat) (by omega)
    have hka := K0bag (c := a.toNat) (by omega)
    have nc := (h.bagC (c := c.toNat) (by omega)).1
    have na := (h.bagC (c := a.toNat) (by omega)).1
    have hR := R0bag (c := c.toNat) (by omega)
    have z0 : w32 (n + 0) = n := by rw [Int.add_zero]; exact w32_id (by omega) (by omega)
    by_cases e : I (17 + c.toNat) 3 = I (17 + c.toNat) 4
    · have ht := there1 (d := d) (L := L) hk e
      by_cases g1 : I (17 + a.toNat) 5 < I (17 + c.toNat) 5
      · obtain ⟨v, h1, h2⟩ := ahead_loop (d := d) (F := F) h ha hq0 r (n + 1) (c + 1) (by omega) (by omega) (by omega)
        refine ⟨v, ?_, ?_⟩
        · refine Eq.trans (y108_4_3 rfl (by omega) (by omega) hR hk rfl hka rfl (by omega) ht (by decide) (w32_id (by omega) (by omega)) (w32_id (by omega) (by omega))) ?_
          exact h1
        · refine Eq.trans (y208_68_3 hn (by omega) (by omega) hm.2.2.1 hm.2.2.2.1 (by omega) hm.2.2.2.2.1 (by omega) hma.2.2.2.2.1 (by omega) (w32_id (by omega) (by omega)) (w32_id (by omega) (by omega))) ?_
          exact h2
      · by_cases g2 : I (17 + c.toNat) 5 = I (17 + a.toNat) 5
        · by_cases g3 : c < a
          · obtain ⟨v, h1, h2⟩ := ahead_loop (d := d) (F := F) h ha hq0 r (n + 1) (c + 1) (by omega) (by omega) (by omega)
            refine ⟨v, ?_, ?_⟩
            · refine Eq.trans (y108_4_9 rfl (by omega) (by omega) hR hk rfl hka rfl (by omega) (by omega) rfl rfl (by omega) ht (by decide) (w32_id (by omega) (by omega)) (w32_id (by omega) (by omega))) ?_
              exact h1
            · refine Eq.trans (y208_68_6 hn (by omega) (by omega) hm.2.2.1 hm.2.2.2.1 (by omega) hm.2.2.2.2.1 (by omega) hma.2.2.2.2.1 (by omega) (by omega) (by omega) (w32_id (by omega) (by omega)) (w32_id (by omega) (by omega))) ?_
              exact h2
          · obtain ⟨v, h1, h2⟩ := ahead_loop (d := d) (F := F) h ha hq0 r n (c + 1) (by omega) (by omega) (by omega)
            refine ⟨v, ?_, ?_⟩
            · refine Eq.trans (y108_4_7 rfl (by omega) (by omega) hR hk rfl hka rfl (by omega) (by omega) rfl rfl (by omega) ht (by decide) (w32_id (by omega) (by omega))) ?_
              exact h1
            · refine Eq.trans (y208_68_5 hn (by omega) (by omega) hm.2.2.1 hm.2.2.2.1 (by omega) hm.2.2.2.2.1 (by omega) hma.2.2.2.2.1 (by omega) (by omega) (by omega) z0 (w32_id (by omega) (by omega))) ?_
              exact h2
        · obtain ⟨v, h1, h2⟩ := ahead_loop (d := d) (F := F) h ha hq0 r n (c + 1) (by omega) (by omega) (by omega)
          refine ⟨v, ?_, ?_⟩
          · refine Eq.trans (y108_4_5 rfl (by omega) (by omega) hR hk rfl hka rfl (by omega) (by omega) ht (by decide) (w32_id (by omega) (by omega))) ?_
            exact h1
          · refine Eq.trans (y208_68_4 hn (by omega) (by omega) hm.2.2.1 hm.2.2.2.1 (by omega) hm.2.2.2.2.1 (by omega) hma.2.2.2.2.1 (by omega) (by omega) z0 (w32_id (by omega) (by omega))) ?_
            exact h2
    · have ht := there0 (d := d) (L := L) hk e
      obtain ⟨v, h1, h2⟩ := ahead_loop (d := d) (F := F) h ha hq0 r n (c + 1) (by omega) (by omega) (by omega)
      refine ⟨v, ?_, Eq.trans (y208_68_2 hn (by omega) (by omega) hm.2.2.1 hm.2.2.2.1 (by omega) z0 (w32_id (by omega) (by omega))) h2⟩
      by_cases g1 : I (17 + a.toNat) 5 < I (17 + c.toNat) 5
      · refine Eq.trans (y108_4_2 rfl (by omega) (by omega) hR hk rfl hka rfl (by omega) ht rfl (w32_id (by omega) (by omega))) ?_
        exact h1
      · by_cases g2 : I (17 + c.toNat) 5 = I (17 + a.toNat) 5
        · by_cases g3 : c < a
          · refine Eq.trans (y108_4_8 rfl (by omega) (by omega) hR hk rfl hka rfl (by omega) (by omega) rfl rfl (by omega) ht rfl (w32_id (by omega) (by omega))) ?_
            exact h1
          · refine Eq.trans (y108_4_6 rfl (by omega) (by omega) hR hk rfl hka rfl (by omega) (by omega) rfl rfl (by omega) ht rfl (w32_id (by omega) (by omega))) ?_
            exact h1
        · refine Eq.trans (y108_4_4 rfl (by omega) (by omega) hR hk rfl hka rfl (by omega) (by omega) ht rfl (w32_id (by omega) (by omega))) ?_
          exact h1
theorem k_room {I L : Fn} {a : Int} (h : Rel I L) : SameI 105 208 [vi a] I L := by
  have hn := h.2.1.2.1
  have hr := h.bags
  have hr' := hr
  unfold rng at hr'
  have hcur := h.cur
  have hth := h.2.1.2.2.2.2.1
  have hho := c_holding (d := 58) (L := L) h.1.2.2.2.2.1 h.2.2.2.2.1.1
  have hk := (isH_K hcur.1).1
  obtain ⟨r, hv, k1, k2⟩ := room_loop (F := CallD 58) (d := 57) (L := L) hcur hth (I (hcell I) 0).toNat 3 0 (by have := hcur.2.1; unfold rng at this; omega) (by omega) (by unfold rng; omega)
  unfold rng at hv
  have each := Eq.trans (show CallD 59 106 [vr (hcell I)] (S I L) = _ from (e106_1)) k1
  have now : CallD 59 209 [vr 92] (S I L) = some (some (vi r), S I L) := by
    rw [Int.add_zero] at k2
    exact Eq.trans (e209_1 (m_begin_ok hcur hth)) k2
  by_cases ha : 0 ≤ a ∧ a < I 10 3
  · have hkb := K0bag (c := a.toNat) (by omega)
    have hm := h.bagM (c := a.toNat) (by omega)
    by_cases r0 : r = 0
    · refine ⟨_, _, _, _, _, (e105_7 (bagAt1 ha hr) (by omega) hho (by assumption) each (by omega)), (e208_1 hn (w32_id (by omega) (by omega)) (mI1 (by omega)) (by omega) now (by omega) (by omega)), h⟩
    · by_cases e : I (17 + a.toNat) 3 = I (17 + a.toNat) 4
      · obtain ⟨v, m1, m2⟩ := ahead_loop (d := 57) (F := CallD 59) (a := a) (q := r) h (by omega) r0 (I 10 3).toNat 0 0 (by omega) (by omega) (by omega)
        exact ⟨_, _, _, _, _, (e105_8 (bagAt1 ha hr) (by omega) hho hk each (by omega) (by assumption) (there1 hkb e) (by decide) (Eq.trans (e108_1) m1) (by omega) rfl), Eq.trans (e208_2 hn (w32_id (by omega) (by omega)) (mI1 (by omega)) (by omega) now (by omega) (by omega) (by omega) hm.2.2.1 hm.2.2.2.1 (by omega)) m2, h⟩
      · exact ⟨_, _, _, _, _, (e105_9 (bagAt1 ha hr) (by omega) hho hk each (by omega) (by assumption) (there0 hkb e) rfl), (e208_3 hn (w32_id (by omega) (by omega)) (mI1 (by omega)) (by omega) now (by omega) (by omega) (by omega) hm.2.2.1 hm.2.2.2.1 (by omega)), h⟩
  · by_cases a1 : a = -1
    · by_cases r0 : r = 0
      · exact ⟨_, _, _, _, _, (e105_2 (bagAt0 ha hr) (by omega) hho (by assumption) each (by omega)), (e208_5 hn (w32_id (by omega) (by omega)) (mI1 (by omega)) (by omega) now (by omega) (by omega)), h⟩
      · obtain ⟨v, m1, m2⟩ := many_loop (d := 57) (F := CallD 58) h (I 10 3).toNat 0 0 (by omega) (by omega) (by omega)
        exact ⟨_, _, _, _, _, (e105_1 (bagAt0 ha hr) (by omega) hho (by assumption) each (by omega) (Eq.trans (e107_1) m1)), (e208_4 hn (w32_id (by omega) (by omega)) (mI1 (by omega)) (by omega) now (by omega) (by omega) (Eq.trans (e210_1) m2)), h⟩
    · exact ⟨_, _, _, _, _, (e105_3 (bagAt0 ha hr) (by omega)), (e208_6 hn (w32_id (by omega) (by omega)) (mI0 (by omega)) (by omega)), h⟩
