/-! what scratch cells leave as it is -/
theorem scr_elem : ∀ k, k < 75 → SCR.elem k = false := by decide
theorem scr_low {I J : Fn} (hf : Fr SCR I J) {k : Nat} (hk : k < 75) (h36 : k ≠ 36 ∧ k ≠ 10) (j : Nat) : J k j = I k j := by
  refine hf.cell ?_ (scr_elem k hk) j
  have h1 : Nat.beq k 92 = false := by
    cases h : Nat.beq k 92 with
    | false => rfl
    | true => have := Nat.eq_of_beq_eq_true h; omega
  have h2 : Nat.beq k 10 = false := by
    cases h : Nat.beq k 10 with
    | false => rfl
    | true => have := Nat.eq_of_beq_eq_true h; omega
  have h3 : Nat.beq k 36 = false := by
    cases h : Nat.beq k 36 with
    | false => rfl
    | true => have := Nat.eq_of_beq_eq_true h; omega
  rw [h1, h2, h3]; rfl
theorem hcell_lt {I : Fn} (h : isH (hcell I)) : 40 ≤ hcell I ∧ hcell I + 4 < 75 := by
  rcases h with h | ⟨f, hf, h⟩ <;> omega
theorem totN_fr {I J : Fn} {h : Nat} (hf : Fr SCR I J) (hh : 40 ≤ h ∧ h + 4 < 75) {c : Nat} (hc : c < 6) {w b g : Int} : ∀ n, totN J h w c b g n = totN I h w c b g n
  | 0 => rfl
  | n + 1 => by
    have ih := totN_fr hf hh hc (w := w) (b := b) (g := g) n
    have e1 := scr_low hf (k := h + 1) (by omega) (by omega)
    have e2 := scr_low hf (k := h + 2) (by omega) (by omega)
    have e3 := scr_low hf (k := h + 3) (by omega) (by omega)
    have e4 := scr_low hf (k := h + 4) (by omega) (by omega)
    have ef : frm J h n = frm I h n := by
      cases n with
      | zero => rfl
      | succ n => exact e3 n
    have et : tvx J c b g = tvx I c b g := by
      funext x
      unfold tvx fct
      rw [scr_low hf (k := 17 + c) (by omega) (by omega), scr_low hf (k := 17 + c) (by omega) (by omega), scr_low hf (k := 17 + c) (by omega) (by omega)]
    have es : soC J c b g h n = soC I c b g h n := by
      unfold soC
      rw [ef, et, e3]
      congr 2
      funext k
      exact e4 _
    show totN J h w c b g n + _ = totN I h w c b g n + _
    rw [ih, es, e1, e2]
theorem hcell_fr {I J : Fn} (hf : Fr SCR I J) : hcell J = hcell I := by
  unfold hcell
  rw [hf 10 9 rfl]
theorem tot_fr {I J : Fn} (hC : Cur I I) (hf : Fr SCR I J) {c : Nat} (hc : c < 6) {w b g : Int} : tot J w c b g = tot I w c b g := by
  have hh := hcell_lt hC.1
  unfold tot
  rw [hcell_fr hf, scr_low hf (k := hcell I) (by omega) (by omega), totN_fr hf hh hc]
/-! SEEN, TAKES -/
def tk (I : Fn) (c : Nat) (b g : Int) : Int := 1 + tot I 2 c b g
def sbk (I : Fn) (c : Nat) (b g : Int) : Int := if I (17 + c) 1 = 2 then I (17 + c) 2 else if I (17 + c) 1 = 5 then (if b = I (17 + c) 2 then 0 else I (17 + c) 2) else if I (17 + c) 1 = 1 then 7 + tot I 0 c b g - tot I 1 c b g + 1 else if I (17 + c) 1 = 3 then 7 + tot I 0 c b g - tot I 1 c b g - I (17 + c) 5 else if I (17 + c) 1 = 4 then 7 + tot I 0 c b g - tot I 1 c b g + 1 + I (17 + c) 2 else if I (17 + c) 1 = 6 then div32 (7 + tot I 0 c b g - tot I 1 c b g - I (17 + c) 5) 2 else 7 + tot I 0 c b g - tot I 1 c b g
def sn (I : Fn) (c : Nat) (b g : Int) : Int := if sbk I c b g < 0 then 0 else if 10 < sbk I c b g then 10 else sbk I c b g
theorem sn_rng (I : Fn) (c : Nat) (b g : Int) : 0 ≤ sn I c b g ∧ sn I c b g ≤ 10 := by
  unfold sn
  repeat' split
  all_goals omega
theorem tk_rng {I : Fn} (hC : Cur I I) (c : Nat) (b g : Int) : 1 ≤ tk I c b g ∧ tk I c b g ≤ 991 := by
  have := tot_rng (w := 2) (c := c) (b := b) (g := g) hC
  unfold tk
  omega
theorem tk_fr {I J : Fn} (hC : Cur I I) (hf : Fr SCR I J) {c : Nat} (hc : c < 6) {b g : Int} : tk J c b g = tk I c b g := by
  unfold tk
  rw [tot_fr hC hf hc]
theorem sn_fr {I J : Fn} (hC : Cur I I) (hf : Fr SCR I J) {c : Nat} (hc : c < 6) {b g : Int} : sn J c b g = sn I c b g := by
  have e := scr_low hf (k := 17 + c) (by omega) (by omega)
  have : sbk J c b g = sbk I c b g := by
    unfold sbk
    rw [tot_fr hC hf hc, tot_fr hC hf hc, e, e, e]
  unfold sn
  rw [this]
theorem c_takes {d : Nat} {I L : Fn} {c : Nat} {b g : Int} (h : Rel I L) (hc : c < 6) : CallD (d + 4) 29 [vr 75, vr (17 + c), vi b, vi g] (S I L) = some (some (vi (tk I c b g)), S I L) := by
  have hC := h.cur
  have ho := c_holding (d := d + 2) (L := L) h.1.2.2.2.2.1 h.2.2.2.2.1.1
  have tt := c_total (d := d) (L := L) (b := b) (g := g) (w := 2) hC hc (h.bagC hc) (by decide)
  have hr := tot_rng (w := 2) (c := c) (b := b) (g := g) hC
  have hk := (isH_K hC.1).1
  unfold tk
  exact (e29_1 ho (by assumption) tt (w32_id (by omega) (by omega)))
theorem m_minutes_ok {d : Nat} {I0 J L : Fn} {c b g : Int} (hC : Cur I0 I0) (hM : MH I0 J) (hc : 0 ≤ c ∧ c < 6) : ∃ J', CallD (d + 4) 176 [vr 92, vi c, vi b, vi g] (S J L) = some (some (vi (tk I0 c.toNat b g)), S J' L) ∧ Fr [115] J J' := by
  obtain ⟨J', g1, g2⟩ := m_sumOf_ok (d := d) (L := L) (b := b) (g := g) (w := 2) hC hM hc (by decide)
  have hr := tot_rng (w := 2) (c := c.toNat) (b := b) (g := g) hC
  refine ⟨J', ?_, g2⟩
  unfold tk
  exact (e176_1 g1 (w32_id (by omega) (by omega)))
theorem c_sbk {d : Nat} {I L : Fn} {c : Nat} {b g : Int} (h : Rel I L) (hc : c < 6) : CallD (d + 4) 24 [vr 75, vr (17 + c), vi b, vi g] (S I L) = some (some (vi (sbk I c b g)), S I L) := by
  have hC := h.cur
  have ho := c_holding (d := d + 2) (L := L) h.1.2.2.2.2.1 h.2.2.2.2.1.1
  have hb := h.bagC hc
  have t0 := c_total (d := d) (L := L) (b := b) (g := g) (w := 0) hC hc hb (by decide)
  have t1 := c_total (d := d) (L := L) (b := b) (g := g) (w := 1) hC hc hb (by decide)
  have r0 := tot_rng (w := 0) (c := c) (b := b) (g := g) hC
  have r1 := tot_rng (w := 1) (c := c) (b := b) (g := g) hC
  have hk := K0bag hc
  have hk2 := (isH_K hC.1).1
  obtain ⟨b0, b1, b2, b3, b4, b5, b6, b7⟩ := hb
  unfold rng at b1 b2 b5
  unfold sbk
  by_cases k2 : I (17 + c) 1 = 2
  · rw [if_pos k2]
    exact (e24_10 (by assumption) k2 (by omega) rfl)
  rw [if_neg k2]
  by_cases k5 : I (17 + c) 1 = 5
  · rw [if_pos k5]
    by_cases q : b = I (17 + c) 2
    · rw [if_pos q]
      exact (e24_9 (by assumption) k5 (by omega) (by omega) rfl (by omega))
    · rw [if_neg q]
      exact (e24_8 (by assumption) k5 (by omega) (by omega) rfl (by omega))
  rw [if_neg k5]
  by_cases k1 : I (17 + c) 1 = 1
  · rw [if_pos k1]
    exact (e24_1 (by assumption) rfl (by omega) (by omega) ho (by assumption) t0 (w32_id (by omega) (by omega)) t1 (w32_id (by omega) (by omega)) k1 (by omega) (w32_id (by omega) (by omega)))
  rw [if_neg k1]
  by_cases k3 : I (17 + c) 1 = 3
  · rw [if_pos k3]
    exact (e24_3 (by assumption) rfl (by omega) (by omega) ho (by assumption) t0 (w32_id (by omega) (by omega)) t1 (w32_id (by omega) (by omega)) k3 (by omega) rfl (w32_id (by omega) (by omega)))
  rw [if_neg k3]
  by_cases k4 : I (17 + c) 1 = 4
  · rw [if_pos k4]
    exact (e24_4 (by assumption) rfl (by omega) (by omega) ho (by assumption) t0 (w32_id (by omega) (by omega)) t1 (w32_id (by omega) (by omega)) k4 (by omega) (w32_id (by omega) (by omega)) rfl (w32_id (by omega) (by omega)))
  rw [if_neg k4]
  by_cases k6 : I (17 + c) 1 = 6
  · rw [if_pos k6]
    exact (e24_6 (by assumption) rfl (by omega) (by omega) ho (by assumption) t0 (w32_id (by omega) (by omega)) t1 (w32_id (by omega) (by omega)) k6 (by omega) rfl (w32_id (by omega) (by omega)) rfl)
  rw [if_neg k6]
  exact (e24_7 (by assumption) rfl (by omega) (by omega) ho (by assumption) t0 (w32_id (by omega) (by omega)) t1 (w32_id (by omega) (by omega)) rfl (by omega) (by omega) (by omega) (by omega) (by omega) (by omega))
theorem sbk_sn {I : Fn} {c : Nat} {b g : Int} : (if 0 < (if sbk I c b g < 10 then sbk I c b g else 10) then (if sbk I c b g < 10 then sbk I c b g else 10) else 0) = sn I c b g := by
  unfold sn
  repeat' split
  all_goals omega
theorem c_seen {d : Nat} {I L : Fn} {c : Nat} {b g : Int} (h : Rel I L) (hc : c < 6) : CallD (d + 5) 23 [vr 75, vr (17 + c), vi b, vi g] (S I L) = some (some (vi (sn I c b g)), S I L) := by
  have t := c_sbk (d := d) (L := L) (b := b) (g := g) h hc
  exact (e23_1 t rfl sbk_sn)
theorem m_plain_ok {d : Nat} {I0 J L : Fn} {c b g : Int} (hC : Cur I0 I0) (hM : MH I0 J) (hb : BagC I0 c.toNat) (hc : 0 ≤ c ∧ c < 6) : ∃ J', CallD (d + 4) 170 [vr 92, vi c, vi b, vi g] (S J L) = some (some (vi (sbk I0 c.toNat b g)), S J' L) ∧ Fr [115] J J' := by
  obtain ⟨J1, t0, f1⟩ := m_sumOf_ok (d := d) (L := L) (b := b) (g := g) (w := 0) hC hM hc (by decide)
  have hM1 := hM.fr f1 (by decide)
  obtain ⟨J2, t1, f2⟩ := m_sumOf_ok (d := d) (L := L) (b := b) (g := g) (w := 1) hC hM1 hc (by decide)
  have hM2 := hM1.fr f2 (by decide)
  have r0 := tot_rng (w := 0) (c := c.toNat) (b := b) (g := g) hC
  have r1 := tot_rng (w := 1) (c := c.toNat) (b := b) (g := g) hC
  have hm := hM2.1.2.2.2.2.2.1.at (c := c.toNat) (by omega)
  have hk := hm.1
  have hv := hm.2.1
  have ht := hm.2.2.2.2.1
  obtain ⟨b0, b1, b2, b3, b4, b5, b6, b7⟩ := hb
  unfold rng at b1 b2 b5
  refine ⟨J2, ?_, f1.trans f2⟩
  unfold sbk
  by_cases k2 : I0 (17 + c.toNat) 1 = 2
  · rw [if_pos k2]
    exact (e170_2 t0 (w32_id (by omega) (by omega)) t1 (w32_id (by omega) (by omega)) (by omega) hk (by omega) hv)
  rw [if_neg k2]
  by_cases k5 : I0 (17 + c.toNat) 1 = 5
  · rw [if_pos k5]
    by_cases q : b = I0 (17 + c.toNat) 2
    · rw [if_pos q]
      exact (e170_6 t0 (w32_id (by omega) (by omega)) t1 (w32_id (by omega) (by omega)) (by omega) hk (by omega) hv (by omega))
    · rw [if_neg q]
      exact (e170_5 t0 (w32_id (by omega) (by omega)) t1 (w32_id (by omega) (by omega)) (by omega) hk (by omega) hv (by omega))
  rw [if_neg k5]
  by_cases k1 : I0 (17 + c.toNat) 1 = 1
  · rw [if_pos k1]
    exact (e170_1 t0 (w32_id (by omega) (by omega)) t1 (w32_id (by omega) (by omega)) (by omega) hk (by omega) (w32_id (by omega) (by omega)))
  rw [if_neg k1]
  by_cases k3 : I0 (17 + c.toNat) 1 = 3
  · rw [if_pos k3]
    exact (e170_3 t0 (w32_id (by omega) (by omega)) t1 (w32_id (by omega) (by omega)) (by omega) hk (by omega) ht (w32_id (by omega) (by omega)))
  rw [if_neg k3]
  by_cases k4 : I0 (17 + c.toNat) 1 = 4
  · rw [if_pos k4]
    exact (e170_4 t0 (w32_id (by omega) (by omega)) t1 (w32_id (by omega) (by omega)) (by omega) hk (by omega) (w32_id (by omega) (by omega)) hv (w32_id (by omega) (by omega)))
  rw [if_neg k4]
  by_cases k6 : I0 (17 + c.toNat) 1 = 6
  · rw [if_pos k6]
    exact (e170_7 t0 (w32_id (by omega) (by omega)) t1 (w32_id (by omega) (by omega)) (by omega) hk (by omega) ht (w32_id (by omega) (by omega)) rfl)
  rw [if_neg k6]
  exact (e170_8 t0 (w32_id (by omega) (by omega)) t1 (w32_id (by omega) (by omega)) (by omega) hk (by omega) (by omega) (by omega) (by omega) (by omega) (by omega))
theorem m_seen_ok {d : Nat} {I0 J L : Fn} {c b g : Int} (hC : Cur I0 I0) (hM : MH I0 J) (hb : BagC I0 c.toNat) (hc : 0 ≤ c ∧ c < 6) : ∃ J', CallD (d + 5) 169 [vr 92, vi c, vi b, vi g] (S J L) = some (some (vi (sn I0 c.toNat b g)), S J' L) ∧ Fr [115] J J' := by
  obtain ⟨J', g1, g2⟩ := m_plain_ok (d := d) (L := L) (b := b) (g := g) hC hM hb hc
  refine ⟨J', ?_, g2⟩
  unfold sn
  by_cases e1 : sbk I0 c.toNat b g < 0
  · rw [if_pos e1]
    exact (e169_3 g1 (by omega))
  rw [if_neg e1]
  by_cases e2 : 10 < sbk I0 c.toNat b g
  · rw [if_pos e2]
    exact (e169_2 g1 (by omega) (by omega))
  rw [if_neg e2]
  exact (e169_1 g1 (by omega) (by omega))
theorem Rel.mh {I L : Fn} (h : Rel I L) : MH I I := ⟨h.2.1, fun _ _ _ _ => rfl⟩
theorem k_of {I L : Fn} {a b : Int} (h : Rel I L) : SameI 21 168 [vi a, vi b] I L := by
  have hn := h.2.1.2.1
  have hr := h.bags
  have hr' := hr
  unfold rng at hr'
  by_cases ha : 0 ≤ a ∧ a < I 10 3
  · have hc : a.toNat < 6 := by omega
    have hbc := h.bagC hc
    have hm := h.bagM hc
    have hk := K0bag hc
    have e1 := bagAt1 (d := 58) (L := L) ha hr
    have e2 := mC1 (d := 57) (L := L) hn hr ha
    by_cases b0 : b = 0
    · exact ⟨_, _, _, _, _, (e21_2 e1 (by omega) (by assumption) rfl), (e168_1 e2 (by omega) (by omega) (by omega) hm.1), h⟩
    by_cases b1 : b = 1
    · exact ⟨_, _, _, _, _, (e21_3 e1 (by omega) (by assumption) rfl), (e168_2 e2 (by omega) (by omega) (by omega) hm.2.1), h⟩
    by_cases b2 : b = 2
    · exact ⟨_, _, _, _, _, (e21_4 e1 (by omega) (by assumption) rfl), (e168_3 e2 (by omega) (by omega) (by omega) hm.2.2.1), h⟩
    by_cases b3 : b = 3
    · exact ⟨_, _, _, _, _, (e21_5 e1 (by omega) (by assumption) rfl), (e168_4 e2 (by omega) (by omega) (by omega) hm.2.2.2.1), h⟩
    by_cases b4 : b = 4
    · exact ⟨_, _, _, _, _, (e21_6 e1 (by omega) (by assumption) rfl), (e168_5 e2 (by omega) (by omega) (by omega) hm.2.2.2.2.1), h⟩
    by_cases b5 : b = 5
    · exact ⟨_, _, _, _, _, (e21_7 e1 (by omega) (by assumption) rfl), (e168_6 e2 (by omega) (by omega) (by omega) hm.2.2.2.2.2.1), h⟩
    by_cases b6 : b = 6
    · exact ⟨_, _, _, _, _, (e21_8 e1 (by omega) (by assumption) rfl), (e168_7 e2 (by omega) (by omega) (by omega) hm.2.2.2.2.2.2.1), h⟩
    by_cases b7 : b = 7
    · exact ⟨_, _, _, _, _, (e21_9 e1 (by omega) (by assumption) rfl), (e168_8 e2 (by omega) (by omega) (by omega) hm.2.2.2.2.2.2.2), h⟩
    by_cases b8 : b = 8
    · obtain ⟨J', g1, g2⟩ := m_seen_ok (d := 54) (L := L) (c := a) (b := I (17 + a.toNat) 3) (g := I (17 + a.toNat) 7) h.cur h.mh hbc (by omega)
      exact ⟨_, _, _, _, _, (e21_10 e1 (by omega) (by assumption) rfl rfl (c_seen (d := 54) h hc)), (e168_9 e2 (by omega) (by omega) (by omega) hm.2.2.1 hm.2.2.2.2.2.2.1 g1), h.scr (g2.mono (by decide)) (Fr.refl _ _)⟩
    by_cases b9 : b = 9
    · obtain ⟨J', g1, g2⟩ := m_minutes_ok (d := 55) (L := L) (c := a) (b := I (17 + a.toNat) 3) (g := I (17 + a.toNat) 7) h.cur h.mh (by omega)
      exact ⟨_, _, _, _, _, (e21_11 e1 (by omega) (by assumption) rfl rfl (c_takes (d := 55) h hc)), (e168_10 e2 (by omega) (by omega) (by omega) hm.2.2.1 hm.2.2.2.2.2.2.1 g1), h.scr (g2.mono (by decide)) (Fr.refl _ _)⟩
    by_cases b10 : b = 10
    · by_cases e : I (17 + a.toNat) 3 = I (17 + a.toNat) 4
      · exact ⟨_, _, _, _, _, (e21_13 e1 (by omega) (by assumption) (there1 hk e) (by decide)), (e168_12 e2 (by omega) (by omega) (by omega) hm.2.2.1 hm.2.2.2.1 (by omega)), h⟩
      · exact ⟨_, _, _, _, _, (e21_12 e1 (by omega) (by assumption) (there0 hk e) rfl), (e168_11 e2 (by omega) (by omega) (by omega) hm.2.2.1 hm.2.2.2.1 (by omega)), h⟩
    exact ⟨_, _, _, _, _, (e21_14 e1 (by omega) (by omega) (by omega) (by omega) (by omega) (by omega) (by omega) (by omega) (by omega) (by omega) (by omega)), (e168_13 e2 (by omega) (by omega) (by omega) (by omega) (by omega) (by omega) (by omega) (by omega) (by omega) (by omega) (by omega) (by omega)), h⟩
  · exact ⟨_, _, _, _, _, (e21_1 (bagAt0 ha hr)), (e168_14 (mC0 hn hr ha) (by omega)), h⟩
