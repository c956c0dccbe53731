/-! SOONEST: the class -/
theorem c_sk {d : Nat} {I J0 L : Fn} {c k : Nat} {t g best : Int} {w : Nat → Int} (h : Rel I L) (hc : c < 6) (hg : I (17 + c) 7 + k = g) (hk : k < 40) (hJ : Fr SCR I J0) (hF : FarC I J0 t.toNat) (hw : ∀ j, j < 8 → J0 77 j = w j ∧ (0 ≤ w j ∧ (w j = NK ∨ w j ≤ 2000 * k))) (hbe : best ≤ NK) : ∀ (r b : Nat) (J : Fn), b + r = 8 → Fr [78] J0 J → KB I c t g best (if k = 0 then 1 else 0) (2000 * (k + 1 : Nat)) w b (J 78) → ∃ J', y74_12 (CallD (d + 4)) (17 + c) k best b J L = some (none, S (cpy J' 78 0 77 0 8) L) ∧ (Fr [78] J0 J' ∧ KB I c t g best (if k = 0 then 1 else 0) (2000 * (k + 1 : Nat)) w 8 (J' 78))
  | 0, b, J, hb, hf, hm => by
    have : b = 8 := by omega
    subst this
    refine ⟨J, ?_, hf, hm⟩
    exact (y74_12_1 (by omega))
  | r + 1, b, J, hb, hf, hm => by
    have hB := h.1.1
    have hkb := K0bag hc
    have fS : Fr SCR I J := hJ.trans (hf.mono (by decide))
    have hRJ := h.scr fS (Fr.refl SCL L)
    have e77 : J 77 b = w b := (hf 77 b rfl).trans (hw b (by omega)).1
    have wb := (hw b (by omega)).2
    have hFJ := hF.fr hf (by decide) (by decide) (by decide)
    have f3 := (hFJ b (by omega)).2.2
    have ih := fun J' => c_sk (d := d) h hc hg hk hJ hF hw hbe r (b + 1) J' (by omega)
    rw [show ((b + 1 : Nat) : Int) = (b : Int) + 1 by omega] at ih
    by_cases e1 : w b < best
    · by_cases e2 : dst I t.toNat b < 99
      · have hq := hB b (by omega)
        have hr := rdS_rng (t := t.toNat) hB (b := b) (by omega)
        have tr := tk_rng h.cur c b g
        have b7 : J (17 + c) 7 = I (17 + c) 7 := fS.bag (by decide) hc 7
        have hbc := h.bagC hc
        obtain ⟨b0, b1, b2, b3, b4, b5, b6, br⟩ := hbc
        unfold rng at br
        have tt := c_takes (d := d) (L := L) (b := (b : Int)) (g := g) hRJ hc
        rw [tk_fr h.cur fS hc] at tt
        have rt := c_readTo (d := d + 3) (L := L) (b := (b : Int)) hB hFJ (by omega)
        rw [Int.toNat_natCast] at rt
        have f1 := (hFJ b (by omega)).1
        have wb2 : w b ≤ 2000 * k := by unfold NK at *; omega
        obtain ⟨J', q1, q2⟩ := ih (up (up J 78 (I 11 b).toNat (if w b + 2 * tk I c b g < J 78 (I 11 b).toNat then w b + 2 * tk I c b g else J 78 (I 11 b).toNat)) 78 (rdS I t.toNat b).toNat (if w b + 2 * tk I c b g + (if k = 0 then 1 else 0) < (if (rdS I t.toNat b).toNat = (I 11 b).toNat then (if w b + 2 * tk I c b g < J 78 (I 11 b).toNat then w b + 2 * tk I c b g else J 78 (I 11 b).toNat) else J 78 (rdS I t.toNat b).toNat) then w b + 2 * tk I c b g + (if k = 0 then 1 else 0) else (if (rdS I t.toNat b).toNat = (I 11 b).toNat then (if w b + 2 * tk I c b g < J 78 (I 11 b).toNat then w b + 2 * tk I c b g else J 78 (I 11 b).toNat) else J 78 (rdS I t.toNat b).toNat))) ((hf.up rfl).up rfl) (KB_go hm ⟨e1, e2⟩ (by split <;> omega) (by refine ⟨by omega, ?_⟩; split <;> omega) (fun j hj => by
          unfold mn2
          rw [up_eq, up_eq]
          by_cases z1 : j = (rdS I t.toNat b).toNat
          · rw [if_pos ⟨rfl, z1⟩, if_pos z1]
          · rw [if_neg (fun y => z1 y.2), if_neg z1]
            by_cases z2 : j = (I 11 b).toNat
            · rw [if_pos ⟨rfl, z2⟩, if_pos z2]
            · rw [if_neg (fun y => z2 y.2), if_neg z2]))
        refine ⟨J', ?_, q2⟩
        have v14 : (up J 78 (I 11 b).toNat (if w b + 2 * tk I c b g < J 78 (I 11 b).toNat then w b + 2 * tk I c b g else J 78 (I 11 b).toNat)) 78 (rdS I t.toNat b).toNat = (if (rdS I t.toNat b).toNat = (I 11 b).toNat then (if w b + 2 * tk I c b g < J 78 (I 11 b).toNat then w b + 2 * tk I c b g else J 78 (I 11 b).toNat) else J 78 (rdS I t.toNat b).toNat) := by
          rw [up_eq]
          by_cases z2 : (rdS I t.toNat b).toNat = (I 11 b).toNat
          · rw [if_pos ⟨rfl, z2⟩, if_pos z2]
          · rw [if_neg (fun y => z2 y.2), if_neg z2]
        have w9 : w32 (I (17 + c) 7 + k) = g := by rw [hg]; exact w32_id (by omega) (by omega)
        have w11 : w32 (2 * tk I c b g) = 2 * tk I c b g := w32_id (by omega) (by omega)
        have w12 : w32 (w b + 2 * tk I c b g) = w b + 2 * tk I c b g := w32_id (by omega) (by omega)
        by_cases k0 : k = 0
        · rw [if_pos k0] at q1
          have w21 : w32 (w b + 2 * tk I c b g + 1) = w b + 2 * tk I c b g + 1 := w32_id (by omega) (by omega)
          refine Eq.trans (y74_12_4 (by omega) (by omega) (show _ = w b from e77) (by omega) (show _ = dst I t.toNat b from f3) (by omega) (by assumption) b7 w9 tt w11 w12 f1 rt (by omega) rfl rfl (by omega) v14 (by omega) w21 rfl (w32_id (by omega) (by omega))) ?_
          exact q1
        · rw [if_neg k0, Int.add_zero] at q1
          refine Eq.trans (y74_12_3 (by omega) (by omega) (show _ = w b from e77) (by omega) (show _ = dst I t.toNat b from f3) (by omega) (by assumption) b7 w9 tt w11 w12 f1 rt (by omega) rfl rfl (by omega) v14 (by omega) rfl (w32_id (by omega) (by omega))) ?_
          exact q1
      · obtain ⟨J', q1, q2⟩ := ih J hf (KB_no hm (fun z => e2 z.2))
        refine ⟨J', ?_, q2⟩
        refine Eq.trans (y74_12_5 (by omega) (by omega) (show _ = w b from e77) (by omega) (show _ = dst I t.toNat b from f3) (by omega) (w32_id (by omega) (by omega))) ?_
        exact q1
    · obtain ⟨J', q1, q2⟩ := ih J hf (KB_no hm (fun z => e1 z.1))
      refine ⟨J', ?_, q2⟩
      refine Eq.trans (y74_12_2 (by omega) (by omega) (show _ = w b from e77) (by omega) (w32_id (by omega) (by omega))) ?_
      exact q1
theorem c_stepKeys {d : Nat} {I J L : Fn} {c k : Nat} {t g best : Int} {w : Nat → Int} (h : Rel I L) (hc : c < 6) (hg : I (17 + c) 7 + k = g) (hk : k < 40) (hJ : Fr SCR I J) (hF : FarC I J t.toNat) (hw : ∀ j, j < 8 → J 77 j = w j ∧ (0 ≤ w j ∧ (w j = NK ∨ w j ≤ 2000 * k))) (hbe : best ≤ NK) : ∃ J', CallD (d + 5) 74 [vr 75, vr (17 + c), vi k, vi best] (S J L) = some (none, S J' L) ∧ (Fr [77, 78] J J' ∧ KB I c t g best (if k = 0 then 1 else 0) (2000 * (k + 1 : Nat)) w 8 (J' 77)) := by
  obtain ⟨J1, f1, f2, f3⟩ := c_fl (d := d + 3) (k := 78) (n := 8) (v := 1073741824) (I := J) (L := L) rfl (by decide) (by decide) rfl
  obtain ⟨J2, g1, g2, g3⟩ := c_sk (d := d) h hc hg hk (hJ.trans (f3.mono (by decide))) (hF.fr f3 (by decide) (by decide) (by decide)) (fun j hj => ⟨(f3 77 j rfl).trans (hw j hj).1, (hw j hj).2⟩) hbe 8 0 J1 (by omega) (Fr.refl _ _) (KB_0 (fun j hj => f2 j hj))
  refine ⟨cpy J2 78 0 77 0 8, ?_, cpy_fr ((f3.mono (by decide)).trans (g2.mono (by decide))) (fun _ => rfl), fun j hj => ?_⟩
  · refine Eq.trans (e74_1 f1) ?_
    exact g1
  · rw [cpyz, if_pos ⟨rfl, hj⟩]
    exact g3 j hj
theorem c_sok {d : Nat} {I L : Fn} {c b0 : Nat} {t : Int} (h : Rel I L) (hc : c < 6) (ht : I (17 + c) 4 = t) (ht8 : 0 ≤ t ∧ t < 8) : ∀ (r k : Nat) (J : Fn) (best : Int), k + r = 40 → Fr SCR I J → FarC I J t.toNat → SI I c t (I (17 + c) 7) b0 k (J 77) best → 1 ≤ k → ∃ J' v, y73_32 (CallD (d + 5)) (17 + c) best k J L = some (some (vi v), S J' L) ∧ (Fr SCR I J' ∧ ∃ w, SI I c t (I (17 + c) 7) b0 40 w v)
  | 0, k, J, best, hk, hJ, hF, hS, h1 => by
    have : k = 40 := by omega
    subst this
    refine ⟨J, best, ?_, hJ, _, hS⟩
    exact (y73_32_1 (by omega))
  | r + 1, k, J, best, hk, hJ, hF, hS, h1 => by
    have hkb := K0bag hc
    obtain ⟨J1, f1, f2, f3⟩ := c_stepKeys (d := d) (g := I (17 + c) 7 + k) (best := best) (w := J 77) h hc rfl (by omega) hJ hF (fun j hj => ⟨rfl, hS.1 j hj⟩) (by have := hS.2.2.1; unfold NK at *; omega)
    rw [if_neg (by omega)] at f3
    have g4 : J1 (17 + c) 4 = t := ((hJ.trans (f2.mono (by decide))).bag (by decide) hc 4).trans ht
    have hS' := SI_next (best' := if J1 77 t.toNat < best then J1 77 t.toNat else best) (w2 := (up J1 77 t.toNat 1073741824) 77) h.1.1 h.cur ht8 (by omega) hS f3 (fun j hj => by
      rw [up_eq]
      by_cases z : j = t.toNat
      · rw [if_pos ⟨rfl, z⟩, if_pos z]; rfl
      · rw [if_neg (fun y => z y.2), if_neg z]) rfl
    obtain ⟨J', v, g1, g2⟩ := c_sok (d := d) h hc ht ht8 r (k + 1) (up J1 77 t.toNat 1073741824) (if J1 77 t.toNat < best then J1 77 t.toNat else best) (by omega) ((hJ.trans (f2.mono (by decide))).up rfl) (hF.fr ((f2.mono (Y := [77, 78]) (by decide)).up rfl) (by decide) (by decide) (by decide)) hS' (by omega)
    refine ⟨J', v, ?_, g2⟩
    rw [show ((k + 1 : Nat) : Int) = (k : Int) + 1 by omega] at g1
    refine Eq.trans (y73_32_2 (by omega) f1 (by assumption) g4 (by omega) rfl rfl (w32_id (by omega) (by omega))) ?_
    exact g1
/-- Ways.soonestKey -/
theorem c_soonestKey {d : Nat} {I L : Fn} {c : Nat} (h : Rel I L) (hc : c < 6) (hne : ¬ I (17 + c) 3 = I (17 + c) 4) : ∃ J v, CallD (d + 6) 73 [vr 75, vr (17 + c)] (S I L) = some (some (vi v), S J L) ∧ (Fr SCR I J ∧ ((0 ≤ v ∧ (v = NK ∨ v ≤ 80000)) ∧ ∀ x, x < NK → (v ≤ x ↔ Wp I c (I (17 + c) 4) (I (17 + c) 7) (I (17 + c) 3).toNat x))) := by
  have hk := K0bag hc
  have hbc := h.bagC hc
  obtain ⟨b0, b1, b2, b3, b4, b5, b6, b7⟩ := hbc
  unfold rng at b3 b4 b7
  obtain ⟨J1, h1, h2, h3⟩ := c_meas (d := d + 3) (L := L) h.1.1 (t := I (17 + c) 4) (by omega)
  obtain ⟨J2, f1, f2, f3⟩ := c_fl (d := d + 4) (k := 77) (n := 8) (v := 1073741824) (I := J1) (L := L) rfl (by decide) (by decide) rfl
  have fS : Fr SCR I J2 := (h2.mono (by decide)).trans (f3.mono (by decide))
  have g3 : J2 (17 + c) 3 = I (17 + c) 3 := fS.bag (by decide) hc 3
  have hF2 := h3.fr f3 (by decide) (by decide) (by decide)
  have fu : Fr [77] J2 (up J2 77 (I (17 + c) 3).toNat 0) := (Fr.refl _ _).up rfl
  have hw0 : ∀ j, j < 8 → (up J2 77 (I (17 + c) 3).toNat 0) 77 j = if j = (I (17 + c) 3).toNat then 0 else NK := by
    intro j hj
    rw [up_eq]
    by_cases z : j = (I (17 + c) 3).toNat
    · rw [if_pos ⟨rfl, z⟩, if_pos z]
    · rw [if_neg (fun y => z y.2), if_neg z]; exact f2 j hj
  obtain ⟨J3, e1, e2, e3⟩ := c_stepKeys (d := d) (k := 0) (t := I (17 + c) 4) (g := I (17 + c) 7) (best := NK) (w := (up J2 77 (I (17 + c) 3).toNat 0) 77) h hc (by omega) (by omega) (fS.up rfl) (hF2.fr fu (by decide) (by decide) (by decide)) (fun j hj => ⟨rfl, by
    rw [hw0 j hj]
    unfold NK
    split <;> omega⟩) (Int.le_refl _)
  rw [if_pos rfl] at e3
  have g4 : J3 (17 + c) 4 = I (17 + c) 4 := ((fS.up (k := 77) rfl).trans (e2.mono (by decide))).bag (by decide) hc 4
  have hS := SI_first (b0 := (I (17 + c) 3).toNat) (best' := if J3 77 (I (17 + c) 4).toNat < NK then J3 77 (I (17 + c) 4).toNat else NK) (w2 := (up J3 77 (I (17 + c) 4).toNat 1073741824) 77) h.1.1 h.cur (by omega) (by omega) (by omega) hw0 e3 (fun j hj => by
      rw [up_eq]
      by_cases z : j = (I (17 + c) 4).toNat
      · rw [if_pos ⟨rfl, z⟩, if_pos z]; rfl
      · rw [if_neg (fun y => z y.2), if_neg z]) rfl
  obtain ⟨J', v, q1, q2, w, q3⟩ := c_sok (d := d) (b0 := (I (17 + c) 3).toNat) h hc rfl (by omega) 39 1 (up J3 77 (I (17 + c) 4).toNat 1073741824) (if J3 77 (I (17 + c) 4).toNat < NK then J3 77 (I (17 + c) 4).toNat else NK) (by omega) (((fS.up rfl).trans (e2.mono (by decide))).up rfl) (hF2.fr ((fu.mono (Y := [77, 78]) (by decide)).trans ((e2.mono (Y := [77, 78]) (by decide)).up rfl)) (by decide) (by decide) (by decide)) hS (by omega)
  have hend := SI_end (by omega) q3
  refine ⟨J', v, ?_, q2, hend.1, hend.2⟩
  refine Eq.trans (e73_1 (by assumption) rfl h1 f1 g3 (by omega)) ?_
  refine Eq.trans (y73_32_2 (by omega) e1 (by assumption) g4 (by omega) rfl rfl (w32_id (by omega) (by omega))) ?_
  exact q1
