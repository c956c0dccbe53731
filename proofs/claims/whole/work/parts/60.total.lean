/-! the n of all clauses of a word whose E holds, together -/
def soC (I : Fn) (c : Nat) (b g : Int) (h i : Nat) : Bool := soB (evS (fun k => I (h + 4) ((frm I h i).toNat + k)) (tvx I c b g) (I (h + 3) i - frm I h i).toNat)
def totN (I : Fn) (h : Nat) (w : Int) (c : Nat) (b g : Int) : Nat → Int
  | 0 => 0
  | n + 1 => totN I h w c b g n + (if I (h + 1) n = w then (if soC I c b g h n = true then I (h + 2) n else 0) else 0)
def tot (I : Fn) (w : Int) (c : Nat) (b g : Int) : Int := totN I (hcell I) w c b g (I (hcell I) 0).toNat
theorem totN_rng {I : Fn} {w : Int} {c : Nat} {b g : Int} (hC : Cur I I) : ∀ i : Nat, (i : Int) ≤ I (hcell I) 0 → 0 ≤ totN I (hcell I) w c b g i ∧ totN I (hcell I) w c b g i ≤ 99 * i
  | 0, _ => by unfold totN; omega
  | i + 1, hi => by
    have ih := totN_rng (w := w) (c := c) (b := b) (g := g) hC i (by omega)
    have cl := (hC.2.2.2.2.2 i (by omega)).2.2.1.1
    unfold rng at cl
    show 0 ≤ totN I (hcell I) w c b g i + _ ∧ totN I (hcell I) w c b g i + _ ≤ _
    split
    · split <;> omega
    · omega
theorem tot_rng {I : Fn} {w : Int} {c : Nat} {b g : Int} (hC : Cur I I) : 0 ≤ tot I w c b g ∧ tot I w c b g ≤ 990 := by
  have hl := hC.2.1
  unfold rng at hl
  have := totN_rng (w := w) (c := c) (b := b) (g := g) hC (I (hcell I) 0).toNat (by omega)
  unfold tot
  omega
theorem c_isSo {d : Nat} {I L : Fn} {c i : Nat} {b g : Int} (hC : Cur I I) (hc : c < 6) (hb : BagC I c) (hi : (i : Int) < I (hcell I) 0) (hw : I (hcell I + 1) i ≠ 3) : CallD (d + 2) 27 [vr (hcell I), vi (frm I (hcell I) i), vi (I (hcell I + 3) i), vr (17 + c), vi b, vi g] (S I L) = some (some (vi (bI (soC I c b g (hcell I) i))), S I L) := by
  obtain ⟨he, cl⟩ := hC.2.2.2.2.2 i hi
  obtain ⟨c1, c2, ⟨f0, f1, f2⟩, c3⟩ := cl
  obtain ⟨⟨a0, a1, a2⟩, aT, aD⟩ := c3 hw
  generalize hf : frm I (hcell I) i = fr at *
  have := c_so (d := d) (L := L) (b := b) (g := g) (to := I (hcell I + 3) i) (fr := fr.toNat) (N := (I (hcell I + 3) i - fr).toNat) hC.1 hc hb aD (by omega) f2 (fun k hk => ⟨_, aT k (by omega)⟩) (I (hcell I + 3) i - fr).toNat 0 (by omega)
  rw [show ((fr.toNat + 0 : Nat) : Int) = fr by omega] at this
  unfold soC
  rw [hf]
  refine Eq.trans (e27_1) ?_
  exact this
theorem c_tl {d : Nat} {I L : Fn} {c : Nat} {b g w : Int} (hC : Cur I I) (hc : c < 6) (hb : BagC I c) (hw : w ≠ 3) : ∀ r i : Nat, i + r = (I (hcell I) 0).toNat → y26_9 (CallD (d + 2)) (hcell I) w (17 + c) b g (totN I (hcell I) w c b g i) (frm I (hcell I) i) i I L = some (some (vi (tot I w c b g)), S I L)
  | 0, i, hi => by
    have hk := (isH_K hC.1).1
    have hl := hC.2.1
    unfold rng at hl
    have e : i = (I (hcell I) 0).toNat := by omega
    unfold tot
    rw [← e]
    exact (y26_9_1 (by assumption) rfl (by omega))
  | r + 1, i, hi => by
    obtain ⟨hk, ⟨r1, r2, r3, r4⟩, k1, k2, k3, k4⟩ := isH_K hC.1
    have hl := hC.2.1
    unfold rng at hl
    have ih := c_tl (d := d) (L := L) (b := b) (g := g) hC hc hb hw r (i + 1) (by omega)
    have hq : totN I (hcell I) w c b g (i + 1) = totN I (hcell I) w c b g i + (if I (hcell I + 1) i = w then (if soC I c b g (hcell I) i = true then I (hcell I + 2) i else 0) else 0) := rfl
    have hr := totN_rng (w := w) (c := c) (b := b) (g := g) hC i (by omega)
    have cl := (hC.2.2.2.2.2 i (by omega)).2.2.1.1
    unfold rng at cl
    rw [show ((i + 1 : Nat) : Int) = (i : Int) + 1 by omega] at ih
    have e2 : frm I (hcell I) (i + 1) = I (hcell I + 3) i := rfl
    rw [e2] at ih
    by_cases e : I (hcell I + 1) i = w
    · have so := c_isSo (d := d) (L := L) (i := i) (b := b) (g := g) hC hc hb (by omega) (by rw [e]; exact hw)
      rw [if_pos e] at hq
      cases hs : soC I c b g (hcell I) i with
      | true =>
        rw [hs] at so hq
        rw [if_pos rfl] at hq
        rw [hq] at ih
        refine Eq.trans (y26_9_4 (by assumption) rfl (by omega) r1 (by assumption) (by omega) e (by omega) r3 (by assumption) rfl so (by decide) r2 (by assumption) (show _ = I (hcell I + 2) i from rfl) (w32_id (by omega) (by omega)) r3 (by assumption) rfl (w32_id (by omega) (by omega))) ?_
        exact ih
      | false =>
        rw [hs] at so hq
        rw [if_neg (by decide), Int.add_zero] at hq
        rw [hq] at ih
        refine Eq.trans (y26_9_3 (by assumption) rfl (by omega) r1 (by assumption) (by omega) e (by omega) r3 (by assumption) rfl so rfl r3 (by assumption) rfl (w32_id (by omega) (by omega))) ?_
        exact ih
    · rw [if_neg e, Int.add_zero] at hq
      rw [hq] at ih
      refine Eq.trans (y26_9_2 (by assumption) rfl (by omega) r1 (by assumption) (by omega) rfl e r3 (by assumption) rfl (w32_id (by omega) (by omega))) ?_
      exact ih
theorem c_total {d : Nat} {I L : Fn} {c : Nat} {b g w : Int} (hC : Cur I I) (hc : c < 6) (hb : BagC I c) (hw : w ≠ 3) : CallD (d + 3) 26 [vr (hcell I), vi w, vr (17 + c), vi b, vi g] (S I L) = some (some (vi (tot I w c b g)), S I L) := by
  refine Eq.trans (e26_1) ?_
  exact c_tl (d := d) hC hc hb hw (I (hcell I) 0).toNat 0 (by omega)
/-- the reference's row of signs is as it was -/
def MH (I0 J : Fn) : Prop := WM I0 J ∧ ∀ k, 107 ≤ k → k ≤ 112 → ∀ j, J k j = I0 k j
theorem MH.fr {X : List Nat} {I0 J J' : Fn} (h : MH I0 J) (hf : Fr X J J') (hd : (WMr ++ [107, 108, 109, 110, 111, 112]).all (fun a => !X.elem a) = true) : MH I0 J' := by
  have e : ∀ a, a ∈ WMr ++ [107, 108, 109, 110, 111, 112] → X.elem a = false := by
    intro a ha
    have := List.all_eq_true.mp hd a ha
    cases hx : X.elem a with
    | false => rfl
    | true => rw [hx] at this; cases this
  refine ⟨WM_fr h.1 hf (List.all_eq_true.mpr fun a ha => by rw [e a (List.mem_append_left _ ha)]; rfl), fun k h1 h2 j => ?_⟩
  rw [← h.2 k h1 h2 j]
  refine hf.cell ?_ (e k (List.mem_append_right _ ?_)) j
  · rcases (by omega : k = 107 ∨ k = 108 ∨ k = 109 ∨ k = 110 ∨ k = 111 ∨ k = 112) with z | z | z | z | z | z <;> subst z <;> rfl
  · rcases (by omega : k = 107 ∨ k = 108 ∨ k = 109 ∨ k = 110 ∨ k = 111 ∨ k = 112) with z | z | z | z | z | z <;> subst z <;> decide
theorem m_holds_ok {d : Nat} {I0 J L : Fn} {i : Nat} {b g c : Int} (hC : Cur I0 I0) (hM : MH I0 J) (hc : 0 ≤ c ∧ c < 6) (hi : (i : Int) < I0 (hcell I0) 0) (hw : I0 (hcell I0 + 1) i ≠ 3) : ∃ J', CallD (d + 2) 174 [vr 92, vi (hbeg I0 + i), vi c, vi b, vi g] (S J L) = some (some (vi (bI (soC I0 c.toNat b g (hcell I0) i))), S J' L) ∧ Fr [115] J J' := by
  obtain ⟨he, cl⟩ := hC.2.2.2.2.2 i hi
  obtain ⟨c1, c2, ⟨f0, f1, f2⟩, c3⟩ := cl
  obtain ⟨⟨a0, a1, a2⟩, aT, aD⟩ := c3 hw
  have hl := hC.2.1
  have hr := hC.2.2.1
  unfold rng at hl hr
  have eb : hbeg I0 = 10 * I0 10 9 := if_pos he
  have ei : (hbeg I0 + i).toNat = 10 * (I0 10 9).toNat + i := by omega
  have w1 : J 110 (hbeg I0 + i).toNat = I0 110 (10 * (I0 10 9).toNat + i) := by rw [ei]; exact hM.2 110 (by omega) (by omega) _
  have w2 : J 111 (hbeg I0 + i).toNat = I0 111 (10 * (I0 10 9).toNat + i) := by rw [ei]; exact hM.2 111 (by omega) (by omega) _
  generalize hf : frm I0 (hcell I0) i = fr at *
  obtain ⟨J', g1, g2⟩ := m_ho (d := d) (L := L) (b := b) (g := g) (c := c) (ci := hbeg I0 + i) (f := fun k => I0 (hcell I0 + 4) (fr.toNat + k)) (A := (I0 110 (10 * (I0 10 9).toNat + i)).toNat) (N := (I0 (hcell I0 + 3) i - fr).toNat) hM.1 hc (by omega) (by rw [w2]; omega) (by omega) aD (fun k hk => by rw [hM.2 112 (by omega) (by omega)]; exact aT k (by omega)) (I0 (hcell I0 + 3) i - fr).toNat 0 J (by omega) (Fr.refl _ _) trivial
  refine ⟨J', ?_, g2⟩
  rw [show (((I0 110 (10 * (I0 10 9).toNat + i)).toNat + 0 : Nat) : Int) = I0 110 (10 * (I0 10 9).toNat + i) by omega] at g1
  unfold soC
  rw [hf]
  refine Eq.trans (e174_1 (by omega) w1) ?_
  exact g1
theorem m_begin2 {d : Nat} {I0 J L : Fn} (hC : Cur I0 I0) (hM : MH I0 J) : CallD (d + 1) 172 [vr 92] (S J L) = some (some (vi (hbeg I0)), S J L) := by
  have hn := hM.1.2.2.2.2.1
  have hr := hC.2.2.1
  unfold rng at hr
  unfold hbeg
  by_cases e : 0 ≤ I0 10 9
  · rw [if_pos e]
    exact (e172_1 hn (by omega) (w32_id (by omega) (by omega)))
  · rw [if_neg e]
    exact (e172_2 hn (by omega))
theorem m_behind2 {d : Nat} {I0 J L : Fn} (hC : Cur I0 I0) (hM : MH I0 J) : CallD (d + 1) 173 [vr 92] (S J L) = some (some (vi (hbeg I0 + I0 (hcell I0) 0)), S J L) := by
  have hn := hM.1.2.2.2.2.1
  have hr := hC.2.2.1
  have hl := hC.2.1
  unfold rng at hr hl
  unfold hbeg
  by_cases e : 0 ≤ I0 10 9
  · rw [if_pos e]
    exact (e173_1 hn (by omega) (w32_id (by omega) (by omega)) (by omega) ((hM.2 107 (by omega) (by omega) _).trans (hC.2.2.2.1 e)) (w32_id (by omega) (by omega)))
  · rw [if_neg e, hC.2.2.2.2.1 (by omega)]
    exact (e173_2 hn (by omega))
theorem m_tl {d : Nat} {I0 L : Fn} {c b g w : Int} (hC : Cur I0 I0) (hc : 0 ≤ c ∧ c < 6) (hw : w ≠ 3) : ∀ (r i : Nat) (J : Fn), i + r = (I0 (hcell I0) 0).toNat → MH I0 J → ∃ J', y171_9 (CallD (d + 2)) w c b g (totN I0 (hcell I0) w c.toNat b g i) (hbeg I0 + i) J L = some (some (vi (tot I0 w c.toNat b g)), S J' L) ∧ Fr [115] J J'
  | 0, i, J, hi, hM => by
    have hl := hC.2.1
    unfold rng at hl
    have bh := m_behind2 (d := d + 1) (L := L) hC hM
    have e : i = (I0 (hcell I0) 0).toNat := by omega
    refine ⟨J, ?_, Fr.refl _ _⟩
    unfold tot
    rw [← e]
    exact (y171_9_1 bh (by omega))
  | r + 1, i, J, hi, hM => by
    have hl := hC.2.1
    have hr' := hC.2.2.1
    unfold rng at hl hr'
    have bh := m_behind2 (d := d + 1) (L := L) hC hM
    have ih := fun J' (h : MH I0 J') => m_tl (d := d) (L := L) (b := b) (g := g) hC hc hw r (i + 1) J' (by omega) h
    have hq : totN I0 (hcell I0) w c.toNat b g (i + 1) = totN I0 (hcell I0) w c.toNat b g i + (if I0 (hcell I0 + 1) i = w then (if soC I0 c.toNat b g (hcell I0) i = true then I0 (hcell I0 + 2) i else 0) else 0) := rfl
    have hr := totN_rng (w := w) (c := c.toNat) (b := b) (g := g) hC i (by omega)
    obtain ⟨he, cl⟩ := hC.2.2.2.2.2 i (by omega)
    obtain ⟨c1, c2, _⟩ := cl
    have eb : hbeg I0 = 10 * I0 10 9 := if_pos he
    have ei : (hbeg I0 + i).toNat = 10 * (I0 10 9).toNat + i := by omega
    have w1 : J 108 (hbeg I0 + i).toNat = I0 (hcell I0 + 1) i := by rw [ei]; exact (hM.2 108 (by omega) (by omega) _).trans c1.2
    have cr := c2.1
    unfold rng at cr
    rw [show hbeg I0 + ((i + 1 : Nat) : Int) = hbeg I0 + (i : Int) + 1 by omega] at ih
    have z0 : w32 (totN I0 (hcell I0) w c.toNat b g i + 0) = totN I0 (hcell I0) w c.toNat b g i := by rw [Int.add_zero]; exact w32_id (by omega) (by omega)
    by_cases e : I0 (hcell I0 + 1) i = w
    · obtain ⟨J1, so, hf⟩ := m_holds_ok (d := d) (L := L) (i := i) (b := b) (g := g) hC hM hc (by omega) (by rw [e]; exact hw)
      have hM1 := hM.fr hf (by decide)
      obtain ⟨J', g1, g2⟩ := ih J1 hM1
      refine ⟨J', ?_, hf.trans g2⟩
      have w2 : J1 109 (hbeg I0 + i).toNat = I0 (hcell I0 + 2) i := by rw [ei]; exact (hM1.2 109 (by omega) (by omega) _).trans c2.2
      rw [if_pos e] at hq
      cases hs : soC I0 c.toNat b g (hcell I0) i with
      | true =>
        rw [hs] at so hq
        rw [if_pos rfl] at hq
        rw [hq] at g1
        refine Eq.trans (y171_9_4 bh (by omega) (by omega) w1 e so (by decide) w2 (w32_id (by omega) (by omega)) (w32_id (by omega) (by omega))) ?_
        exact g1
      | false =>
        rw [hs] at so hq
        rw [if_neg (by decide), Int.add_zero] at hq
        rw [hq] at g1
        refine Eq.trans (y171_9_3 bh (by omega) (by omega) w1 e so rfl z0 (w32_id (by omega) (by omega))) ?_
        exact g1
    · rw [if_neg e, Int.add_zero] at hq
      obtain ⟨J', g1, g2⟩ := ih J hM
      rw [hq] at g1
      refine ⟨J', ?_, g2⟩
      refine Eq.trans (y171_9_2 bh (by omega) (by omega) w1 e z0 (w32_id (by omega) (by omega))) ?_
      exact g1
theorem m_sumOf_ok {d : Nat} {I0 J L : Fn} {c b g w : Int} (hC : Cur I0 I0) (hM : MH I0 J) (hc : 0 ≤ c ∧ c < 6) (hw : w ≠ 3) : ∃ J', CallD (d + 3) 171 [vr 92, vi w, vi c, vi b, vi g] (S J L) = some (some (vi (tot I0 w c.toNat b g)), S J' L) ∧ Fr [115] J J' := by
  obtain ⟨J', g1, g2⟩ := m_tl (d := d) (L := L) (b := b) (g := g) hC hc hw (I0 (hcell I0) 0).toNat 0 J (by omega) hM
  refine ⟨J', ?_, g2⟩
  rw [show hbeg I0 + ((0 : Nat) : Int) = hbeg I0 by omega] at g1
  refine Eq.trans (e171_1 (m_begin2 hC hM)) ?_
  exact g1
