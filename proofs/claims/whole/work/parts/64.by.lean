/-! BY, WHERE: the class -/
theorem Fr.ne {I I' : Fn} {k : Nat} (h : ∀ a b, a ≠ k → I' a b = I a b) (hk : (Nat.beq k 92 || (Nat.beq k 10 || Nat.beq k 36)) = false) : Fr [k] I I' := by
  intro a b e
  refine h a b (fun q => ?_)
  subst q
  have : ky a b = a := by
    unfold ky
    cases h1 : Nat.beq a 92 <;> cases h2 : Nat.beq a 10 <;> cases h3 : Nat.beq a 36 <;> rw [h1, h2, h3] at hk <;> first | (cases hk; done) | rfl
  rw [this] at e
  have z : ([a] : List Nat).elem a = true := List.elem_iff.mpr (List.mem_cons_self)
  rw [z] at e; cases e
theorem c_fl {d k n : Nat} {v : Int} {I L : Fn} (hk : nth K0 k = some (100, n)) (h9 : 9 ≤ k) (hn : n < 1000000) (hk2 : (Nat.beq k 92 || (Nat.beq k 10 || Nat.beq k 36)) = false) : ∃ I', CallD (d + 1) 11 [vr k, vi v] (S I L) = some (none, S I' L) ∧ ((∀ j : Nat, j < n → I' k j = v) ∧ Fr [k] I I') := by
  obtain ⟨I', h1, h2, h3⟩ := c_fill (d := d) (v := v) (I := I) (L := L) hk h9 hn
  exact ⟨I', h1, h2, Fr.ne h3 hk2⟩
theorem c_sp {d : Nat} {I J0 L : Fn} {c : Nat} {t g : Int} {w : Nat → Int} (h : Rel I L) (hc : c < 6) (ht : I (17 + c) 4 = t) (hJ : Fr SCR I J0) (hF : FarC I J0 t.toNat) (hw : ∀ j, j < 8 → J0 80 j = w j ∧ 0 ≤ w j) (hs : sm w ≤ 100000) : ∀ (r x : Nat) (J : Fn), x + r = 8 → Fr [81] J0 J → (∀ j, j < 8 → J 81 j = spr I c t g w x j) → ∃ J', y69_10 (CallD (d + 5)) (17 + c) g x J L = some (none, S (cpy J' 81 0 80 0 8) L) ∧ (Fr [81] J0 J' ∧ ∀ j, j < 8 → J' 81 j = spr I c t g w 8 j)
  | 0, x, J, hx, hf, hm => by
    have : x = 8 := by omega
    subst this
    refine ⟨J, ?_, hf, hm⟩
    exact (y69_10_1 (by omega))
  | r + 1, x, J, hx, hf, hm => by
    have hB := h.1.1
    have hk := K0bag hc
    have fS : Fr SCR I J := hJ.trans (hf.mono (by decide))
    have hRJ := h.scr fS (Fr.refl SCL L)
    have g4 : J (17 + c) 4 = t := (fS.bag (by decide) hc 4).trans ht
    have e80 : J 80 x = w x := (hf 80 x rfl).trans (hw x (by omega)).1
    have wx := (hw x (by omega)).2
    have hnn : ∀ j, j < 8 → 0 ≤ w j := fun j hj => (hw j hj).2
    have sle := sm_le hnn (j := x) (by omega)
    have ih := fun J' => c_sp (d := d) (g := g) h hc ht hJ hF hw hs r (x + 1) J' (by omega)
    rw [show ((x + 1 : Nat) : Int) = (x : Int) + 1 by omega] at ih
    have bd : ∀ j, j < 8 → 0 ≤ spr I c t g w x j ∧ spr I c t g w x j + 10 * w x ≤ 1000000 := by
      intro j hj
      have := spr_le (c := c) (t := t) (g := g) hB hnn (x := x) (by omega) hj
      omega
    by_cases w0 : w x = 0
    · obtain ⟨J', q1, q2⟩ := ih J hf (fun j hj => by
        rw [hm j hj]
        show spr I c t g w x j = spr I c t g w x j + ctb I c t g w x j
        have : ctb I c t g w x j = 0 := by
          unfold ctb
          rw [w0, Int.zero_mul, Int.zero_mul, Int.zero_mul]
          repeat' split
          all_goals rfl
        omega)
      refine ⟨J', ?_, q2⟩
      refine Eq.trans (y69_10_4 (by omega) (by omega) (show _ = w x from e80) (by omega) (w32_id (by omega) (by omega))) ?_
      exact q1
    · by_cases e : (x : Int) = t
      · have bx := bd x (by omega)
        obtain ⟨J', q1, q2⟩ := ih (up J 81 x (spr I c t g w x x + w x * 10)) (hf.up rfl) (fun j hj => by
          have hj' : ctb I c t g w x j = if j = x then w x * 10 else 0 := if_pos e
          show _ = spr I c t g w x j + ctb I c t g w x j
          rw [hj', up_eq]
          by_cases z : j = x
          · rw [if_pos ⟨rfl, z⟩, if_pos z, z]
          · rw [if_neg (fun y => z y.2), if_neg z, hm j hj]; omega)
        refine ⟨J', ?_, q2⟩
        refine Eq.trans (y69_10_3 (by omega) (by omega) (show _ = w x from e80) (by omega) (by assumption) g4 (by omega) (hm x (by omega)) (show _ = w x * 10 from w32_id (by omega) (by omega)) (w32_id (by omega) (by omega)) (w32_id (by omega) (by omega))) ?_
        exact q1
      · have hr := rdS_rng (t := t.toNat) hB (b := x) (by omega)
        have hfi := (hB x (by omega)).1
        have hp := part_nn (w := w x) (s := sn I c x g) wx (sn_rng I c x g)
        have hq := sn_rng I c x g
        have se := c_seen (d := d) (L := L) (b := x) (g := g) hRJ hc
        rw [sn_fr h.cur fS hc] at se
        have hFJ := hF.fr hf (by decide) (by decide) (by decide)
        have rt := c_readTo (d := d + 4) (L := L) (b := (x : Int)) hB hFJ (by omega)
        rw [Int.toNat_natCast] at rt
        have f1 := (hFJ x (by omega)).1
        generalize hrd : rdS I t.toNat x = rd at *
        generalize hfs : I 11 x = fs at *
        generalize hsn : sn I c x g = s at *
        generalize hp1 : w x * s = p1 at *
        generalize hp2 : w x * (10 - s) = p2 at *
        have br := bd rd.toNat (by omega)
        have bf := bd fs.toNat (by omega)
        have hct : ∀ j, ctb I c t g w x j = (if j = rd.toNat then p1 else 0) + (if j = fs.toNat then p2 else 0) := by
          intro j
          unfold ctb
          rw [if_neg e, hrd, hfs, hsn, hp1, hp2]
        obtain ⟨J', q1, q2⟩ := ih (up (up J 81 rd.toNat (spr I c t g w x rd.toNat + p1)) 81 fs.toNat ((if fs.toNat = rd.toNat then spr I c t g w x rd.toNat + p1 else spr I c t g w x fs.toNat) + p2)) ((hf.up rfl).up rfl) (fun j hj => by
          show _ = spr I c t g w x j + ctb I c t g w x j
          rw [hct, up_eq, up_eq]
          by_cases z : j = fs.toNat
          · rw [if_pos ⟨rfl, z⟩, if_pos z, z]
            by_cases z2 : fs.toNat = rd.toNat
            · rw [if_pos z2, if_pos z2, z2]; omega
            · rw [if_neg z2, if_neg z2]; omega
          · rw [if_neg (fun y => z y.2), if_neg z]
            by_cases z2 : j = rd.toNat
            · rw [if_pos ⟨rfl, z2⟩, if_pos z2, z2]; omega
            · rw [if_neg (fun y => z2 y.2), if_neg z2, hm j hj]; omega)
        refine ⟨J', ?_, q2⟩
        have v12 : (up J 81 rd.toNat (spr I c t g w x rd.toNat + p1)) 81 fs.toNat = if fs.toNat = rd.toNat then spr I c t g w x rd.toNat + p1 else spr I c t g w x fs.toNat := by
          rw [up_eq]
          by_cases z2 : fs.toNat = rd.toNat
          · rw [if_pos ⟨rfl, z2⟩, if_pos z2]
          · rw [if_neg (fun y => z2 y.2), if_neg z2, hm _ (by omega)]
        have bi : 0 ≤ (if fs.toNat = rd.toNat then spr I c t g w x rd.toNat + p1 else spr I c t g w x fs.toNat) ∧ (if fs.toNat = rd.toNat then spr I c t g w x rd.toNat + p1 else spr I c t g w x fs.toNat) + p2 ≤ 1000000 := by
          split <;> omega
        refine Eq.trans (y69_10_2 (by omega) (by omega) (show _ = w x from e80) (by omega) (by assumption) g4 (by omega) se rt (by omega) (hm rd.toNat (by omega)) (show _ = w x from e80) (show _ = p1 from by rw [hp1]; exact w32_id (by omega) (by omega)) (show _ = spr I c t g w x rd.toNat + p1 from w32_id (by omega) (by omega)) f1 (by omega) v12 (show _ = 10 - s from w32_id (by omega) (by omega)) (show _ = p2 from by rw [hp2]; exact w32_id (by omega) (by omega)) (w32_id (by omega) (by omega)) (w32_id (by omega) (by omega))) ?_
        exact q1
theorem cpy_fr {X : List Nat} {I J : Fn} {s sp k dp n : Nat} (h : Fr X I J) (hX : ∀ b, X.elem (ky k b) = true) : Fr X I (cpy J s sp k dp n) := by
  intro a b e
  rw [cpy_ne]
  · exact h a b e
  · intro q
    subst q
    rw [hX b] at e; cases e
theorem c_spread {d : Nat} {I J L : Fn} {c : Nat} {t g : Int} {w : Nat → Int} (h : Rel I L) (hc : c < 6) (ht : I (17 + c) 4 = t) (hJ : Fr SCR I J) (hF : FarC I J t.toNat) (hw : ∀ j, j < 8 → J 80 j = w j ∧ 0 ≤ w j) (hs : sm w ≤ 100000) : ∃ J', CallD (d + 6) 69 [vr 79, vr (17 + c), vi g] (S J L) = some (none, S J' L) ∧ (Fr [80, 81] J J' ∧ ∀ j, j < 8 → J' 80 j = spr I c t g w 8 j) := by
  obtain ⟨J1, f1, f2, f3⟩ := c_fl (d := d + 4) (k := 81) (n := 8) (v := 0) (I := J) (L := L) rfl (by decide) (by decide) rfl
  obtain ⟨J2, g1, g2, g3⟩ := c_sp (d := d) (g := g) h hc ht (hJ.trans (f3.mono (by decide))) (hF.fr f3 (by decide) (by decide) (by decide)) (fun j hj => ⟨(f3 80 j rfl).trans (hw j hj).1, (hw j hj).2⟩) hs 8 0 J1 (by omega) (Fr.refl _ _) (fun j hj => f2 j hj)
  refine ⟨cpy J2 81 0 80 0 8, ?_, cpy_fr ((f3.mono (by decide)).trans (g2.mono (by decide))) (fun _ => rfl), fun j hj => ?_⟩
  · refine Eq.trans (e69_1 f1) ?_
    exact g1
  · rw [cpyz, if_pos ⟨rfl, hj⟩]
    exact g3 j hj
theorem c_shl {d : Nat} {I L : Fn} {c : Nat} {n b p : Int} (h : Rel I L) (hc : c < 6) (hn : 0 ≤ n ∧ n ≤ 6) (hb : 0 ≤ b ∧ b < 8) : ∀ (r i : Nat) (J : Fn), i + r = n → Fr SCR I J → FarC I J (I (17 + c) 4).toNat → (∀ j, j < 8 → J 80 j = wts I c i j) → ∃ J', y68_35 (CallD (d + 6)) (17 + c) n b p (pw i) i J L = some (some (vl (lwv (wts I c n.toNat b.toNat) (pw n.toNat) p)), S J' L) ∧ Fr SCR I J'
  | 0, i, J, hi, hJ, hF, hw => by
    have e : n.toNat = i := by omega
    rw [e]
    obtain ⟨s1, s2⟩ := wts_sm h.1.1 (h.bagC hc) i
    have sl := sm_le (f := wts I c i) (fun j _ => s2 j) (j := b.toNat) (by omega)
    have := s2 b.toNat
    have := pw_rng i (by omega)
    refine ⟨J, ?_, hJ⟩
    exact (y68_35_1 (by omega) (by omega) (hw b.toNat (by omega)) (c_lowest (d := d + 5) (by omega) (by omega)))
  | r + 1, i, J, hi, hJ, hF, hw => by
    have hk := K0bag hc
    have hbc := h.bagC hc
    obtain ⟨s1, s2⟩ := wts_sm h.1.1 hbc i
    have hp := pw_rng5 i (by omega)
    have g7 : J (17 + c) 7 = I (17 + c) 7 := hJ.bag (by decide) hc 7
    have b7 := hbc.2.2.2.2.2.2.2
    unfold rng at b7
    obtain ⟨J1, f1, f2, f3⟩ := c_spread (d := d) (g := I (17 + c) 7 + i) h hc rfl hJ hF (fun j hj => ⟨hw j hj, s2 j⟩) (by rw [s1]; exact hp)
    obtain ⟨J', g1, g2⟩ := c_shl (d := d) (p := p) h hc hn hb r (i + 1) J1 (by omega) (hJ.trans (f2.mono (by decide))) (hF.fr f2 (by decide) (by decide) (by decide)) f3
    refine ⟨J', ?_, g2⟩
    rw [show ((i + 1 : Nat) : Int) = (i : Int) + 1 by omega] at g1
    have hp0 := pw_rng i (by omega)
    refine Eq.trans (y68_35_2 (by omega) (by assumption) g7 (w32_id (by omega) (by omega)) f1 (show _ = pw i * 10 from w32_id (by omega) (by omega)) (w32_id (by omega) (by omega))) ?_
    exact g1
/-- Odds.shareOn -/
theorem c_share {d : Nat} {I L : Fn} {c : Nat} {n b p : Int} (h : Rel I L) (hc : c < 6) (hn : 0 ≤ n ∧ n ≤ 6) (hb : 0 ≤ b ∧ b < 8) : ∃ J', CallD (d + 7) 68 [vr 79, vr (17 + c), vi n, vi b, vi p] (S I L) = some (some (vl (lwv (wts I c n.toNat b.toNat) (pw n.toNat) p)), S J' L) ∧ Fr SCR I J' := by
  have hk := K0bag hc
  have hbc := h.bagC hc
  obtain ⟨b0, b1, b2, b3, b4, b5⟩ := hbc
  unfold rng at b3 b4
  obtain ⟨J1, h1, h2, h3⟩ := c_meas (d := d + 4) (L := L) h.1.1 (t := I (17 + c) 4) (by omega)
  obtain ⟨J2, f1, f2, f3⟩ := c_fl (d := d + 5) (k := 80) (n := 8) (v := 0) (I := J1) (L := L) rfl (by decide) (by decide) rfl
  have fS : Fr SCR I J2 := (h2.mono (by decide)).trans (f3.mono (by decide))
  have g3 : J2 (17 + c) 3 = I (17 + c) 3 := fS.bag (by decide) hc 3
  obtain ⟨J', g1, g2⟩ := c_shl (d := d) (p := p) h hc hn hb n.toNat 0 (up J2 80 (I (17 + c) 3).toNat 1) (by omega) (fS.up rfl) ((h3.fr f3 (by decide) (by decide) (by decide)).fr ((Fr.refl [80] J2).up rfl) (by decide) (by decide) (by decide)) (fun j hj => by
    show _ = if (j : Int) = I (17 + c) 3 then 1 else 0
    rw [up_eq]
    by_cases z : (j : Int) = I (17 + c) 3
    · rw [if_pos z, if_pos ⟨rfl, by omega⟩]
    · rw [if_neg z, if_neg (by omega)]; exact f2 j hj)
  refine ⟨J', ?_, g2⟩
  refine Eq.trans (e68_1 (by assumption) rfl h1 f1 g3 (by omega)) ?_
  exact g1
