/-! BY, WHERE: the reference -/
def msp (I : Fn) (c : Nat) (t g : Int) (w : Nat → Int) (x j : Nat) : Int := spr I c t g w x j + (if (j : Int) = t ∧ (x : Int) ≤ t then 10 * w j else 0)
theorem msp_at {I : Fn} {c : Nat} {t g : Int} {w : Nat → Int} {x j : Nat} (e : (x : Int) = t) : msp I c t g w (x + 1) j = msp I c t g w x j := by
  unfold msp
  show spr I c t g w x j + ctb I c t g w x j + _ = _
  unfold ctb
  rw [if_pos e, if_neg (show ¬ ((j : Int) = t ∧ ((x + 1 : Nat) : Int) ≤ t) by omega)]
  by_cases z : j = x
  · rw [if_pos z, if_pos (by omega), z]; omega
  · rw [if_neg z, if_neg (by omega)]; omega
theorem msp_ne {I : Fn} {c : Nat} {t g : Int} {w : Nat → Int} {x j : Nat} (e : ¬ (x : Int) = t) : msp I c t g w (x + 1) j = msp I c t g w x j + ctb I c t g w x j := by
  unfold msp
  show spr I c t g w x j + ctb I c t g w x j + _ = _
  by_cases z : (j : Int) = t ∧ (x : Int) ≤ t
  · rw [if_pos z, if_pos (by omega)]; omega
  · rw [if_neg z, if_neg (by omega)]; omega
theorem m_wi {F : Cal} {I J L0 : Fn} {c n : Int} (hM : MH I J) (hc : 0 ≤ c ∧ c < 6) : ∀ (r x : Nat) (L : Fn), x + r = 8 → Fr [116] L0 L → (∀ j, j < x → L 116 j = wts I c.toNat 0 j) → ∃ L', y180_12 F c n x J L = y180_47 F c n 0 J L' ∧ (Fr [116] L0 L' ∧ ∀ j, j < 8 → L' 116 j = wts I c.toNat 0 j)
  | 0, x, L, hx, hf, hm => by
    have : x = 8 := by omega
    subst this
    refine ⟨L, ?_, hf, hm⟩
    exact (y180_12_1 (by omega))
  | r + 1, x, L, hx, hf, hm => by
    have hb := (hM.1.2.2.2.2.2.1.at (c := c.toNat) (by omega)).2.2.1
    have ih := fun L' => m_wi (F := F) (n := n) (L0 := L0) hM hc r (x + 1) L' (by omega)
    rw [show ((x + 1 : Nat) : Int) = (x : Int) + 1 by omega] at ih
    by_cases e : (x : Int) = I (17 + c.toNat) 3
    · obtain ⟨L', h1, h2⟩ := ih (up L 116 x 1) (hf.up rfl) (fun j hj => by
        rw [up_eq]
        by_cases z : j = x
        · rw [if_pos ⟨rfl, z⟩, z]; exact (if_pos e).symm
        · rw [if_neg (fun y => z y.2)]; exact hm j (by omega))
      refine ⟨L', ?_, h2⟩
      refine Eq.trans (y180_12_3 (by omega) (by omega) hb (by omega) (by omega) (w32_id (by omega) (by omega))) ?_
      exact h1
    · obtain ⟨L', h1, h2⟩ := ih (up L 116 x 0) (hf.up rfl) (fun j hj => by
        rw [up_eq]
        by_cases z : j = x
        · rw [if_pos ⟨rfl, z⟩, z]; exact (if_neg e).symm
        · rw [if_neg (fun y => z y.2)]; exact hm j (by omega))
      refine ⟨L', ?_, h2⟩
      refine Eq.trans (y180_12_2 (by omega) (by omega) hb (by omega) (by omega) (w32_id (by omega) (by omega))) ?_
      exact h1
theorem m_wt {F : Cal} {I J L0 : Fn} {c n k g : Int} {w : Nat → Int} (hM : MH I J) (hc : 0 ≤ c ∧ c < 6) (hw : ∀ j, j < 8 → L0 116 j = w j ∧ (0 ≤ w j ∧ w j ≤ 1000000)) : ∀ (r x : Nat) (L : Fn), x + r = 8 → Fr [117] L0 L → (∀ j, j < x → L 117 j = msp I c.toNat (I (17 + c.toNat) 4) g w 0 j) → (0 ≤ I (17 + c.toNat) 4) → ∃ L', y180_55 F c n k x J L = y180_104 F c n k 0 J L' ∧ (Fr [117] L0 L' ∧ ∀ j, j < 8 → L' 117 j = msp I c.toNat (I (17 + c.toNat) 4) g w 0 j)
  | 0, x, L, hx, hf, hm, h0 => by
    have : x = 8 := by omega
    subst this
    refine ⟨L, ?_, hf, hm⟩
    exact (y180_55_1 (by omega))
  | r + 1, x, L, hx, hf, hm, h0 => by
    have hb := (hM.1.2.2.2.2.2.1.at (c := c.toNat) (by omega)).2.2.2.1
    have ih := fun L' h1 h2 => m_wt (F := F) (n := n) (k := k) (g := g) hM hc hw r (x + 1) L' (by omega) h1 h2 h0
    rw [show ((x + 1 : Nat) : Int) = (x : Int) + 1 by omega] at ih
    have hwx := hw x (by omega)
    have e116 : L 116 x = w x := (hf 116 x rfl).trans hwx.1
    by_cases e : (x : Int) = I (17 + c.toNat) 4
    · obtain ⟨L', h1, h2⟩ := ih (up L 117 x (10 * w x)) (hf.up rfl) (fun j hj => by
        rw [up_eq]
        by_cases z : j = x
        · rw [if_pos ⟨rfl, z⟩, z]
          unfold msp
          rw [if_pos ⟨e, h0⟩]
          show _ = 0 + 10 * w x
          omega
        · rw [if_neg (fun y => z y.2)]; exact hm j (by omega))
      refine ⟨L', ?_, h2⟩
      refine Eq.trans (y180_55_3 (by omega) (by omega) hb (by omega) (by omega) (show _ = w x from e116) (show _ = 10 * w x from w64_id (by omega) (by omega)) (w32_id (by omega) (by omega))) ?_
      exact h1
    · obtain ⟨L', h1, h2⟩ := ih (up L 117 x 0) (hf.up rfl) (fun j hj => by
        rw [up_eq]
        by_cases z : j = x
        · rw [if_pos ⟨rfl, z⟩, z]
          unfold msp
          rw [if_neg (fun y => e y.1)]; rfl
        · rw [if_neg (fun y => z y.2)]; exact hm j (by omega))
      refine ⟨L', ?_, h2⟩
      refine Eq.trans (y180_55_2 (by omega) (by omega) hb (by omega) (by omega) (w32_id (by omega) (by omega))) ?_
      exact h1
theorem m_wc {F : Cal} {J L0 : Fn} {c n k : Int} {v : Nat → Int} (hk : 0 ≤ k ∧ k < 100) (hv : ∀ j, j < 8 → L0 117 j = v j) : ∀ (r x : Nat) (L : Fn), x + r = 8 → Fr [116] L0 L → (∀ j, j < x → L 116 j = v j) → ∃ L', y180_218 F c n k x J L = y180_47 F c n (k + 1) J L' ∧ (Fr [116] L0 L' ∧ ∀ j, j < 8 → L' 116 j = v j)
  | 0, x, L, hx, hf, hm => by
    have : x = 8 := by omega
    subst this
    refine ⟨L, ?_, hf, hm⟩
    exact (y180_218_1 (by omega) (w32_id (by omega) (by omega)))
  | r + 1, x, L, hx, hf, hm => by
    have ih := m_wc (F := F) (J := J) (c := c) (n := n) (L0 := L0) hk hv r (x + 1) (up L 116 x (v x)) (by omega) (hf.up rfl) (fun j hj => by
      rw [up_eq]
      by_cases z : j = x
      · rw [if_pos ⟨rfl, z⟩, z]
      · rw [if_neg (fun y => z y.2)]; exact hm j (by omega))
    rw [show ((x + 1 : Nat) : Int) = (x : Int) + 1 by omega] at ih
    obtain ⟨L', h1, h2⟩ := ih
    refine ⟨L', ?_, h2⟩
    refine Eq.trans (y180_218_2 (by omega) (by omega) (show _ = v x from (hf 117 x rfl).trans (hv x (by omega))) (w32_id (by omega) (by omega))) ?_
    exact h1
theorem m_ws {d : Nat} {I K L0 : Fn} {c n k : Int} {w : Nat → Int} (hB : Bts I) (hC : Cur I I) (hb : BagC I c.toNat) (hM : MH I K) (hF : FarM I K (I (17 + c.toNat) 4).toNat) (hc : 0 ≤ c ∧ c < 6) (hk : 0 ≤ k ∧ k < 100) (hw : ∀ j, j < 8 → L0 116 j = w j ∧ 0 ≤ w j) (hs : sm w ≤ 100000) : ∀ (r x : Nat) (J L : Fn), x + r = 8 → Fr [115] K J → Fr [117] L0 L → (∀ j, j < 8 → L 117 j = msp I c.toNat (I (17 + c.toNat) 4) (I (17 + c.toNat) 7 + k) w x j) → ∃ J' L', y180_104 (CallD (d + 5)) c n k x J L = y180_218 (CallD (d + 5)) c n k 0 J' L' ∧ (Fr [115] K J' ∧ (Fr [117] L0 L' ∧ ∀ j, j < 8 → L' 117 j = spr I c.toNat (I (17 + c.toNat) 4) (I (17 + c.toNat) 7 + k) w 8 j))
  | 0, x, J, L, hx, hJ, hf, hm => by
    have : x = 8 := by omega
    subst this
    obtain ⟨b0, b1, b2, b3, b4, b5⟩ := hb
    unfold rng at b4
    refine ⟨J, L, ?_, hJ, hf, fun j hj => ?_⟩
    · exact (y180_104_1 (by omega))
    · rw [hm j hj]
      unfold msp
      rw [if_neg (by omega)]; omega
  | r + 1, x, J, L, hx, hJ, hf, hm => by
    have hMJ := hM.fr hJ (by decide)
    have hFJ := hF.fr hJ (by decide) (by decide) (by decide)
    have hmb := hMJ.1.2.2.2.2.2.1.at (c := c.toNat) (by omega)
    have m4 := hmb.2.2.2.1
    have m7 := hmb.2.2.2.2.2.2.1
    have hbc := hb
    obtain ⟨b0, b1, b2, b3, b4, b5, b6, b7⟩ := hbc
    unfold rng at b4 b7
    have hnn : ∀ j, j < 8 → 0 ≤ w j := fun j hj => (hw j hj).2
    have e116 : L 116 x = w x := (hf 116 x rfl).trans (hw x (by omega)).1
    have ih := fun J' L' => m_ws (d := d) (n := n) hB hC hb hM hF hc hk hw hs r (x + 1) J' L' (by omega)
    rw [show ((x + 1 : Nat) : Int) = (x : Int) + 1 by omega] at ih
    generalize ht : I (17 + c.toNat) 4 = t at *
    generalize hg : I (17 + c.toNat) 7 + k = g at *
    by_cases e : (x : Int) = t
    · obtain ⟨J', L', h1, h2⟩ := ih J L hJ hf (fun j hj => by rw [msp_at e]; exact hm j hj)
      refine ⟨J', L', ?_, h2⟩
      refine Eq.trans (y180_104_2 (by omega) (by omega) m4 (by omega) (w32_id (by omega) (by omega))) ?_
      exact h1
    by_cases w0 : w x = 0
    · obtain ⟨J', L', h1, h2⟩ := ih J L hJ hf (fun j hj => by
        rw [msp_ne e, hm j hj]
        unfold ctb
        rw [w0, if_neg e, Int.zero_mul, Int.zero_mul]
        repeat' split
        all_goals omega)
      refine ⟨J', L', ?_, h2⟩
      refine Eq.trans (y180_104_4 (by omega) (by omega) m4 (by omega) (by omega) (show _ = w x from e116) (by omega) (w32_id (by omega) (by omega))) ?_
      exact h1
    · have wx := (hw x (by omega)).2
      have sle := sm_le hnn (j := x) (by omega)
      have hp := part_nn (w := w x) (s := sn I c.toNat x g) wx (sn_rng I c.toNat x g)
      have hq := sn_rng I c.toNat x g
      have bd : ∀ j, j < 8 → 0 ≤ msp I c.toNat t g w x j ∧ msp I c.toNat t g w x j ≤ 100000000 := by
        intro j hj
        have h1 := spr_le (c := c.toNat) (t := t) (g := g) hB hnn (x := x) (by omega) hj
        have h2 := sm_le hnn hj
        have h3 := hnn j hj
        unfold msp
        split <;> omega
      obtain ⟨J1, se, fs⟩ := m_seen_ok (d := d) (L := L) (c := c) (b := x) (g := g) hC hMJ hb hc
      have hF1 := hFJ.fr fs (by decide) (by decide) (by decide)
      have s1 := m_step_ok (d := d + 4) (L := L) (w := 1) (b := (x : Int)) hB hF1 (by omega)
      have r1 := stS_rng (I := I) (t := t.toNat) (w := 1) (b := x) hB (by omega)
      have r0 := stS_rng (I := I) (t := t.toNat) (w := 0) (b := x) hB (by omega)
      have q1 : stS I t.toNat 1 x = rdS I t.toNat x := rfl
      have q0 : stS I t.toNat 0 x = I 11 x := rfl
      have hct : ∀ j, ctb I c.toNat t g w x j = (if j = (stS I t.toNat 1 x).toNat then w x * sn I c.toNat x g else 0) + (if j = (stS I t.toNat 0 x).toNat then w x * (10 - sn I c.toNat x g) else 0) := by
        intro j
        unfold ctb
        rw [if_neg e, q1, q0]
      have s0 := fun L' => m_step_ok (d := d + 4) (L := L') (w := 0) (b := (x : Int)) hB hF1 (by omega)
      rw [Int.toNat_natCast] at s1
      simp only [Int.toNat_natCast] at s0
      have sI : (I (17 + c.toNat) 7 + k) = g := hg
      generalize hrd : stS I t.toNat 1 x = rd at *
      generalize hfi : stS I t.toNat 0 x = fi at *
      generalize hsn : sn I c.toNat x g = s at *
      generalize hp1 : w x * s = p1 at *
      generalize hp2 : w x * (10 - s) = p2 at *
      have br := bd rd.toNat (by omega)
      have bf := bd fi.toNat (by omega)
      obtain ⟨J', L', h1, h2⟩ := ih J1 (up (up L 117 rd.toNat (msp I c.toNat t g w x rd.toNat + p1)) 117 fi.toNat ((if fi.toNat = rd.toNat then msp I c.toNat t g w x rd.toNat + p1 else msp I c.toNat t g w x fi.toNat) + p2)) (hJ.trans fs) ((hf.up rfl).up rfl) (fun j hj => by
        rw [msp_ne e, hct, up_eq, up_eq]
        by_cases z : j = fi.toNat
        · rw [if_pos ⟨rfl, z⟩, if_pos z, z]
          by_cases z2 : fi.toNat = rd.toNat
          · rw [if_pos z2, if_pos z2, z2]; omega
          · rw [if_neg z2, if_neg z2]; omega
        · rw [if_neg (fun y => z y.2), if_neg z]
          by_cases z2 : j = rd.toNat
          · rw [if_pos ⟨rfl, z2⟩, if_pos z2, z2]; omega
          · rw [if_neg (fun y => z2 y.2), if_neg z2, hm j hj]; omega)
      refine ⟨J', L', ?_, h2⟩
      have v15 : (up L 117 rd.toNat (msp I c.toNat t g w x rd.toNat + p1)) 117 fi.toNat = if fi.toNat = rd.toNat then msp I c.toNat t g w x rd.toNat + p1 else msp I c.toNat t g w x fi.toNat := by
        rw [up_eq]
        by_cases z2 : fi.toNat = rd.toNat
        · rw [if_pos ⟨rfl, z2⟩, if_pos z2]
        · rw [if_neg (fun y => z2 y.2), if_neg z2, hm _ (by omega)]
      have bi : 0 ≤ (if fi.toNat = rd.toNat then msp I c.toNat t g w x rd.toNat + p1 else msp I c.toNat t g w x fi.toNat) ∧ (if fi.toNat = rd.toNat then msp I c.toNat t g w x rd.toNat + p1 else msp I c.toNat t g w x fi.toNat) + p2 ≤ 1000000000 := by
        split <;> omega
      have w16 : (up L 117 rd.toNat (msp I c.toNat t g w x rd.toNat + p1)) 116 x = w x := by rw [up_ne (by decide)]; exact e116
      refine Eq.trans (y180_104_3 (by omega) (by omega) m4 (by omega) (by omega) (show _ = w x from e116) (by omega) m7 (show _ = g from by rw [sI]; exact w32_id (by omega) (by omega)) se s1 (by omega) (hm rd.toNat (by omega)) (show _ = w x from e116) (show _ = p1 from by rw [Int.mul_comm, hp1]; exact w64_id (by omega) (by omega)) (show _ = msp I c.toNat t g w x rd.toNat + p1 from w64_id (by omega) (by omega)) (s0 _) (by omega) v15 (show _ = 10 - s from w32_id (by omega) (by omega)) w16 (show _ = p2 from by rw [Int.mul_comm, hp2]; exact w64_id (by omega) (by omega)) (w64_id (by omega) (by omega)) (w32_id (by omega) (by omega))) ?_
      exact h1
theorem m_wl {d : Nat} {I K : Fn} {c n : Int} (h : Rel I K) (hc : 0 ≤ c ∧ c < 6) (hn : 0 ≤ n ∧ n ≤ 6) : ∀ (r k : Nat) (J L : Fn), k + r = n → MH I J → FarM I J (I (17 + c.toNat) 4).toNat → (∀ j, j < 8 → L 116 j = wts I c.toNat k j) → ∃ J' L', y180_47 (CallD (d + 5)) c n k J L = some (none, S J' L') ∧ (Fr [115] J J' ∧ (Fr [116, 117] L L' ∧ ∀ j, j < 8 → L' 116 j = wts I c.toNat n.toNat j))
  | 0, k, J, L, hk, hM, hF, hw => by
    have e : n.toNat = k := by omega
    rw [e]
    refine ⟨J, L, ?_, Fr.refl _ _, Fr.refl _ _, hw⟩
    exact (y180_47_1 (by omega))
  | r + 1, k, J, L, hk, hM, hF, hw => by
    have hB := h.1.1
    have hb := h.bagC (c := c.toNat) (by omega)
    obtain ⟨s1, s2⟩ := wts_sm hB hb k
    have hp := pw_rng5 k (by omega)
    have hbc := hb
    obtain ⟨b0, b1, b2, b3, b4, b5, b6, b7⟩ := hbc
    unfold rng at b4 b7
    obtain ⟨L1, f1, f2, f3⟩ := m_wt (F := CallD (d + 5)) (J := J) (c := c) (n := n) (k := k) (g := I (17 + c.toNat) 7 + k) (w := wts I c.toNat k) hM hc (fun j hj => ⟨hw j hj, s2 j, by
      have := sm_le (f := wts I c.toNat k) (fun j _ => s2 j) hj
      omega⟩) 8 0 L (by omega) (Fr.refl _ _) (fun j hj => by omega) (by omega)
    have hw1 : ∀ j, j < 8 → L1 116 j = wts I c.toNat k j ∧ 0 ≤ wts I c.toNat k j := fun j hj => ⟨(f2 116 j rfl).trans (hw j hj), s2 j⟩
    obtain ⟨J2, L2, g1, g2, g3, g4⟩ := m_ws (d := d) (n := n) hB h.cur hb hM hF hc (k := k) (by omega) hw1 (by rw [s1]; exact hp) 8 0 J L1 (by omega) (Fr.refl _ _) (Fr.refl _ _) f3
    obtain ⟨L3, e1, e2, e3⟩ := m_wc (F := CallD (d + 5)) (J := J2) (c := c) (n := n) (k := k) (by omega) g4 8 0 L2 (by omega) (Fr.refl _ _) (fun j hj => by omega)
    obtain ⟨J', L', q1, q2, q3, q4⟩ := m_wl (d := d) h hc hn r (k + 1) J2 L3 (by omega) (hM.fr g2 (by decide)) (hF.fr g2 (by decide) (by decide) (by decide)) e3
    refine ⟨J', L', ?_, g2.trans q2, (((f2.mono (by decide)).trans (g3.mono (by decide))).trans (e2.mono (by decide))).trans q3, q4⟩
    rw [show ((k + 1 : Nat) : Int) = (k : Int) + 1 by omega] at q1
    refine Eq.trans (y180_47_2 (by omega)) ?_
    rw [show (0 : Int) = ((0 : Nat) : Int) from rfl, f1]
    rw [show (0 : Int) = ((0 : Nat) : Int) from rfl, g1]
    rw [show (0 : Int) = ((0 : Nat) : Int) from rfl, e1]
    exact q1
theorem m_layW {d : Nat} {I J L K : Fn} {c n : Int} (h : Rel I K) (hM : MH I J) (hc : 0 ≤ c ∧ c < 6) (hn : 0 ≤ n ∧ n ≤ 6) : ∃ J' L', CallD (d + 6) 180 [vr 92, vi c, vi n] (S J L) = some (none, S J' L') ∧ (Fr [105, 115] J J' ∧ (Fr [116, 117] L L' ∧ ∀ j, j < 8 → L' 116 j = wts I c.toNat n.toNat j)) := by
  have hb := h.bagC (c := c.toNat) (by omega)
  have hm := (hM.1.2.2.2.2.2.1.at (c := c.toNat) (by omega)).2.2.2.1
  obtain ⟨b0, b1, b2, b3, b4, b5, b6, b7⟩ := hb
  unfold rng at b4
  obtain ⟨J1, f1, f2, f3⟩ := m_lay (d := d + 4) (L := L) (t := I (17 + c.toNat) 4) h.1.1 hM.1.1 (by omega)
  obtain ⟨L1, g1, g2, g3⟩ := m_wi (F := CallD (d + 5)) (n := n) (hM.fr f2 (by decide)) hc 8 0 L (by omega) (Fr.refl _ _) (fun j hj => by omega)
  obtain ⟨J2, L2, e1, e2, e3, e4⟩ := m_wl (d := d) h hc hn n.toNat 0 J1 L1 (by omega) (hM.fr f2 (by decide)) f3 g3
  refine ⟨J2, L2, ?_, (f2.mono (by decide)).trans (e2.mono (by decide)), (g2.mono (by decide)).trans (e3.mono (by decide)), e4⟩
  refine Eq.trans (e180_1 (by omega) hm f1) ?_
  rw [show (0 : Int) = ((0 : Nat) : Int) from rfl, g1]
  exact e1
theorem m_pw {F : Cal} {I L : Fn} {n : Int} (hn : 0 ≤ n ∧ n ≤ 6) : ∀ r i : Nat, i + r = n → y181_5 F 10 n (pw i) i I L = some (some (vl (pw n.toNat)), S I L)
  | 0, i, hi => by
    have e : n.toNat = i := by omega
    rw [e]
    exact (y181_5_1 (by omega))
  | r + 1, i, hi => by
    have ih := m_pw (F := F) (I := I) (L := L) hn r (i + 1) (by omega)
    have hp := pw_rng i (by omega)
    rw [show ((i + 1 : Nat) : Int) = (i : Int) + 1 by omega] at ih
    refine Eq.trans (y181_5_2 (by omega) (show _ = pw i * 10 from w64_id (by omega) (by omega)) (w32_id (by omega) (by omega))) ?_
    exact ih
theorem m_power10 {d : Nat} {I L : Fn} {n : Int} (hn : 0 ≤ n ∧ n ≤ 6) : CallD (d + 1) 181 [vr 92, vi 10, vi n] (S I L) = some (some (vl (pw n.toNat)), S I L) := by
  refine Eq.trans (e181_1) ?_
  exact m_pw (F := CallD d) hn n.toNat 0 (by omega)
theorem k_by {I L : Fn} {a b p : Int} (h : Rel I L) : SameL 66 179 [vi a, vi b, vi p] I L := by
  have hn := h.2.1.2.1
  have hr := h.bags
  have hr' := hr
  unfold rng at hr'
  by_cases ha : 0 ≤ a ∧ a < I 10 3
  · have hc : a.toNat < 6 := by omega
    have e1 := bagAt1 (d := 58) (L := L) ha hr
    have e2 := mC1 (d := 57) (L := L) hn hr ha
    by_cases hb : 0 ≤ b ∧ b ≤ 6
    · by_cases hp : p = 0 ∨ p = 1
      · have hk := K0bag hc
        have hbc := h.bagC hc
        have sb := hbc.2.2.2.2.1
        unfold rng at sb
        obtain ⟨s1, s2⟩ := wts_sm h.1.1 hbc b.toNat
        have sl := sm_le (f := wts I a.toNat b.toNat) (fun j _ => s2 j) (j := (I (17 + a.toNat) 4).toNat) (by omega)
        have s3 := s2 (I (17 + a.toNat) 4).toNat
        have s4 := pw_rng b.toNat (by omega)
        obtain ⟨J, f1, f2⟩ := c_share (d := 52) (n := b) (b := I (17 + a.toNat) 4) (p := p) h hc hb (by omega)
        have hMJ := h.mh.fr f2 (by decide)
        obtain ⟨J', L', g1, g2, g3, g4⟩ := m_layW (d := 53) (L := L) (c := a) (n := b) h hMJ (by omega) hb
        have hm := (h.mh.fr (f2.trans (g2.mono (by decide))) (by decide)).1.2.2.2.2.2.1.at (c := a.toNat) hc
        exact ⟨_, _, _, _, _, (e66_4 e1 (by omega) (by omega) (isP1 hp) (by decide) (by assumption) rfl f1), (e179_3 (mC1 ((f2 92 2 rfl).trans hn) hr ha) (by omega) (mI1 hb) (by omega) (mI1 (by omega)) (by omega) g1 (by omega) hm.2.2.2.1 (by omega) (g4 _ (by omega)) (m_power10 hb) (m_lowest_ok (by omega) (by omega))), h.scr (f2.trans (g2.mono (by decide))) (g3.mono (by decide))⟩
      · exact ⟨_, _, _, _, _, (e66_5 e1 (by omega) (by omega) (isP0 hp) rfl), (e179_4 e2 (by omega) (mI1 hb) (by omega) (mI0 (by omega)) (by omega)), h⟩
    · by_cases q : b < 0
      · exact ⟨_, _, _, _, _, (e66_2 e1 (by omega)), (e179_2 e2 (by omega) (mI0 hb) (by omega)), h⟩
      · exact ⟨_, _, _, _, _, (e66_3 e1 (by omega) (by omega)), (e179_2 e2 (by omega) (mI0 hb) (by omega)), h⟩
  · exact ⟨_, _, _, _, _, (e66_1 (bagAt0 ha hr)), (e179_1 (mC0 hn hr ha) (by omega)), h⟩
theorem k_where {I L : Fn} {a b e p : Int} (h : Rel I L) : SameL 71 184 [vi a, vi b, vi e, vi p] I L := by
  have hn := h.2.1.2.1
  have hr := h.bags
  have hr' := hr
  unfold rng at hr'
  by_cases ha : 0 ≤ a ∧ a < I 10 3
  · have hc : a.toNat < 6 := by omega
    have e1 := bagAt1 (d := 58) (L := L) ha hr
    have e2 := mC1 (d := 57) (L := L) hn hr ha
    by_cases hb : 0 ≤ b ∧ b ≤ 6
    · by_cases he : 0 ≤ e ∧ e < 8
      · by_cases hp : p = 0 ∨ p = 1
        · have hk := K0bag hc
          have hbc := h.bagC hc
          obtain ⟨s1, s2⟩ := wts_sm h.1.1 hbc b.toNat
          have sl := sm_le (f := wts I a.toNat b.toNat) (fun j _ => s2 j) (j := e.toNat) (by omega)
          have s3 := s2 e.toNat
          have s4 := pw_rng b.toNat (by omega)
          obtain ⟨J, f1, f2⟩ := c_share (d := 52) (n := b) (b := e) (p := p) h hc hb he
          have hMJ := h.mh.fr f2 (by decide)
          obtain ⟨J', L', g1, g2, g3, g4⟩ := m_layW (d := 53) (L := L) (c := a) (n := b) h hMJ (by omega) hb
          exact ⟨_, _, _, _, _, (e71_5 e1 (by omega) (by omega) (isB1 he) (by decide) (isP1 hp) (by decide) f1), (e184_4 (mC1 ((f2 92 2 rfl).trans hn) hr ha) (by omega) (mI1 hb) (by omega) (mB1 he) (by omega) (mI1 (by omega)) (by omega) g1 (by omega) (g4 _ (by omega)) (m_power10 hb) (m_lowest_ok (by omega) (by omega))), h.scr (f2.trans (g2.mono (by decide))) (g3.mono (by decide))⟩
        · exact ⟨_, _, _, _, _, (e71_6 e1 (by omega) (by omega) (isB1 he) (by decide) (isP0 hp) rfl), (e184_5 e2 (by omega) (mI1 hb) (by omega) (mB1 he) (by omega) (mI0 (by omega)) (by omega)), h⟩
      · exact ⟨_, _, _, _, _, (e71_4 e1 (by omega) (by omega) (isB0 he) rfl), (e184_3 e2 (by omega) (mI1 hb) (by omega) (mB0 he) (by omega)), h⟩
    · by_cases q : b < 0
      · exact ⟨_, _, _, _, _, (e71_2 e1 (by omega)), (e184_2 e2 (by omega) (mI0 hb) (by omega)), h⟩
      · exact ⟨_, _, _, _, _, (e71_3 e1 (by omega) (by omega)), (e184_2 e2 (by omega) (mI0 hb) (by omega)), h⟩
  · exact ⟨_, _, _, _, _, (e71_1 (bagAt0 ha hr)), (e184_1 (mC0 hn hr ha) (by omega)), h⟩
