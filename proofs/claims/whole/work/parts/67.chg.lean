/-! CHANGE, NEED: the reference, and both -/
theorem m_lw1 {d : Nat} {I K L : Fn} {c n : Int} (hB : Bts I) (hC : Cur I I) (hb : BagC I c.toNat) (hM : MH I K) (hF : FarM I K (I (17 + c.toNat) 4).toNat) (hc : 0 ≤ c ∧ c < 6) (hn : 0 ≤ n ∧ n ≤ 6) : ∀ (r k : Nat) (J : Fn), k + r = n → Fr [115, 1039] K J → J 92 39 = tsm I c.toNat k → ∃ J', y205_34 (CallD (d + 4)) c n (pth I (I (17 + c.toNat) 4) 1 (I (17 + c.toNat) 3) k) k J L = y205_80 (CallD (d + 4)) n 0 J' L ∧ (Fr [115, 1039] K J' ∧ J' 92 39 = tsm I c.toNat n.toNat)
  | 0, k, J, hk, hf, hs => by
    have e : n.toNat = k := by omega
    rw [e]
    refine ⟨J, ?_, hf, hs⟩
    exact (y205_34_1 (by omega))
  | r + 1, k, J, hk, hf, hs => by
    have hMJ := hM.fr hf (by decide)
    have hFJ := hF.fr hf (by decide) (by decide) (by decide)
    have m7 := (hMJ.1.2.2.2.2.2.1.at (c := c.toNat) (by omega)).2.2.2.2.2.2.1
    obtain ⟨b0, b1, b2, b3, b4, b5, b6, b7⟩ := hb
    unfold rng at b3 b7
    have pr := pth_rng (t := I (17 + c.toNat) 4) (w := 1) (b := I (17 + c.toNat) 3) hB (by omega) k
    have ts := tsm_rng hC c.toNat k
    have tr := tk_rng hC c.toNat (pth I (I (17 + c.toNat) 4) 1 (I (17 + c.toNat) 3) k) (I (17 + c.toNat) 7 + k)
    obtain ⟨J1, mt, f1⟩ := m_minutes_ok (d := d) (L := L) (c := c) (b := pth I (I (17 + c.toNat) 4) 1 (I (17 + c.toNat) 3) k) (g := I (17 + c.toNat) 7 + k) hC hMJ hc
    have e2 : tsm I c.toNat (k + 1) = tsm I c.toNat k + tk I c.toNat (pth I (I (17 + c.toNat) 4) 1 (I (17 + c.toNat) 3) k) (I (17 + c.toNat) 7 + k) := rfl
    have f2 : Fr [115, 1039] K (up J1 92 39 (tsm I c.toNat (k + 1))) := (hf.trans (f1.mono (by decide))).up rfl
    have ms := m_step_ok (d := d + 3) (L := L) (w := 1) (b := pth I (I (17 + c.toNat) 4) 1 (I (17 + c.toNat) 3) k) hB (hF.fr f2 (by decide) (by decide) (by decide)) pr
    obtain ⟨J', g1, g2⟩ := m_lw1 (d := d) (L := L) hB hC ⟨b0, b1, b2, b3, b4, b5, b6, b7⟩ hM hF hc hn r (k + 1) (up J1 92 39 (tsm I c.toNat (k + 1))) (by omega) f2 (upx _ _ _ _)
    refine ⟨J', ?_, g2⟩
    rw [show ((k + 1 : Nat) : Int) = (k : Int) + 1 by omega] at g1
    have ew : w32 (tsm I c.toNat k + tk I c.toNat (pth I (I (17 + c.toNat) 4) 1 (I (17 + c.toNat) 3) k) (I (17 + c.toNat) 7 + k)) = tsm I c.toNat (k + 1) := by rw [e2]; exact w32_id (by omega) (by omega)
    refine Eq.trans (y205_34_2 (by omega) hs (by omega) m7 (w32_id (by omega) (by omega)) mt ew ms (w32_id (by omega) (by omega))) ?_
    exact g1
theorem m_lw2 {F : Cal} {J L0 : Fn} {n : Int} : ∀ (r x : Nat) (L : Fn), x + r = 13 → Fr [122] L0 L → (∀ j, j < x → L 122 j = mr 0 j) → ∃ L', y205_80 F n x J L = y205_113 F n 0 J L' ∧ (Fr [122] L0 L' ∧ ∀ j, j < 13 → L' 122 j = mr 0 j)
  | 0, x, L, hx, hf, hm => by
    refine ⟨L, ?_, hf, fun j hj => hm j (by omega)⟩
    exact (y205_80_1 (by omega))
  | r + 1, x, L, hx, hf, hm => by
    have ih := m_lw2 (F := F) (J := J) (n := n) (L0 := L0) r (x + 1) (up L 122 x (mr 0 x)) (by omega) (hf.up rfl) (fun j hj => by
      rw [up_eq]
      by_cases z : j = x
      · rw [if_pos ⟨rfl, z⟩, z]
      · rw [if_neg (fun y => z y.2)]; exact hm j (by omega))
    obtain ⟨L', h1, h2⟩ := ih
    refine ⟨L', ?_, h2⟩
    rw [show ((x + 1 : Nat) : Int) = (x : Int) + 1 by omega] at h1
    by_cases z : x = 0
    · rw [show mr 0 x = 1 from if_pos z] at h1
      refine Eq.trans (y205_80_3 (by omega) (by omega) (by omega) (w32_id (by omega) (by omega))) ?_
      exact h1
    · rw [show mr 0 x = 0 from if_neg z] at h1
      refine Eq.trans (y205_80_2 (by omega) (by omega) (by omega) (w32_id (by omega) (by omega))) ?_
      exact h1
theorem m_lwi {F : Cal} {J L0 : Fn} {n : Int} {i : Nat} (hi : i < 6) : ∀ (y : Nat) (L : Fn), y ≤ 13 → Fr [122] L0 L → (∀ j, j < 13 → L 122 j = if j < y then mr i j else mr (i + 1) j) → ∃ L', y205_123 F n i ((y : Int) - 1) J L = y205_113 F n ((i + 1 : Nat) : Int) J L' ∧ (Fr [122] L0 L' ∧ ∀ j, j < 13 → L' 122 j = mr (i + 1) j)
  | 0, L, hy, hf, hm => by
    refine ⟨L, ?_, hf, fun j hj => ?_⟩
    · exact (y205_123_1 (by omega) (w32_id (by omega) (by omega)))
    · rw [hm j hj, if_neg (by omega)]
  | y + 1, L, hy, hf, hm => by
    have b1 := mr_rng i (by omega) y (by omega)
    have b0 := mr_rng (i + 1) (by omega) y (by omega)
    have e1 : L 122 y = mr i y := by rw [hm y (by omega), if_pos (by omega)]
    have ih := m_lwi (F := F) (J := J) (n := n) (L0 := L0) hi y (up L 122 y (mr (i + 1) y)) (by omega) (hf.up rfl) (fun j hj => by
      rw [up_eq]
      by_cases z : j = y
      · rw [if_pos ⟨rfl, z⟩, if_neg (by omega), z]
      · rw [if_neg (fun w => z w.2), hm j hj]
        by_cases z2 : j < y
        · rw [if_pos z2, if_pos (by omega)]
        · rw [if_neg z2, if_neg (by omega)])
    obtain ⟨L', h1, h2⟩ := ih
    refine ⟨L', ?_, h2⟩
    rw [show (y : Int) - 1 = (y : Int) + -1 by omega] at h1
    rw [show ((y + 1 : Nat) : Int) - 1 = (y : Int) by omega]
    cases y with
    | zero =>
      have q := mr_0 i
      refine Eq.trans (y205_123_2 (by omega) (by omega) (show _ = mr i 0 from e1) (by omega) (by omega) (show _ = (0 : Int) from rfl) (show _ = mr (i + 1) 0 from by rw [q, Int.add_zero]; exact w64_id (by omega) (by omega)) (w32_id (by omega) (by omega))) ?_
      exact h1
    | succ y =>
      have b2 := mr_rng i (by omega) y (by omega)
      have e2 : L 122 y = mr i y := by rw [hm y (by omega), if_pos (by omega)]
      have w1 : w32 (((y + 1 : Nat) : Int) - 1) = (y : Nat) := by rw [show ((y + 1 : Nat) : Int) - 1 = (y : Int) by omega]; exact w32_id (by omega) (by omega)
      cases y with
      | zero =>
        have q := mr_1 i
        have q1 : 0 ≤ mr (i + 1) 1 ∧ mr (i + 1) 1 ≤ 729 := b0
        refine Eq.trans (y205_123_4 (by omega) (by omega) (show _ = mr i 1 from e1) (by omega) w1 (by omega) (show _ = mr i 0 from e2) (by omega) (show _ = mr i 0 from by rw [Int.add_zero]; exact w64_id (by omega) (by omega)) (show _ = mr (i + 1) 1 from by rw [← q]; exact w64_id (by omega) (by omega)) (w32_id (by omega) (by omega))) ?_
        exact h1
      | succ y =>
        have q := mr_2 i y
        have q1 : 0 ≤ mr (i + 1) (y + 2) ∧ mr (i + 1) (y + 2) ≤ 729 := b0
        have b3 := mr_rng i (by omega) y (by omega)
        have e3 : L 122 y = mr i y := by rw [hm y (by omega), if_pos (by omega)]
        have w2 : w32 (((y + 1 + 1 : Nat) : Int) - 2) = (y : Nat) := by rw [show ((y + 1 + 1 : Nat) : Int) - 2 = (y : Int) by omega]; exact w32_id (by omega) (by omega)
        refine Eq.trans (y205_123_5 (by omega) (by omega) (show _ = mr i (y + 2) from e1) (by omega) w1 (by omega) (show _ = mr i (y + 1) from e2) (by omega) w2 (by omega) (show _ = mr i y from e3) (show _ = mr i (y + 1) + mr i y from w64_id (by omega) (by omega)) (show _ = mr (i + 1) (y + 2) from by rw [← q]; exact w64_id (by omega) (by omega)) (w32_id (by omega) (by omega))) ?_
        exact h1
theorem m_lwo {F : Cal} {J L0 : Fn} {n : Int} (hn : 0 ≤ n ∧ n ≤ 6) : ∀ (r i : Nat) (L : Fn), i + r = n → Fr [122] L0 L → (∀ j, j < 13 → L 122 j = mr i j) → ∃ L', y205_113 F n i J L = some (some (vi n), S J L') ∧ (Fr [122] L0 L' ∧ ∀ j, j < 13 → L' 122 j = mr n.toNat j)
  | 0, i, L, hi, hf, hm => by
    have e : n.toNat = i := by omega
    rw [e]
    refine ⟨L, ?_, hf, hm⟩
    exact (y205_113_1 (by omega))
  | r + 1, i, L, hi, hf, hm => by
    obtain ⟨L1, h1, h2, h3⟩ := m_lwi (F := F) (J := J) (n := n) (i := i) (L0 := L0) (by omega) 13 L (by omega) hf (fun j hj => by rw [if_pos hj]; exact hm j hj)
    obtain ⟨L', g1, g2⟩ := m_lwo (F := F) (J := J) hn r (i + 1) L1 (by omega) h2 h3
    refine ⟨L', ?_, g2⟩
    refine Eq.trans (y205_113_2 (by omega)) ?_
    rw [show (12 : Int) = ((13 : Nat) : Int) - 1 from rfl, h1]
    exact g1
theorem m_layWay_ok {d : Nat} {I J K L : Fn} {c : Int} (h : Rel I K) (hM : MH I J) (hc : 0 ≤ c ∧ c < 6) (hn : 0 ≤ stepsv I (I (17 + c.toNat) 4) 1 41 0 (I (17 + c.toNat) 3) ∧ stepsv I (I (17 + c.toNat) 4) 1 41 0 (I (17 + c.toNat) 3) ≤ 6) : ∃ J' L', CallD (d + 5) 205 [vr 92, vi c] (S J L) = some (some (vi (stepsv I (I (17 + c.toNat) 4) 1 41 0 (I (17 + c.toNat) 3))), S J' L') ∧ (Fr [105, 115, 1039] J J' ∧ (Fr [122] L L' ∧ (J' 92 39 = tsm I c.toNat (stepsv I (I (17 + c.toNat) 4) 1 41 0 (I (17 + c.toNat) 3)).toNat ∧ ∀ j, j < 13 → L' 122 j = mr (stepsv I (I (17 + c.toNat) 4) 1 41 0 (I (17 + c.toNat) 3)).toNat j))) := by
  have hb := h.bagC (c := c.toNat) (by omega)
  obtain ⟨J1, f1, f2, f3⟩ := m_stepsBy_ok (d := d + 2) (L := L) (w := 1) h.1.1 hM.1 hc hb
  have hM1 := hM.fr f2 (by decide)
  have m3 := (hM1.1.2.2.2.2.2.1.at (c := c.toNat) (by omega)).2.2.1
  generalize hs : stepsv I (I (17 + c.toNat) 4) 1 41 0 (I (17 + c.toNat) 3) = n at *
  have f4 : Fr [115, 1039] J1 (up J1 92 39 0) := (Fr.refl _ J1).up rfl
  obtain ⟨J2, g1, g2, g3⟩ := m_lw1 (d := d) (L := L) h.1.1 h.cur hb hM1 f3 hc hn n.toNat 0 (up J1 92 39 0) (by omega) f4 (upx _ _ _ _)
  obtain ⟨L1, e1, e2, e3⟩ := m_lw2 (F := CallD (d + 4)) (J := J2) (n := n) 13 0 L (by omega) (Fr.refl _ _) (fun j hj => by omega)
  obtain ⟨L2, q1, q2, q3⟩ := m_lwo (F := CallD (d + 4)) (J := J2) hn n.toNat 0 L1 (by omega) e2 e3
  refine ⟨J2, L2, ?_, (f2.mono (by decide)).trans (g2.mono (by decide)), q2, g3, q3⟩
  refine Eq.trans (e205_2 f1 (by omega) (by omega) (by omega) m3) ?_
  rw [show (0 : Int) = ((0 : Nat) : Int) from rfl, show I (17 + c.toNat) 3 = pth I (I (17 + c.toNat) 4) 1 (I (17 + c.toNat) 3) 0 from rfl]
  refine Eq.trans g1 ?_
  refine Eq.trans e1 ?_
  exact q1
theorem m_wv {F : Cal} {a b m : Int} {f : Nat → Int} {J L : Fn} (hf : ∀ k, k < 13 → 0 ≤ f k ∧ f k ≤ 729) (hm : ∀ j, j < 13 → L 122 j = f j) (hb : J 92 39 = b) (hab : w32 (a - b) = m) : ∀ (r k : Nat) (s : Int), k + r = 13 → 0 ≤ s ∧ s ≤ 729 * k → y206_5 F a s k J L = some (some (vl (wv f m r k s)), S J L)
  | 0, k, s, hk, hs => by
    show _ = some (some (vl s), _)
    exact (y206_5_1 (by omega))
  | r + 1, k, s, hk, hs => by
    have b' := hf k (by omega)
    unfold wv
    by_cases e : (k : Int) ≤ m
    · rw [if_pos e]
      have ih := m_wv (F := F) hf hm hb hab r (k + 1) (s + f k) (by omega) (by omega)
      rw [show ((k + 1 : Nat) : Int) = (k : Int) + 1 by omega] at ih
      refine Eq.trans (y206_5_3 (by omega) hb hab (by omega) (by omega) (show _ = f k from hm k (by omega)) (w64_id (by omega) (by omega)) (w32_id (by omega) (by omega))) ?_
      exact ih
    · rw [if_neg e]
      exact (y206_5_2 (by omega) hb hab (by omega))
theorem m_waysBy_ok {d n : Nat} {a b : Int} {J L : Fn} (hn : n ≤ 6) (hm : ∀ j, j < 13 → L 122 j = mr n j) (hb : J 92 39 = b) : CallD (d + 1) 206 [vr 92, vi a] (S J L) = some (some (vl (wv (mr n) (w32 (a - b)) 13 0 0)), S J L) := by
  refine Eq.trans (e206_1) ?_
  exact m_wv (F := CallD d) (fun k hk => mr_rng n (by omega) k hk) hm hb rfl 13 0 0 (by omega) (by omega)
theorem m_p3 {F : Cal} {I L : Fn} {n : Int} (hn : 0 ≤ n ∧ n ≤ 6) : ∀ r i : Nat, i + r = n → y181_5 F 3 n (p3 i) i I L = some (some (vl (p3 n.toNat)), S I L)
  | 0, i, hi => by
    have e : n.toNat = i := by omega
    rw [e]
    exact (y181_5_1 (by omega))
  | r + 1, i, hi => by
    have ih := m_p3 (F := F) (I := I) (L := L) hn r (i + 1) (by omega)
    have hp := p3_rng i (by omega)
    rw [show ((i + 1 : Nat) : Int) = (i : Int) + 1 by omega] at ih
    refine Eq.trans (y181_5_2 (by omega) (show _ = p3 i * 3 from w64_id (by omega) (by omega)) (w32_id (by omega) (by omega))) ?_
    exact ih
theorem m_power3 {d : Nat} {I L : Fn} {n : Int} (hn : 0 ≤ n ∧ n ≤ 6) : CallD (d + 1) 181 [vr 92, vi 3, vi n] (S I L) = some (some (vl (p3 n.toNat)), S I L) := by
  refine Eq.trans (e181_1) ?_
  exact m_p3 (F := CallD d) hn n.toNat 0 (by omega)
/-- what both lay out -/
theorem c_way {d : Nat} {I L : Fn} {c : Nat} (h : Rel I L) (hc : c < 6) (hn : 0 ≤ stepsv I (I (17 + c) 4) 1 41 0 (I (17 + c) 3) ∧ stepsv I (I (17 + c) 4) 1 41 0 (I (17 + c) 3) ≤ 6) : ∃ J1 J2 J3, CallD (d + 5) 78 [vr 75, vr (17 + c), vi 1] (S I L) = some (some (vi (stepsv I (I (17 + c) 4) 1 41 0 (I (17 + c) 3))), S J1 L) ∧ (CallD (d + 5) 100 [vr 79, vi (stepsv I (I (17 + c) 4) 1 41 0 (I (17 + c) 3))] (S J1 L) = some (some (vi (p3 (stepsv I (I (17 + c) 4) 1 41 0 (I (17 + c) 3)).toNat)), S J2 L) ∧ (CallD (d + 5) 101 [vr 75, vr (17 + c)] (S J2 L) = some (some (vi (tsm I c (stepsv I (I (17 + c) 4) 1 41 0 (I (17 + c) 3)).toNat)), S J3 L) ∧ (Fr [76, 82] I J3 ∧ ∀ j, j < 13 → J3 82 j = mr (stepsv I (I (17 + c) 4) 1 41 0 (I (17 + c) 3)).toNat j))) := by
  obtain ⟨J1, f1, f2, f3⟩ := c_stepsTill (d := d + 2) (L := L) (w := 1) h.1.1 hc (h.bagC hc)
  obtain ⟨J2, g1, g2, g3⟩ := c_countMore (d := d + 3) (J := J1) (L := L) hn
  have hp := stepsv_path (I := I) (t := I (17 + c) 4) (w := 1) (b := I (17 + c) 3) (n := stepsv I (I (17 + c) 4) 1 41 0 (I (17 + c) 3)) hn.1 41 0 rfl
  obtain ⟨J3, e1, e2⟩ := c_takesIfRead (d := d) (J := J2) (n := (stepsv I (I (17 + c) 4) 1 41 0 (I (17 + c) 3)).toNat) h hc ((f2.mono (by decide)).trans (g2.mono (by decide))) (by omega) (fun j hj => hp.2.1 j (by omega) (by omega)) hp.2.2
  exact ⟨J1, J2, J3, f1, g1, e1, ((f2.mono (by decide)).trans (g2.mono (by decide))).trans (e2.mono (by decide)), fun j hj => (e2 82 j rfl).trans (g3 j hj)⟩
theorem k_change {I L : Fn} {a b p : Int} (h : Rel I L) : SameL 98 204 [vi a, vi b, vi p] I L := by
  have hn := h.2.1.2.1
  have hr := h.bags
  have hr' := hr
  unfold rng at hr'
  by_cases ha : 0 ≤ a ∧ a < I 10 3
  · have hc : a.toNat < 6 := by omega
    have e1 := bagAt1 (d := 58) (L := L) ha hr
    have e2 := mC1 (d := 57) (L := L) hn hr ha
    by_cases hb : 0 ≤ b ∧ b ≤ 99
    · by_cases hp : p = 0 ∨ p = 1
      · have hbc := h.bagC hc
        by_cases hs : 0 ≤ stepsv I (I (17 + a.toNat) 4) 1 41 0 (I (17 + a.toNat) 3) ∧ stepsv I (I (17 + a.toNat) 4) 1 41 0 (I (17 + a.toNat) 3) ≤ 6
        · obtain ⟨J1, J2, J3, f1, f2, f3, f4, f5⟩ := c_way (d := 53) h hc hs
          have hMJ := h.mh.fr f4 (by decide)
          obtain ⟨J', L', g1, g2, g3, g4, g5⟩ := m_layWay_ok (d := 54) (L := L) (c := a) h hMJ (by omega) hs
          generalize hsv : stepsv I (I (17 + a.toNat) 4) 1 41 0 (I (17 + a.toNat) 3) = s at *
          have tr := tsm_rng h.cur a.toNat s.toNat
          have ew : w32 (b - tsm I a.toNat s.toNat) = b - tsm I a.toNat s.toNat := w32_id (by omega) (by omega)
          have wr := wv_rng (f := mr s.toNat) (m := b - tsm I a.toNat s.toNat) (fun k hk => mr_rng s.toNat (by omega) k hk) 13 0 0 (by omega) (by omega)
          have pr := p3_rng s.toNat (by omega)
          have wb := m_waysBy_ok (d := 58) (a := b) (n := s.toNat) (by omega) g5 g4
          rw [ew] at wb
          have share : CallD 59 99 [vr 79, vr (17 + a.toNat), vi b, vi p] (S I L) = _ := (e99_2 f1 (by omega) (by omega) f2 f3 ew (c_within (d := 57) (n := s.toNat) (by omega) f5) (c_lowest (d := 57) (by omega) (by omega)))
          exact ⟨_, _, _, _, _, (e98_4 e1 (by omega) (by omega) (isP1 hp) (by decide) share), (e204_3 (mC1 ((f4 92 2 rfl).trans hn) hr ha) (by omega) (mI1 hb) (by omega) (mI1 (by omega)) (by omega) g1 (by omega) wb (m_power3 hs) (m_lowest_ok (by omega) (by omega))), h.scr ((f4.mono (by decide)).trans (g2.mono (by decide))) (g3.mono (by decide))⟩
        · obtain ⟨J1, f1, f2, f3⟩ := c_stepsTill (d := 55) (L := L) (w := 1) h.1.1 hc hbc
          have hMJ := h.mh.fr f2 (by decide)
          obtain ⟨J2, g1, g2, g3⟩ := m_stepsBy_ok (d := 56) (L := L) (w := 1) h.1.1 hMJ.1 (c := a) (by omega) hbc
          generalize hsv : stepsv I (I (17 + a.toNat) 4) 1 41 0 (I (17 + a.toNat) 3) = s at *
          by_cases q : s < 0
          · exact ⟨_, _, _, _, _, (e98_4 e1 (by omega) (by omega) (isP1 hp) (by decide) (e99_1 f1 (by omega))), (e204_4 (mC1 ((f2 92 2 rfl).trans hn) hr ha) (by omega) (mI1 hb) (by omega) (mI1 (by omega)) (by omega) (e205_1 g1 (by omega)) (by decide)), h.scr ((f2.mono (by decide)).trans (g2.mono (by decide))) (Fr.refl _ _)⟩
          · exact ⟨_, _, _, _, _, (e98_4 e1 (by omega) (by omega) (isP1 hp) (by decide) (e99_3 f1 (by omega) (by omega))), (e204_4 (mC1 ((f2 92 2 rfl).trans hn) hr ha) (by omega) (mI1 hb) (by omega) (mI1 (by omega)) (by omega) (e205_3 g1 (by omega) (by omega)) (by decide)), h.scr ((f2.mono (by decide)).trans (g2.mono (by decide))) (Fr.refl _ _)⟩
      · exact ⟨_, _, _, _, _, (e98_5 e1 (by omega) (by omega) (isP0 hp) rfl), (e204_5 e2 (by omega) (mI1 hb) (by omega) (mI0 (by omega)) (by omega)), h⟩
    · by_cases q : b < 0
      · exact ⟨_, _, _, _, _, (e98_2 e1 (by omega)), (e204_2 e2 (by omega) (mI0 hb) (by omega)), h⟩
      · exact ⟨_, _, _, _, _, (e98_3 e1 (by omega) (by omega)), (e204_2 e2 (by omega) (mI0 hb) (by omega)), h⟩
  · exact ⟨_, _, _, _, _, (e98_1 (bagAt0 ha hr)), (e204_1 (mC0 hn hr ha) (by omega)), h⟩
theorem pq_rng {p q : Int} (hp : 1 ≤ p ∧ p ≤ 10) (hq : 1 ≤ q ∧ q ≤ 729) : 0 ≤ p * q ∧ p * q ≤ 7290 := by
  refine ⟨Int.mul_nonneg (by omega) (by omega), ?_⟩
  have := Int.mul_le_mul hp.2 hq.2 (by omega) (by omega)
  omega
theorem need_loop {n : Nat} {p t : Int} {J J' L L' : Fn} (hn : n ≤ 6) (hp : 1 ≤ p ∧ p ≤ 10) (ht : 0 ≤ t ∧ t ≤ 10000) (h1 : ∀ j, j < 13 → J 82 j = mr n j) (h2 : ∀ j, j < 13 → L' 122 j = mr n j) (h3 : J' 92 39 = t) : ∀ r i : Nat, i + r = 100 → ∃ v, y104_43 (CallD 58) p (p3 n) t i J L = some (some (vi v), S J L) ∧ y207_33 (CallD 59) p n i J' L' = some (some (vi v), S J' L')
  | 0, i, hi => ⟨-5, (y104_43_1 (by omega)), (y207_33_1 (by omega))⟩
  | r + 1, i, hi => by
    have ew : w32 ((i : Int) - t) = i - t := w32_id (by omega) (by omega)
    have wr := wv_rng (f := mr n) (m := (i : Int) - t) (fun k hk => mr_rng n (by omega) k hk) 13 0 0 (by omega) (by omega)
    have wb := m_waysBy_ok (d := 58) (a := (i : Int)) (n := n) hn h2 h3
    rw [ew] at wb
    have cw := c_within (d := 57) (n := n) (m := (i : Int) - t) (J := J) (L := L) hn h1
    have pr := p3_rng n (by omega)
    have pq := pq_rng hp pr
    have mp := m_power3 (d := 58) (I := J') (L := L') (n := (n : Int)) (by omega)
    rw [Int.toNat_natCast] at mp
    by_cases e : p * p3 n ≤ wv (mr n) ((i : Int) - t) 13 0 0 * 10
    · refine ⟨i, ?_, ?_⟩
      · exact (y104_43_3 (by omega) ew cw (w32_id (by omega) (by omega)) (w32_id (by omega) (by omega)) (by omega))
      · exact (y207_33_4 (by omega) (by omega) wb (w64_id (by omega) (by omega)) mp (w64_id (by omega) (by omega)) (by omega))
    · obtain ⟨v, g1, g2⟩ := need_loop (L := L) hn hp ht h1 h2 h3 r (i + 1) (by omega)
      rw [show ((i + 1 : Nat) : Int) = (i : Int) + 1 by omega] at g1 g2
      refine ⟨v, ?_, ?_⟩
      · refine Eq.trans (y104_43_2 (by omega) ew cw (w32_id (by omega) (by omega)) (w32_id (by omega) (by omega)) (by omega) (w32_id (by omega) (by omega))) ?_
        exact g1
      · refine Eq.trans (y207_33_3 (by omega) (by omega) wb (w64_id (by omega) (by omega)) mp (w64_id (by omega) (by omega)) (by omega) (w32_id (by omega) (by omega))) ?_
        exact g2
theorem k_need {I L : Fn} {a p : Int} (h : Rel I L) : SameI 103 207 [vi a, vi p] I L := by
  have hn := h.2.1.2.1
  have hr := h.bags
  have hr' := hr
  unfold rng at hr'
  by_cases ha : 0 ≤ a ∧ a < I 10 3
  · have hc : a.toNat < 6 := by omega
    have e1 := bagAt1 (d := 58) (L := L) ha hr
    have e2 := mC1 (d := 57) (L := L) hn hr ha
    by_cases hp : 1 ≤ p ∧ p ≤ 10
    · have hbc := h.bagC hc
      by_cases hs : 0 ≤ stepsv I (I (17 + a.toNat) 4) 1 41 0 (I (17 + a.toNat) 3) ∧ stepsv I (I (17 + a.toNat) 4) 1 41 0 (I (17 + a.toNat) 3) ≤ 6
      · obtain ⟨J1, J2, J3, f1, f2, f3, f4, f5⟩ := c_way (d := 53) h hc hs
        have hMJ := h.mh.fr f4 (by decide)
        obtain ⟨J', L', g1, g2, g3, g4, g5⟩ := m_layWay_ok (d := 54) (L := L) (c := a) h hMJ (by omega) hs
        generalize hsv : stepsv I (I (17 + a.toNat) 4) 1 41 0 (I (17 + a.toNat) 3) = s at *
        have tr := tsm_rng h.cur a.toNat s.toNat
        obtain ⟨v, q1, q2⟩ := need_loop (n := s.toNat) (p := p) (t := tsm I a.toNat s.toNat) (J := J3) (J' := J') (L := L) (L' := L') (by omega) hp (by omega) f5 g5 g4 100 0 (by omega)
        rw [Int.toNat_of_nonneg hs.1] at q2
        have least := Eq.trans (show CallD 59 104 [vr 79, vr (17 + a.toNat), vi p] (S I L) = _ from (e104_2 f1 (by omega) (by omega) f2 f3)) q1
        exact ⟨_, _, _, _, _, (e103_3 e1 (by omega) (by omega) least), Eq.trans (e207_1 (mC1 ((f4 92 2 rfl).trans hn) hr ha) (by omega) (mI1 hp) (by omega) g1) q2, h.scr ((f4.mono (by decide)).trans (g2.mono (by decide))) (g3.mono (by decide))⟩
      · obtain ⟨J1, f1, f2, f3⟩ := c_stepsTill (d := 55) (L := L) (w := 1) h.1.1 hc hbc
        have hMJ := h.mh.fr f2 (by decide)
        obtain ⟨J2, g1, g2, g3⟩ := m_stepsBy_ok (d := 56) (L := L) (w := 1) h.1.1 hMJ.1 (c := a) (by omega) hbc
        generalize hsv : stepsv I (I (17 + a.toNat) 4) 1 41 0 (I (17 + a.toNat) 3) = s at *
        have me : ∀ v, CallD 59 205 [vr 92, vi a] (S J1 L) = some (some (vi v), S J2 L) → v < 0 → CallD 60 207 [vr 92, vi a, vi p] (S J1 L) = some (some (vi (-5)), S J2 L) := fun v hv h0 => by
          have e3 := mC1 (d := 57) (L := L) ((f2 92 2 rfl).trans hn) hr ha
          refine Eq.trans (e207_1 e3 (by omega) (mI1 hp) (by omega) hv) ?_
          exact (y207_33_2 (by omega) (by omega))
        by_cases q : s < 0
        · exact ⟨_, _, _, _, _, (e103_3 e1 (by omega) (by omega) (e104_1 f1 (by omega))), me _ (e205_1 g1 (by omega)) (by decide), h.scr ((f2.mono (by decide)).trans (g2.mono (by decide))) (Fr.refl _ _)⟩
        · exact ⟨_, _, _, _, _, (e103_3 e1 (by omega) (by omega) (e104_3 f1 (by omega) (by omega))), me _ (e205_3 g1 (by omega) (by omega)) (by decide), h.scr ((f2.mono (by decide)).trans (g2.mono (by decide))) (Fr.refl _ _)⟩
    · by_cases q : p < 1
      · exact ⟨_, _, _, _, _, (e103_2 e1 (by omega)), (e207_2 e2 (by omega) (mI0 hp) (by omega)), h⟩
      · exact ⟨_, _, _, _, _, (e103_4 e1 (by omega) (by omega)), (e207_2 e2 (by omega) (mI0 hp) (by omega)), h⟩
  · exact ⟨_, _, _, _, _, (e103_1 (bagAt0 ha hr)), (e207_3 (mC0 hn hr ha) (by omega)), h⟩
