/-! CHANGE, NEED: the mathematics -/
def mr : Nat → Nat → Int
  | 0, k => if k = 0 then 1 else 0
  | i + 1, k => mr i k + ((if 1 ≤ k then mr i (k - 1) else 0) + (if 2 ≤ k then mr i (k - 2) else 0))
theorem mr_rng : ∀ i, i < 7 → ∀ k, k < 13 → 0 ≤ mr i k ∧ mr i k ≤ 729 := by decide +kernel
theorem mr_0 (i : Nat) : mr (i + 1) 0 = mr i 0 := by
  show mr i 0 + (0 + 0) = mr i 0
  omega
theorem mr_1 (i : Nat) : mr (i + 1) 1 = mr i 1 + mr i 0 := by
  show mr i 1 + (mr i 0 + 0) = mr i 1 + mr i 0
  omega
theorem mr_2 (i k : Nat) : mr (i + 1) (k + 2) = mr i (k + 2) + (mr i (k + 1) + mr i k) := rfl
def p3 : Nat → Int
  | 0 => 1
  | k + 1 => p3 k * 3
theorem p3_rng : ∀ k, k < 7 → 1 ≤ p3 k ∧ p3 k ≤ 729 := by decide
/-- those of at most m -/
def wv (f : Nat → Int) (m : Int) : Nat → Nat → Int → Int
  | 0, _, s => s
  | r + 1, k, s => if (k : Int) ≤ m then wv f m r (k + 1) (s + f k) else s
theorem wv_rng {f : Nat → Int} {m : Int} (hf : ∀ k, k < 13 → 0 ≤ f k ∧ f k ≤ 729) : ∀ (r k : Nat) (s : Int), k + r = 13 → 0 ≤ s ∧ s ≤ 729 * k → 0 ≤ wv f m r k s ∧ wv f m r k s ≤ 9477
  | 0, k, s, hk, hs => by
    show 0 ≤ s ∧ s ≤ 9477
    omega
  | r + 1, k, s, hk, hs => by
    have := hf k (by omega)
    unfold wv
    split
    · exact wv_rng hf r (k + 1) (s + f k) (by omega) (by omega)
    · omega
/-- the way that is always read -/
def pth (I : Fn) (t w : Int) (b : Int) : Nat → Int
  | 0 => b
  | k + 1 => stS I t.toNat w (pth I t w b k).toNat
theorem pth_rng {I : Fn} {t w b : Int} (hB : Bts I) (hb : 0 ≤ b ∧ b < 8) : ∀ k, 0 ≤ pth I t w b k ∧ pth I t w b k < 8
  | 0 => hb
  | k + 1 => by
    have ih := pth_rng (t := t) (w := w) hB hb k
    exact stS_rng hB (by omega)
theorem stepsv_path {I : Fn} {t w b n : Int} (h0 : 0 ≤ n) : ∀ (r k : Nat), stepsv I t w r k (pth I t w b k) = n → (k : Int) ≤ n ∧ ((∀ j : Nat, k ≤ j → (j : Int) < n → pth I t w b j ≠ t) ∧ pth I t w b n.toNat = t)
  | 0, k, h => by
    have : (-5 : Int) = n := h
    omega
  | r + 1, k, h => by
    unfold stepsv at h
    by_cases e : pth I t w b k = t
    · rw [if_pos e] at h
      refine ⟨by omega, fun j h1 h2 => by omega, ?_⟩
      rw [← h]
      exact e
    · rw [if_neg e] at h
      obtain ⟨h1, h2, h3⟩ := stepsv_path h0 r (k + 1) h
      refine ⟨by omega, fun j g1 g2 => ?_, h3⟩
      by_cases z : j = k
      · rw [z]; exact e
      · exact h2 j (by omega) g2
def tsm (I : Fn) (c : Nat) : Nat → Int
  | 0 => 0
  | k + 1 => tsm I c k + tk I c (pth I (I (17 + c) 4) 1 (I (17 + c) 3) k) (I (17 + c) 7 + k)
theorem tsm_rng {I : Fn} (hC : Cur I I) (c : Nat) : ∀ k : Nat, 0 ≤ tsm I c k ∧ tsm I c k ≤ 991 * k
  | 0 => by unfold tsm; omega
  | k + 1 => by
    have ih := tsm_rng hC c k
    have := tk_rng hC c (pth I (I (17 + c) 4) 1 (I (17 + c) 3) k) (I (17 + c) 7 + k)
    show 0 ≤ tsm I c k + _ ∧ tsm I c k + _ ≤ _
    omega
/-! the class -/
theorem c_cmi {F : Cal} {n a : Int} {i : Nat} {J0 L : Fn} (hi : i < 6) (ha : 0 ≤ a ∧ a ≤ 729) : ∀ (x : Nat) (J : Fn), x < 13 → Fr [82] J0 J → (∀ j, j < 13 → J 82 j = if j ≤ x then mr i j else mr (i + 1) j) → ∃ J', y100_28 F n a i x J L = y100_19 F n (a * 3) ((i + 1 : Nat) : Int) J' L ∧ (Fr [82] J0 J' ∧ ∀ j, j < 13 → J' 82 j = mr (i + 1) j)
  | 0, J, hx, hf, hm => by
    refine ⟨J, ?_, hf, fun j hj => ?_⟩
    · exact (y100_28_1 (by omega) (w32_id (by omega) (by omega)) (w32_id (by omega) (by omega)))
    · rw [hm j hj]
      by_cases z : j ≤ 0
      · rw [if_pos z]
        have : j = 0 := by omega
        rw [this]
        exact (mr_0 i).symm
      · rw [if_neg z]
  | x + 1, J, hx, hf, hm => by
    have b1 := mr_rng i (by omega) (x + 1) hx
    have b2 := mr_rng i (by omega) x (by omega)
    have e1 : J 82 (x + 1) = mr i (x + 1) := by rw [hm (x + 1) hx, if_pos (Nat.le_refl _)]
    have e2 : J 82 x = mr i x := by rw [hm x (by omega), if_pos (by omega)]
    have ih := c_cmi (F := F) (n := n) (J0 := J0) (L := L) hi ha x (up J 82 (x + 1) (mr (i + 1) (x + 1))) (by omega) (hf.up rfl) (fun j hj => by
      rw [up_eq]
      by_cases z : j = x + 1
      · rw [if_pos ⟨rfl, z⟩, if_neg (by omega), z]
      · rw [if_neg (fun y => z y.2), hm j hj]
        by_cases z2 : j ≤ x
        · rw [if_pos z2, if_pos (by omega)]
        · rw [if_neg z2, if_neg (by omega)])
    obtain ⟨J', h1, h2⟩ := ih
    refine ⟨J', ?_, h2⟩
    rw [show (x : Int) = ((x + 1 : Nat) : Int) + -1 by omega] at h1
    cases x with
    | zero =>
      have := mr_1 i
      have q1 : 0 ≤ mr (i + 1) 1 ∧ mr (i + 1) 1 ≤ 729 := mr_rng (i + 1) (by omega) 1 (by omega)
      refine Eq.trans (y100_28_2 (by omega) (by omega) (show _ = mr i 1 from e1) (show _ = ((0 : Nat) : Int) from w32_id (by omega) (by omega)) (by omega) (show _ = mr i 0 from e2) (by omega) (show _ = mr i 0 from by rw [Int.add_zero]; exact w32_id (by omega) (by omega)) (show _ = mr (i + 1) (0 + 1) from by rw [show mr (i + 1) (0 + 1) = mr i 1 + mr i 0 from this]; exact w32_id (by omega) (by omega)) (w32_id (by omega) (by omega))) ?_
      exact h1
    | succ x =>
      have := mr_2 i x
      have q1 : 0 ≤ mr (i + 1) (x + 2) ∧ mr (i + 1) (x + 2) ≤ 729 := mr_rng (i + 1) (by omega) (x + 2) (by omega)
      have b3 := mr_rng i (by omega) x (by omega)
      have e3 : J 82 x = mr i x := by rw [hm x (by omega), if_pos (by omega)]
      refine Eq.trans (y100_28_3 (by omega) (by omega) (show _ = mr i (x + 2) from e1) (show _ = ((x + 1 : Nat) : Int) from by rw [show ((x + 1 + 1 : Nat) : Int) - 1 = ((x + 1 : Nat) : Int) by omega]; exact w32_id (by omega) (by omega)) (by omega) (show _ = mr i (x + 1) from e2) (by omega) (show _ = ((x : Nat) : Int) from by rw [show ((x + 1 + 1 : Nat) : Int) - 2 = ((x : Nat) : Int) by omega]; exact w32_id (by omega) (by omega)) (by omega) (show _ = mr i x from e3) (show _ = mr i (x + 1) + mr i x from w32_id (by omega) (by omega)) (show _ = mr (i + 1) (x + 1 + 1) from by rw [show mr (i + 1) (x + 1 + 1) = _ from this]; exact w32_id (by omega) (by omega)) (w32_id (by omega) (by omega))) ?_
      exact h1
theorem c_cmo {F : Cal} {n : Int} {J0 L : Fn} (hn : 0 ≤ n ∧ n ≤ 6) : ∀ (r i : Nat) (J : Fn), i + r = n → Fr [82] J0 J → (∀ j, j < 13 → J 82 j = mr i j) → ∃ J', y100_19 F n (p3 i) i J L = some (some (vi (p3 n.toNat)), S J' L) ∧ (Fr [82] J0 J' ∧ ∀ j, j < 13 → J' 82 j = mr n.toNat j)
  | 0, i, J, hi, hf, hm => by
    have e : n.toNat = i := by omega
    rw [e]
    refine ⟨J, ?_, hf, hm⟩
    exact (y100_19_1 (by omega))
  | r + 1, i, J, hi, hf, hm => by
    have hp := p3_rng i (by omega)
    obtain ⟨J1, h1, h2, h3⟩ := c_cmi (F := F) (n := n) (a := p3 i) (i := i) (J0 := J0) (L := L) (by omega) (by omega) 12 J (by omega) hf (fun j hj => by rw [if_pos (by omega)]; exact hm j hj)
    obtain ⟨J', g1, g2⟩ := c_cmo (F := F) (L := L) hn r (i + 1) J1 (by omega) h2 h3
    refine ⟨J', ?_, g2⟩
    refine Eq.trans (y100_19_2 (by omega)) ?_
    rw [show (12 : Int) = ((12 : Nat) : Int) from rfl, h1]
    exact g1
theorem c_countMore {d : Nat} {n : Int} {J L : Fn} (hn : 0 ≤ n ∧ n ≤ 6) : ∃ J', CallD (d + 2) 100 [vr 79, vi n] (S J L) = some (some (vi (p3 n.toNat)), S J' L) ∧ (Fr [82] J J' ∧ ∀ j, j < 13 → J' 82 j = mr n.toNat j) := by
  obtain ⟨J1, f1, f2, f3⟩ := c_fl (d := d) (k := 82) (n := 13) (v := 0) (I := J) (L := L) rfl (by decide) (by decide) rfl
  obtain ⟨J', g1, g2, g3⟩ := c_cmo (F := CallD (d + 1)) (J0 := J) (L := L) hn n.toNat 0 (up J1 82 0 1) (by omega) (f3.up rfl) (fun j hj => by
    rw [up_eq]
    show _ = if j = 0 then 1 else 0
    by_cases z : j = 0
    · rw [if_pos ⟨rfl, z⟩, if_pos z]
    · rw [if_neg (fun y => z y.2), if_neg z]; exact f2 j hj)
  refine ⟨J', ?_, g2, g3⟩
  refine Eq.trans (e100_1 f1) ?_
  exact g1
theorem c_wv {F : Cal} {m : Int} {f : Nat → Int} {J L : Fn} (hf : ∀ k, k < 13 → 0 ≤ f k ∧ f k ≤ 729) (hm : ∀ j, j < 13 → J 82 j = f j) : ∀ (r k : Nat) (s : Int), k + r = 13 → 0 ≤ s ∧ s ≤ 729 * k → y102_4 F m s k J L = some (some (vi (wv f m r k s)), S J L)
  | 0, k, s, hk, hs => by
    show _ = some (some (vi s), _)
    exact (y102_4_1 (by omega))
  | r + 1, k, s, hk, hs => by
    have b := hf k (by omega)
    unfold wv
    by_cases e : (k : Int) ≤ m
    · rw [if_pos e]
      have ih := c_wv (F := F) (m := m) (L := L) hf hm r (k + 1) (s + f k) (by omega) (by omega)
      rw [show ((k + 1 : Nat) : Int) = (k : Int) + 1 by omega] at ih
      refine Eq.trans (y102_4_3 (by omega) (by omega) (by omega) (show _ = f k from hm k (by omega)) (w32_id (by omega) (by omega)) (w32_id (by omega) (by omega))) ?_
      exact ih
    · rw [if_neg e]
      exact (y102_4_2 (by omega) (by omega))
theorem c_within {d n : Nat} {m : Int} {J L : Fn} (hn : n ≤ 6) (hm : ∀ j, j < 13 → J 82 j = mr n j) : CallD (d + 1) 102 [vr 79, vi m] (S J L) = some (some (vi (wv (mr n) m 13 0 0)), S J L) := by
  refine Eq.trans (e102_1) ?_
  exact c_wv (F := CallD d) (fun k hk => mr_rng n (by omega) k hk) hm 13 0 0 (by omega) (by omega)
theorem c_tir {d : Nat} {I J L : Fn} {c : Nat} {n : Nat} (h : Rel I L) (hc : c < 6) (hJ : Fr SCR I J) (hF : FarC I J (I (17 + c) 4).toNat) (hn : n ≤ 6) (hp1 : ∀ j : Nat, j < n → pth I (I (17 + c) 4) 1 (I (17 + c) 3) j ≠ I (17 + c) 4) (hp2 : pth I (I (17 + c) 4) 1 (I (17 + c) 3) n = I (17 + c) 4) : ∀ r k : Nat, k + r = n → y101_18 (CallD (d + 4)) (17 + c) (pth I (I (17 + c) 4) 1 (I (17 + c) 3) k) (tsm I c k) k J L = some (some (vi (tsm I c n)), S J L)
  | 0, k, hk => by
    have hkb := K0bag hc
    have e : k = n := by omega
    rw [e]
    have g4 : J (17 + c) 4 = I (17 + c) 4 := hJ.bag (by decide) hc 4
    exact (y101_18_2 (by omega) (by assumption) g4 (by omega))
  | r + 1, k, hk => by
    have hkb := K0bag hc
    have g4 : J (17 + c) 4 = I (17 + c) 4 := hJ.bag (by decide) hc 4
    have g7 : J (17 + c) 7 = I (17 + c) 7 := hJ.bag (by decide) hc 7
    have hbc := h.bagC hc
    obtain ⟨b0, b1, b2, b3, b4, b5, b6, b7⟩ := hbc
    unfold rng at b3 b7
    have pr := pth_rng (t := I (17 + c) 4) (w := 1) (b := I (17 + c) 3) h.1.1 (by omega) k
    have ih := c_tir (d := d) h hc hJ hF hn hp1 hp2 r (k + 1) (by omega)
    rw [show ((k + 1 : Nat) : Int) = (k : Int) + 1 by omega] at ih
    have ts := tsm_rng h.cur c k
    have tr := tk_rng h.cur c (pth I (I (17 + c) 4) 1 (I (17 + c) 3) k) (I (17 + c) 7 + k)
    have ht := c_takes (d := d) (L := L) (b := pth I (I (17 + c) 4) 1 (I (17 + c) 3) k) (g := I (17 + c) 7 + k) (h.scr hJ (Fr.refl SCL L)) hc
    rw [tk_fr h.cur hJ hc] at ht
    have rt := c_readTo (d := d + 3) (L := L) (b := pth I (I (17 + c) 4) 1 (I (17 + c) 3) k) h.1.1 hF pr
    have e1 : pth I (I (17 + c) 4) 1 (I (17 + c) 3) (k + 1) = rdS I (I (17 + c) 4).toNat (pth I (I (17 + c) 4) 1 (I (17 + c) 3) k).toNat := rfl
    have e2 : tsm I c (k + 1) = tsm I c k + tk I c (pth I (I (17 + c) 4) 1 (I (17 + c) 3) k) (I (17 + c) 7 + k) := rfl
    rw [e1, e2] at ih
    refine Eq.trans (y101_18_3 (by omega) (by assumption) g4 (hp1 k (by omega)) g7 (w32_id (by omega) (by omega)) ht (w32_id (by omega) (by omega)) rt (w32_id (by omega) (by omega))) ?_
    exact ih
theorem c_takesIfRead {d : Nat} {I J L : Fn} {c : Nat} {n : Nat} (h : Rel I L) (hc : c < 6) (hJ : Fr SCR I J) (hn : n ≤ 6) (hp1 : ∀ j : Nat, j < n → pth I (I (17 + c) 4) 1 (I (17 + c) 3) j ≠ I (17 + c) 4) (hp2 : pth I (I (17 + c) 4) 1 (I (17 + c) 3) n = I (17 + c) 4) : ∃ J', CallD (d + 5) 101 [vr 75, vr (17 + c)] (S J L) = some (some (vi (tsm I c n)), S J' L) ∧ Fr [76] J J' := by
  have hk := K0bag hc
  have hbc := h.bagC hc
  obtain ⟨b0, b1, b2, b3, b4, b5, b6, b7⟩ := hbc
  unfold rng at b4
  have g4 : J (17 + c) 4 = I (17 + c) 4 := hJ.bag (by decide) hc 4
  have hB : Bts J := (h.scr hJ (Fr.refl SCL L)).1.1
  have eb : ∀ b, b < 8 → J 11 b = I 11 b ∧ J 12 b = I 12 b := fun b _ => ⟨hJ 11 b rfl, hJ 12 b rfl⟩
  obtain ⟨J1, h1, h2, h3⟩ := c_meas (d := d + 2) (L := L) hB (t := I (17 + c) 4) (by omega)
  have g3 : J1 (17 + c) 3 = I (17 + c) 3 := (h2.bag (by decide) hc 3).trans (hJ.bag (by decide) hc 3)
  have hF : FarC I J1 (I (17 + c) 4).toNat := by
    have ed : ∀ b, b < 8 → dst J (I (17 + c) 4).toNat b = dst I (I (17 + c) 4).toNat b := by
      have er : ∀ n b, b < 8 → rcb J (I (17 + c) 4).toNat n b = rcb I (I (17 + c) 4).toNat n b := by
        intro n
        induction n with
        | zero => intro b _; rfl
        | succ n ih =>
          intro b hb
          have hq := h.1.1 b hb
          show (rcb J _ n b || (rcb J _ n (J 11 b).toNat || rcb J _ n (J 12 b).toNat)) = (rcb I _ n b || (rcb I _ n (I 11 b).toNat || rcb I _ n (I 12 b).toNat))
          rw [(eb b hb).1, (eb b hb).2, ih b hb, ih _ (by omega), ih _ (by omega)]
      intro b hb
      unfold dst
      simp only [er _ b hb]
    intro b hb
    obtain ⟨f1, f2, f3⟩ := h3 b hb
    exact ⟨f1.trans (eb b hb).1, f2.trans (eb b hb).2, f3.trans (ed b hb)⟩
  refine ⟨J1, ?_, h2⟩
  refine Eq.trans (e101_1 (by assumption) g4 h1 g3) ?_
  exact c_tir (d := d) h hc (hJ.trans (h2.mono (by decide))) hF hn hp1 hp2 n 0 (by omega)
