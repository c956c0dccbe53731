theorem Rel.tp {I I' L L' : Fn} (h : Rel I L) (hf : Fr [89, 90, 138, 139] I I') (ht : TP I' L') : Rel I' L' := by
  obtain ⟨h1, h2, h3, h4, h5, h6, h7, h8⟩ := h
  have e : I' 38 1 = I 38 1 := hf 38 1 rfl
  refine ⟨?_, WM_fr0 (WM_fr h2 hf (by decide)) hf (by decide), ?_, TX_fr h4 hf (by decide), HL_fr h5 hf (by decide), AC_fr h6 hf (by decide), ht, CS_fr h8 hf (by decide)⟩
  · rw [e]; exact WC_fr h1 hf (by decide)
  · rw [e]; exact IM_fr h3 hf (by decide)
theorem c_zero {F : Cal} {I : Fn} {t : Int} (ht : 0 ≤ t ∧ t < 6) : ∀ (r : Nat) (x : Int) (L : Fn), x + r = 60 → 0 ≤ x → ∃ L', y132_17 F t x I L = some (none, S I L') ∧ ((∀ j : Nat, L' 91 j = if 60 * t + x ≤ j ∧ (j : Int) < 60 * t + 60 then 0 else L 91 j) ∧ ∀ k j, k ≠ 91 → L' k j = L k j)
  | 0, x, L, hx, h0 => ⟨L, (y132_17_1 (by omega)), fun j => by rw [if_neg (by omega)], fun _ _ _ => rfl⟩
  | r + 1, x, L, hx, h0 => by
    obtain ⟨L', h1, h2, h3⟩ := c_zero (F := F) (I := I) ht r (x + 1) (up L 91 (60 * t + x).toNat 0) (by omega) (by omega)
    refine ⟨L', Eq.trans (y132_17_2 (by omega) (show _ = 60 * t from by rw [show t * 60 = 60 * t by omega]; exact w32_id (by omega) (by omega)) (w32_id (by omega) (by omega)) (by omega) (w32_id (by omega) (by omega))) h1, fun j => ?_, fun k j hk => ?_⟩
    · rw [h2 j, up_eq]
      by_cases e : (j : Int) = 60 * t + x
      · rw [if_neg (by omega), if_pos ⟨rfl, by omega⟩, if_pos (by omega)]
      · rw [if_neg (c := 91 = 91 ∧ j = _) (by omega)]
        by_cases g : 60 * t + (x + 1) ≤ j ∧ (j : Int) < 60 * t + 60
        · rw [if_pos g, if_pos (by omega)]
        · rw [if_neg g, if_neg (by omega)]
    · rw [h3 k j hk, up_ne hk]
theorem m_zero {F : Cal} {I : Fn} {t : Int} (ht : 0 ≤ t ∧ t < 6) : ∀ (r : Nat) (x : Int) (L : Fn), x + r = 60 → 0 ≤ x → ∃ L', y229_69 F t x I L = some (some (vi 1), S I L') ∧ ((∀ j : Nat, L' 140 j = if 60 * t + x ≤ j ∧ (j : Int) < 60 * t + 60 then 0 else L 140 j) ∧ ∀ k j, k ≠ 140 → L' k j = L k j)
  | 0, x, L, hx, h0 => ⟨L, (y229_69_1 (by omega)), fun j => by rw [if_neg (by omega)], fun _ _ _ => rfl⟩
  | r + 1, x, L, hx, h0 => by
    obtain ⟨L', h1, h2, h3⟩ := m_zero (F := F) (I := I) ht r (x + 1) (up L 140 (60 * t + x).toNat 0) (by omega) (by omega)
    refine ⟨L', Eq.trans (y229_69_2 (by omega) (w32_id (by omega) (by omega)) (w32_id (by omega) (by omega)) (by omega) (w32_id (by omega) (by omega))) h1, fun j => ?_, fun k j hk => ?_⟩
    · rw [h2 j, up_eq]
      by_cases e : (j : Int) = 60 * t + x
      · rw [if_neg (by omega), if_pos ⟨rfl, by omega⟩, if_pos (by omega)]
      · rw [if_neg (c := 140 = 140 ∧ j = _) (by omega)]
        by_cases g : 60 * t + (x + 1) ≤ j ∧ (j : Int) < 60 * t + 60
        · rw [if_pos g, if_pos (by omega)]
        · rw [if_neg g, if_neg (by omega)]
    · rw [h3 k j hk, up_ne hk]
/-- a tape begun anew -/
theorem tape_tp {I L L1 L2 : Fn} {t s n : Int} (h : TP I L) (ht : 0 ≤ t ∧ t < 6) (hs : -1 ≤ s ∧ s ≤ 4) (hn : 0 ≤ n ∧ n ≤ 60) (hsn : s = -1 → n = 0) (h1 : ∀ j : Nat, L1 91 j = if 60 * t + 0 ≤ j ∧ (j : Int) < 60 * t + 60 then 0 else L 91 j) (h1' : ∀ k j, k ≠ 91 → L1 k j = L k j) (h2 : ∀ j : Nat, L2 140 j = if 60 * t + 0 ≤ j ∧ (j : Int) < 60 * t + 60 then 0 else L1 140 j) (h2' : ∀ k j, k ≠ 140 → L2 k j = L1 k j) : TP (up (up (up (up I 89 t.toNat s) 90 t.toNat n) 138 t.toNat s) 139 t.toNat n) L2 := by
  obtain ⟨p1, p2⟩ := h
  have e91 : ∀ j : Nat, L2 91 j = if 60 * t + 0 ≤ j ∧ (j : Int) < 60 * t + 60 then 0 else L 91 j := fun j => (h2' 91 j (by decide)).trans (h1 j)
  have e140 : ∀ j : Nat, L2 140 j = if 60 * t + 0 ≤ j ∧ (j : Int) < 60 * t + 60 then 0 else L 140 j := fun j => by rw [h2 j, h1' 140 j (by decide)]
  refine ⟨fun t' ht' => ?_, fun k hk => ?_⟩
  · by_cases e : t' = t.toNat
    · subst e
      simp (disch := omega) only [upx, up_ne]
      refine ⟨hs, trivial, hn, trivial, hsn, fun _ i hi => ?_⟩
      rw [e91, if_pos (by omega)]
      unfold rng; omega
    · simp (disch := omega) only [up_nj]
      have q := p1 t' ht'
      refine ⟨q.1, q.2.1, q.2.2.1, q.2.2.2.1, q.2.2.2.2.1, fun hz i hi => ?_⟩
      rw [e91, if_neg (by omega)]
      exact q.2.2.2.2.2 hz i hi
  · rw [e91, e140]
    split
    · rfl
    · exact p2 k hk
theorem k_tape {I L : Fn} {a b c : Int} (h : Rel I L) : SameI 131 229 [vi a, vi b, vi c] I L := by
  by_cases ha : 0 ≤ a ∧ a < 6
  · by_cases hb : -1 ≤ b ∧ b ≤ 4
    · by_cases b1 : b = -1
      · obtain ⟨L1, k1, k2, k3⟩ := c_zero (F := CallD 58) (I := up (up I 89 a.toNat b) 90 a.toNat 0) (t := a) ha 60 0 L (by omega) (by omega)
        obtain ⟨L2, m1, m2, m3⟩ := m_zero (F := CallD 59) (I := up (up (up (up I 89 a.toNat b) 90 a.toNat 0) 138 a.toNat b) 139 a.toNat 0) (t := a) ha 60 0 L1 (by omega) (by omega)
        refine ⟨_, _, _, _, _, (e131_5 (isT1 ha) (by omega) (by omega) (by omega) (by omega) (Eq.trans (e132_1 (by omega)) k1)), ?_, h.tp ((((Fr.refl _ I).up rfl).up rfl).up rfl |>.up rfl) (tape_tp (n := 0) h.2.2.2.2.2.2.1 ha hb (by omega) (fun _ => rfl) k2 k3 m2 m3)⟩
        refine Eq.trans (e229_3 (mT1 ha) (by omega) (mI1 hb) (by omega) (by omega) (by omega) (by omega) (by omega)) ?_
        exact m1
      · by_cases c1 : 60 < c
        · exact ⟨_, _, _, _, _, (e131_4 (isT1 ha) (by omega) (by omega) (by omega) (by omega) (by omega)), (e229_12 (mT1 ha) (by omega) (mI1 hb) (by omega) (by omega) (by omega)), h⟩
        by_cases c2 : c < 0
        · exact ⟨_, _, _, _, _, (e131_3 (isT1 ha) (by omega) (by omega) (by omega) (by omega) (by omega) (by omega)), (e229_11 (mT1 ha) (by omega) (mI1 hb) (by omega) (by omega) (by omega) (by omega) (by omega)), h⟩
        obtain ⟨L1, k1, k2, k3⟩ := c_zero (F := CallD 58) (I := up (up I 89 a.toNat b) 90 a.toNat c) (t := a) ha 60 0 L (by omega) (by omega)
        obtain ⟨L2, m1, m2, m3⟩ := m_zero (F := CallD 59) (I := up (up (up (up I 89 a.toNat b) 90 a.toNat c) 138 a.toNat b) 139 a.toNat c) (t := a) ha 60 0 L1 (by omega) (by omega)
        refine ⟨_, _, _, _, _, (e131_2 (isT1 ha) (by omega) (by omega) (by omega) (by omega) (by omega) (by omega) (Eq.trans (e132_1 (by omega)) k1)), ?_, h.tp ((((Fr.refl _ I).up rfl).up rfl).up rfl |>.up rfl) (tape_tp (n := c) h.2.2.2.2.2.2.1 ha hb (by omega) (fun q => absurd q b1) k2 k3 m2 m3)⟩
        refine Eq.trans (e229_9 (mT1 ha) (by omega) (mI1 hb) (by omega) (by omega) (by omega) (by omega) (by omega) (by omega) (by omega)) ?_
        exact m1
    · by_cases q : b < -1
      · exact ⟨_, _, _, _, _, (e131_1 (isT1 ha) (by omega) (by omega)), (e229_1 (mT1 ha) (by omega) (mI0 hb) (by omega)), h⟩
      · exact ⟨_, _, _, _, _, (e131_6 (isT1 ha) (by omega) (by omega) (by omega)), (e229_1 (mT1 ha) (by omega) (mI0 hb) (by omega)), h⟩
  · exact ⟨_, _, _, _, _, (e131_7 (isT0 ha) (by omega)), (e229_13 (mT0 ha) (by omega)), h⟩
/-! read and item -/
theorem hasP1 {d : Nat} {I L : Fn} {t i : Int} (ht : 0 ≤ t ∧ t < 6) (h : 0 ≤ i ∧ i < I 90 t.toNat) : CallD (d + 1) 117 [vr 88, vi t, vi i] (S I L) = some (some (vi 1), S I L) := by
  exact (e117_3 (by omega) (by omega) rfl (by omega))
theorem hasP0 {d : Nat} {I L : Fn} {t i : Int} (ht : 0 ≤ t ∧ t < 6) (h : ¬ (0 ≤ i ∧ i < I 90 t.toNat)) : CallD (d + 1) 117 [vr 88, vi t, vi i] (S I L) = some (some (vi 0), S I L) := by
  by_cases q : i < 0
  · exact (e117_1 (by omega))
  · exact (e117_2 (by omega) (by omega) rfl (by omega))
theorem k_read {I L : Fn} {a b : Int} (h : Rel I L) : SameL 136 232 [vi a, vi b] I L := by
  by_cases ha : 0 ≤ a ∧ a < 6
  · have q := h.2.2.2.2.2.2.1.1 a.toNat (by omega)
    obtain ⟨q1, q2, q3, q4, q5, q6⟩ := q
    unfold rng at q1 q3
    by_cases hb : 0 ≤ b ∧ b < I 90 a.toNat
    · have e := h.2.2.2.2.2.2.1.2 (60 * a + b).toNat (by omega)
      exact ⟨_, _, _, _, _, (e136_2 (isT1 ha) (by omega) (e116_2 (hasP1 ha hb) (by omega) (show _ = 60 * a from by rw [show a * 60 = 60 * a by omega]; exact w32_id (by omega) (by omega)) (w32_id (by omega) (by omega)) (by omega) rfl)), (e232_3 (mT1 ha) (by omega) (by omega) q2 (by omega) q4 (w32_id (by omega) (by omega)) (mI1 (by omega)) (by omega) (w32_id (by omega) (by omega)) (w32_id (by omega) (by omega)) (by omega) e), h⟩
    · by_cases g : I 89 a.toNat = -1
      · exact ⟨_, _, _, _, _, (e136_2 (isT1 ha) (by omega) (e116_1 (hasP0 ha hb) (by omega))), (e232_2 (mT1 ha) (by omega) (by omega) q2 (by omega)), h⟩
      · exact ⟨_, _, _, _, _, (e136_2 (isT1 ha) (by omega) (e116_1 (hasP0 ha hb) (by omega))), (e232_4 (mT1 ha) (by omega) (by omega) q2 (by omega) q4 (w32_id (by omega) (by omega)) (mI0 (by omega)) (by omega)), h⟩
  · exact ⟨_, _, _, _, _, (e136_1 (isT0 ha) (by omega)), (e232_1 (mT0 ha) (by omega)), h⟩
def nrw (s z : Int) : Int := if s = 0 then i2b_ (w32 z) else if s = 1 then i2s_ (w32 z) else if s = 2 then w32 z else if s = 4 then (if z = 0 then 0 else 1) else z
theorem c_cut {d : Nat} {I L : Fn} {s z : Int} : CallD (d + 1) 135 [vi s, vl z] (S I L) = some (some (vl (nrw s z)), S I L) := by
  unfold nrw
  by_cases s0 : s = 0
  · rw [if_pos s0]
    exact (e135_1 (by omega) rfl rfl)
  rw [if_neg s0]
  by_cases s1 : s = 1
  · rw [if_pos s1]
    exact (e135_2 (by omega) rfl rfl)
  rw [if_neg s1]
  by_cases s2 : s = 2
  · rw [if_pos s2]
    exact (e135_3 (by omega) rfl)
  rw [if_neg s2]
  by_cases s4 : s = 4
  · rw [if_pos s4]
    by_cases z0 : z = 0
    · rw [if_pos z0]
      exact (e135_5 (by omega) (by omega))
    · rw [if_neg z0]
      exact (e135_6 (by omega) (by omega))
  rw [if_neg s4]
  by_cases s3 : s = 3
  · exact (e135_4 (by omega))
  · exact (e135_7 (by omega) (by omega) (by omega) (by omega) (by omega))
theorem m_narrow_ok {d : Nat} {I L : Fn} {s z : Int} : CallD (d + 1) 231 [vr 92, vi s, vl z] (S I L) = some (some (vl (nrw s z)), S I L) := by
  unfold nrw
  by_cases s0 : s = 0
  · rw [if_pos s0]
    exact (e231_6 (by omega) rfl rfl)
  rw [if_neg s0]
  by_cases s1 : s = 1
  · rw [if_pos s1]
    exact (e231_5 (by omega) (by omega) rfl rfl)
  rw [if_neg s1]
  by_cases s2 : s = 2
  · rw [if_pos s2]
    exact (e231_4 (by omega) (by omega) (by omega) rfl)
  rw [if_neg s2]
  by_cases s4 : s = 4
  · rw [if_pos s4]
    by_cases z0 : z = 0
    · rw [if_pos z0]
      exact (e231_2 (by omega) (by omega) (by omega) (by omega) (by omega))
    · rw [if_neg z0]
      exact (e231_3 (by omega) (by omega) (by omega) (by omega) (by omega))
  rw [if_neg s4]
  exact (e231_1 (by omega) (by omega) (by omega) (by omega))
theorem i2b_rng (x : Int) : -128 ≤ i2b_ x ∧ i2b_ x ≤ 127 := by
  unfold i2b_
  rw [Int8.toInt_toInt32]
  have h1 := Int8.le_toInt (Int32.ofInt x).toInt8
  have h2 := Int8.toInt_lt (Int32.ofInt x).toInt8
  omega
theorem k_item {I L : Fn} {a b z : Int} (h : Rel I L) : SameI 133 230 [vi a, vi b, vl z] I L := by
  by_cases ha : 0 ≤ a ∧ a < 6
  · have tp := h.2.2.2.2.2.2.1
    have q := tp.1 a.toNat (by omega)
    obtain ⟨q1, q2, q3, q4, q5, q6⟩ := q
    unfold rng at q1 q3
    by_cases g : I 89 a.toNat = -1
    · exact ⟨_, _, _, _, _, (e133_3 (isT1 ha) (by omega) (e115_1 (by omega) rfl (by omega)) rfl), (e230_3 (mT1 ha) (by omega) (by omega) q2 (by omega)), h⟩
    · by_cases hb : 0 ≤ b ∧ b < I 90 a.toNat
      · refine ⟨_, _, _, _, _, (e133_1 (isT1 ha) (by omega) (e115_2 (by omega) rfl (by omega)) (by decide) (hasP1 ha hb) (by omega) (e134_1 (show _ = 60 * a from by rw [show a * 60 = 60 * a by omega]; exact w32_id (by omega) (by omega)) (w32_id (by omega) (by omega)) (by omega) rfl c_cut (by omega))), (e230_1 (mT1 ha) (by omega) (by omega) q2 (by omega) q4 (w32_id (by omega) (by omega)) (mI1 (by omega)) (by omega) (w32_id (by omega) (by omega)) (w32_id (by omega) (by omega)) q2 m_narrow_ok (by omega)), h.tp (Fr.refl _ I) ⟨fun t' ht' => ?_, fun k hk => ?_⟩⟩
        · have q' := tp.1 t' ht'
          refine ⟨q'.1, q'.2.1, q'.2.2.1, q'.2.2.2.1, q'.2.2.2.2.1, fun hz i hi => ?_⟩
          rw [up_ne (by decide), up_eq]
          by_cases e : 60 * t' + i = (60 * a + b).toNat
          · rw [if_pos ⟨rfl, e⟩]
            have : t' = a.toNat := by omega
            rw [this] at hz
            rw [hz]
            exact i2b_rng _
          · rw [if_neg (fun w => e w.2)]
            exact q'.2.2.2.2.2 hz i hi
        · exact up_pair (f := up L 91 _ _) (g := L) (tp.2 k hk)
      · exact ⟨_, _, _, _, _, (e133_2 (isT1 ha) (by omega) (e115_2 (by omega) rfl (by omega)) (by decide) (hasP0 ha hb) (by omega)), (e230_2 (mT1 ha) (by omega) (by omega) q2 (by omega) q4 (w32_id (by omega) (by omega)) (mI0 (by omega)) (by omega)), h⟩
  · exact ⟨_, _, _, _, _, (e133_4 (isT0 ha) (by omega)), (e230_4 (mT0 ha) (by omega)), h⟩
