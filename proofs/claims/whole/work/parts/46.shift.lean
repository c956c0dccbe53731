theorem hasPs1 {d : Nat} {I L : Fn} {t i n : Int} (ht : 0 ≤ t ∧ t < 6) (hl : rng 0 60 (I 90 t.toNat)) (h : 0 ≤ n ∧ (0 ≤ i ∧ i + n ≤ I 90 t.toNat)) : CallD (d + 1) 138 [vr 88, vi t, vi i, vi n] (S I L) = some (some (vi 1), S I L) := by
  unfold rng at hl
  exact (e138_5 (by omega) (by omega) (by omega) rfl (by omega) (w32_id (by omega) (by omega)) (by omega))
theorem hasPs0 {d : Nat} {I L : Fn} {t i n : Int} (ht : 0 ≤ t ∧ t < 6) (hl : rng 0 60 (I 90 t.toNat)) (h : ¬ (0 ≤ n ∧ (0 ≤ i ∧ i + n ≤ I 90 t.toNat))) : CallD (d + 1) 138 [vr 88, vi t, vi i, vi n] (S I L) = some (some (vi 0), S I L) := by
  unfold rng at hl
  by_cases q1 : n < 0
  · exact (e138_1 (by omega))
  by_cases q2 : i < 0
  · exact (e138_2 (by omega) (by omega))
  by_cases q3 : I 90 t.toNat < i
  · exact (e138_3 (by omega) (by omega) (by omega) rfl (by omega))
  · exact (e138_4 (by omega) (by omega) (by omega) rfl (by omega) (w32_id (by omega) (by omega)) (by omega))
theorem sh_aside {F : Cal} {I : Fn} {t i o j n : Int} (ht : 0 ≤ t ∧ t < 6) (hi : 0 ≤ i ∧ i + n ≤ 60) : ∀ (r : Nat) (x : Int) (L : Fn), x + r = n → 0 ≤ x → ∃ L', y233_104 F t i o j n x I L = y233_141 F o j n 0 I L' ∧ ((∀ k : Nat, L' 141 k = if x ≤ k ∧ (k : Int) < n then L 140 (60 * t + i + k).toNat else L 141 k) ∧ ∀ k y, k ≠ 141 → L' k y = L k y)
  | 0, x, L, hx, h0 => ⟨L, (y233_104_1 (by omega)), fun k => by rw [if_neg (by omega)], fun _ _ _ => rfl⟩
  | r + 1, x, L, hx, h0 => by
    obtain ⟨L', h1, h2, h3⟩ := sh_aside (F := F) (I := I) (o := o) (j := j) ht hi r (x + 1) (up L 141 x.toNat (L 140 (60 * t + i + x).toNat)) (by omega) (by omega)
    refine ⟨L', Eq.trans (y233_104_2 (by omega) (w32_id (by omega) (by omega)) (w32_id (by omega) (by omega)) (w32_id (by omega) (by omega)) (by omega) rfl (by omega) (w32_id (by omega) (by omega))) h1, fun k => ?_, fun k y hk => ?_⟩
    · rw [h2 k, up_ne (by decide), up_eq]
      by_cases e : (k : Int) = x
      · rw [if_neg (by omega), if_pos ⟨rfl, by omega⟩, if_pos (by omega), e]
      · rw [if_neg (c := 141 = 141 ∧ k = _) (by omega)]
        by_cases g : x + 1 ≤ k ∧ (k : Int) < n
        · rw [if_pos g, if_pos (by omega)]
        · rw [if_neg g, if_neg (by omega)]
    · rw [h3 k y hk, up_ne hk]
theorem sh_back {F : Cal} {I : Fn} {o j n : Int} (ho : 0 ≤ o ∧ o < 6) (hj : 0 ≤ j ∧ j + n ≤ 60) : ∀ (r : Nat) (x : Int) (L : Fn), x + r = n → 0 ≤ x → ∃ L', y233_141 F o j n x I L = some (some (vi n), S I L') ∧ ((∀ k : Nat, L' 140 k = if 60 * o + j + x ≤ k ∧ (k : Int) < 60 * o + j + n then L 141 (k - (60 * o + j).toNat) else L 140 k) ∧ ∀ k y, k ≠ 140 → L' k y = L k y)
  | 0, x, L, hx, h0 => ⟨L, (y233_141_1 (by omega)), fun k => by rw [if_neg (by omega)], fun _ _ _ => rfl⟩
  | r + 1, x, L, hx, h0 => by
    obtain ⟨L', h1, h2, h3⟩ := sh_back (F := F) (I := I) ho hj r (x + 1) (up L 140 (60 * o + j + x).toNat (L 141 x.toNat)) (by omega) (by omega)
    refine ⟨L', Eq.trans (y233_141_2 (by omega) (w32_id (by omega) (by omega)) (w32_id (by omega) (by omega)) (w32_id (by omega) (by omega)) (by omega) rfl (by omega) (w32_id (by omega) (by omega))) h1, fun k => ?_, fun k y hk => ?_⟩
    · rw [h2 k, up_ne (by decide), up_eq]
      by_cases e : (k : Int) = 60 * o + j + x
      · rw [if_neg (by omega), if_pos ⟨rfl, by omega⟩, if_pos (by omega), show k - (60 * o + j).toNat = x.toNat by omega]
      · rw [if_neg (c := 140 = 140 ∧ k = _) (by omega)]
        by_cases g : 60 * o + j + (x + 1) ≤ k ∧ (k : Int) < 60 * o + j + n
        · rw [if_pos g, if_pos (by omega)]
        · rw [if_neg g, if_neg (by omega)]
    · rw [h3 k y hk, up_ne hk]
theorem k_shift {I L : Fn} {a b c e n : Int} (h : Rel I L) (hn : -2147483648 ≤ n ∧ n < 2147483648) : SameI 137 233 [vi a, vi b, vi c, vi e, vi n] I L := by
  by_cases ha : 0 ≤ a ∧ a < 6
  · by_cases hc : 0 ≤ c ∧ c < 6
    · have tp := h.2.2.2.2.2.2.1
      obtain ⟨q1, q2, q3, q4, q5, q6⟩ := tp.1 a.toNat (by omega)
      obtain ⟨p1, p2, p3, p4, p5, p6⟩ := tp.1 c.toNat (by omega)
      have q3' := q3
      have p3' := p3
      unfold rng at q1 q3' p1 p3'
      by_cases g1 : I 89 a.toNat = -1
      · exact ⟨_, _, _, _, _, (e137_2 (isT1 ha) (by omega) (isT1 hc) (by omega) (e115_1 (by omega) rfl (by omega)) rfl), (e233_2 (mT1 ha) (by omega) (mT1 hc) (by omega) (by omega) q2 (by omega)), h⟩
      by_cases g2 : I 89 c.toNat = -1
      · exact ⟨_, _, _, _, _, (e137_7 (isT1 ha) (by omega) (isT1 hc) (by omega) (e115_2 (by omega) rfl (by omega)) (by decide) (e115_1 (by omega) rfl (by omega)) rfl), (e233_10 (mT1 ha) (by omega) (mT1 hc) (by omega) (by omega) q2 (by omega) (by omega) p2 (by omega)), h⟩
      by_cases g3 : I 89 a.toNat = I 89 c.toNat
      · by_cases w1 : 0 ≤ n ∧ (0 ≤ b ∧ b + n ≤ I 90 a.toNat)
        · by_cases w2 : 0 ≤ n ∧ (0 ≤ e ∧ e + n ≤ I 90 c.toNat)
          · have mv : CallD 59 139 [vr 88, vi a, vi b, vi c, vi e, vi n] (S I L) = some (none, S I (cpy L 91 (60 * a + b).toNat 91 (60 * c + e).toNat n.toNat)) := (e139_1 (show _ = 60 * a from by rw [show a * 60 = 60 * a by omega]; exact w32_id (by omega) (by omega)) (w32_id (by omega) (by omega)) (show _ = 60 * c from by rw [show c * 60 = 60 * c by omega]; exact w32_id (by omega) (by omega)) (w32_id (by omega) (by omega)) (by omega))
            obtain ⟨L2, k1, k2, k3⟩ := sh_aside (F := CallD 59) (I := I) (t := a) (i := b) (o := c) (j := e) (n := n) ha (by omega) n.toNat 0 (cpy L 91 (60 * a + b).toNat 91 (60 * c + e).toNat n.toNat) (by omega) (by omega)
            obtain ⟨L3, m1, m2, m3⟩ := sh_back (F := CallD 59) (I := I) (o := c) (j := e) (n := n) hc (by omega) n.toNat 0 L2 (by omega) (by omega)
            have v91 : ∀ x : Nat, L3 91 x = if 60 * c + e ≤ x ∧ (x : Int) < 60 * c + e + n then L 91 (60 * a + b + (x - (60 * c + e))).toNat else L 91 x := by
              intro x
              rw [m3 91 x (by decide), k3 91 x (by decide), cpy_eq]
              by_cases z : 60 * c + e ≤ x ∧ (x : Int) < 60 * c + e + n
              · rw [if_pos z, if_pos ⟨rfl, by omega⟩, show (60 * a + b).toNat + (x - (60 * c + e).toNat) = (60 * a + b + (x - (60 * c + e))).toNat by omega]
              · rw [if_neg z, if_neg (by omega)]
            have v140 : ∀ x : Nat, L3 140 x = if 60 * c + e ≤ x ∧ (x : Int) < 60 * c + e + n then L 140 (60 * a + b + (x - (60 * c + e))).toNat else L 140 x := by
              intro x
              rw [m2 x]
              by_cases z : 60 * c + e ≤ x ∧ (x : Int) < 60 * c + e + n
              · rw [if_pos z, if_pos (by omega), k2, if_pos (by omega), cpy_eq, if_neg (by omega), show (60 * a + b + ((x - (60 * c + e).toNat : Nat) : Int)).toNat = (60 * a + b + (x - (60 * c + e))).toNat by omega]
              · rw [if_neg z, if_neg (by omega), k3 140 x (by decide), cpy_eq, if_neg (by omega)]
            refine ⟨_, _, _, I, L3, (e137_4 (isT1 ha) (by omega) (isT1 hc) (by omega) (e115_2 (by omega) rfl (by omega)) (by decide) (e115_2 (by omega) rfl (by omega)) (by decide) (by omega) rfl (by omega) rfl (by omega) (hasPs1 ha q3 w1) (by decide) (hasPs1 hc p3 w2) (by decide) mv), ?_, h.tp (Fr.refl _ I) ⟨fun t' ht' => ?_, fun k hk => ?_⟩⟩
            · refine Eq.trans (e233_7 (mT1 ha) (by omega) (mT1 hc) (by omega) (by omega) q2 (by omega) (by omega) p2 (by omega) (by omega) (by omega) (by omega) (by omega) q4 (w32_id (by omega) (by omega)) (by omega) p4 (w32_id (by omega) (by omega)) (by omega)) ?_
              exact k1.trans m1
            · have q' := tp.1 t' ht'
              refine ⟨q'.1, q'.2.1, q'.2.2.1, q'.2.2.2.1, q'.2.2.2.2.1, fun hz i hi => ?_⟩
              rw [v91]
              by_cases z : 60 * c + e ≤ ((60 * t' + i : Nat) : Int) ∧ ((60 * t' + i : Nat) : Int) < 60 * c + e + n
              · rw [if_pos z]
                have et : t' = c.toNat := by omega
                rw [et] at hz
                have r1 := q6 (g3.trans hz) (b + (((60 * t' + i : Nat) : Int) - (60 * c + e))).toNat (by omega)
                rw [show 60 * a.toNat + (b + (((60 * t' + i : Nat) : Int) - (60 * c + e))).toNat = (60 * a + b + (((60 * t' + i : Nat) : Int) - (60 * c + e))).toNat by omega] at r1
                exact r1
              · rw [if_neg z]
                exact q'.2.2.2.2.2 hz i hi
            · rw [v91, v140]
              by_cases z : 60 * c + e ≤ (k : Int) ∧ (k : Int) < 60 * c + e + n
              · rw [if_pos z, if_pos z]
                exact tp.2 _ (by omega)
              · rw [if_neg z, if_neg z]
                exact tp.2 k hk
          · refine ⟨_, _, _, _, _, (e137_5 (isT1 ha) (by omega) (isT1 hc) (by omega) (e115_2 (by omega) rfl (by omega)) (by decide) (e115_2 (by omega) rfl (by omega)) (by decide) (by omega) rfl (by omega) rfl (by omega) (hasPs1 ha q3 w1) (by decide) (hasPs0 hc p3 w2) rfl), ?_, h⟩
            by_cases z : e < 0
            · exact (e233_5 (mT1 ha) (by omega) (mT1 hc) (by omega) (by omega) q2 (by omega) (by omega) p2 (by omega) (by omega) (by omega) (by omega) (by omega))
            · exact (e233_8 (mT1 ha) (by omega) (mT1 hc) (by omega) (by omega) q2 (by omega) (by omega) p2 (by omega) (by omega) (by omega) (by omega) (by omega) q4 (w32_id (by omega) (by omega)) (by omega) p4 (w32_id (by omega) (by omega)) (by omega))
        · refine ⟨_, _, _, _, _, (e137_3 (isT1 ha) (by omega) (isT1 hc) (by omega) (e115_2 (by omega) rfl (by omega)) (by decide) (e115_2 (by omega) rfl (by omega)) (by decide) (by omega) rfl (by omega) rfl (by omega) (hasPs0 ha q3 w1) rfl), ?_, h⟩
          by_cases z : n < 0
          · exact (e233_3 (mT1 ha) (by omega) (mT1 hc) (by omega) (by omega) q2 (by omega) (by omega) p2 (by omega) (by omega) (by omega))
          by_cases z1 : b < 0
          · exact (e233_4 (mT1 ha) (by omega) (mT1 hc) (by omega) (by omega) q2 (by omega) (by omega) p2 (by omega) (by omega) (by omega) (by omega))
          by_cases z2 : e < 0
          · exact (e233_5 (mT1 ha) (by omega) (mT1 hc) (by omega) (by omega) q2 (by omega) (by omega) p2 (by omega) (by omega) (by omega) (by omega) (by omega))
          · exact (e233_6 (mT1 ha) (by omega) (mT1 hc) (by omega) (by omega) q2 (by omega) (by omega) p2 (by omega) (by omega) (by omega) (by omega) (by omega) q4 (w32_id (by omega) (by omega)) (by omega))
      · exact ⟨_, _, _, _, _, (e137_6 (isT1 ha) (by omega) (isT1 hc) (by omega) (e115_2 (by omega) rfl (by omega)) (by decide) (e115_2 (by omega) rfl (by omega)) (by decide) (by omega) rfl (by omega) rfl (by omega)), (e233_9 (mT1 ha) (by omega) (mT1 hc) (by omega) (by omega) q2 (by omega) (by omega) p2 (by omega) (by omega)), h⟩
    · exact ⟨_, _, _, _, _, (e137_8 (isT1 ha) (by omega) (isT0 hc) (by omega)), (e233_11 (mT1 ha) (by omega) (mT0 hc) (by omega)), h⟩
  · exact ⟨_, _, _, _, _, (e137_1 (isT0 ha) (by omega)), (e233_1 (mT0 ha) (by omega)), h⟩
