/-! RING -/
theorem c_ri {d : Nat} {I J L : Fn} {c : Nat} {s p : Nat} {t : Int} (hB : Bts I) (hc : c < 6) (ht : J (17 + c) 4 = t) (hF : FarC I J t.toNat) (hs : s < 8) (hp : p < 8) : ∀ (r b x : Nat), b + r = 8 → PI (mst I t) s x p b → ∃ x' : Nat, y76_26 (CallD (d + 1)) (17 + c) x ((p + 1 : Nat) : Int) b J L = y76_17 (CallD (d + 1)) (17 + c) x' ((p + 1 + 1 : Nat) : Int) J L ∧ PI (mst I t) s x' (p + 1) 0
  | 0, b, x, hb, h => by
    have : b = 8 := by omega
    subst this
    refine ⟨x, ?_, PI_end (mst_B hB) hs h⟩
    rw [show ((p + 1 + 1 : Nat) : Int) = ((p + 1 : Nat) : Int) + 1 by omega]
    refine Eq.trans (y76_26_1 (by omega) (w32_id (by omega) (by omega))) ?_
    rfl
  | r + 1, b, x, hb, h => by
    have hk := K0bag hc
    have ha := has_all x h.1 b (by omega)
    have ih := fun x' => c_ri (d := d) (L := L) hB hc ht hF hs hp r (b + 1) x' (by omega)
    rw [show ((b + 1 : Nat) : Int) = (b : Int) + 1 by omega] at ih
    cases hx : x.testBit b with
    | false =>
      rw [hx] at ha
      obtain ⟨x', h1, h2⟩ := ih x (PI_no h (by omega) hx)
      refine ⟨x', ?_, h2⟩
      refine Eq.trans (y76_26_2 (by omega) rfl ha (by decide) (w32_id (by omega) (by omega))) ?_
      exact h1
    | true =>
      rw [hx] at ha
      by_cases e : (b : Int) = t
      · obtain ⟨x', h1, h2⟩ := ih x (PI_at h hx (if_pos e) (if_pos e))
        refine ⟨x', ?_, h2⟩
        refine Eq.trans (y76_26_3 (by omega) rfl ha rfl (by assumption) ht (by omega) (w32_id (by omega) (by omega))) ?_
        exact h1
      · have hq := hB b (by omega)
        have hr := rdS_rng (t := t.toNat) hB (b := b) (by omega)
        have e1 : mst I t 11 b = I 11 b := if_neg e
        have e2 : mst I t 12 b = rdS I t.toNat b := if_neg e
        have f1 := (hF b (by omega)).1
        have rt := c_readTo (d := d) (L := L) (b := (b : Int)) hB hF (by omega)
        rw [Int.toNat_natCast] at rt
        obtain ⟨x', h1, h2⟩ := ih (x ||| (2 ^ (I 11 b).toNat ||| 2 ^ (rdS I t.toNat b).toNat)) (PI_go (mst_B hB) hs h (by omega) hx (or_lt h.1 (or_lt (p2_lt (by omega)) (p2_lt (by omega)))) (fun q => by rw [e1, e2]; exact set_add))
        refine ⟨x', ?_, h2⟩
        have s1 : shl32 1 (I 11 b) = ((2 ^ (I 11 b).toNat : Nat) : Int) := by
          have := shl1_all (I 11 b).toNat (by omega)
          rw [Int.toNat_of_nonneg hq.1.1] at this
          exact this
        have s2 : shl32 1 (rdS I t.toNat b) = ((2 ^ (rdS I t.toNat b).toNat : Nat) : Int) := by
          have := shl1_all (rdS I t.toNat b).toNat (by omega)
          rw [Int.toNat_of_nonneg hr.1] at this
          exact this
        have l1 := p2_lt (b := (I 11 b).toNat) (by omega)
        have l2 := p2_lt (b := (rdS I t.toNat b).toNat) (by omega)
        have l3 := or_lt l1 l2
        have l4 := h.1
        refine Eq.trans (y76_26_4 (by omega) rfl ha rfl (by assumption) ht (by omega) (by omega) f1 s1 rt s2 (or32_nat (by omega) (by omega)) (or32_nat (by omega) (by omega)) (w32_id (by omega) (by omega))) ?_
        exact h1
theorem c_ro {d : Nat} {I J L : Fn} {c : Nat} {s : Nat} {t : Int} (hB : Bts I) (hc : c < 6) (ht : J (17 + c) 4 = t) (hF : FarC I J t.toNat) (hs : s < 8) : ∀ (r p x : Nat), p + r = 7 → PI (mst I t) s x p 0 → ∃ x' : Nat, y76_17 (CallD (d + 1)) (17 + c) x ((p + 1 : Nat) : Int) J L = y76_90 (CallD (d + 1)) x' 0 J L ∧ PI (mst I t) s x' 7 0
  | 0, p, x, hp, h => by
    have : p = 7 := by omega
    subst this
    refine ⟨x, ?_, h⟩
    exact (y76_17_1 (by omega))
  | r + 1, p, x, hp, h => by
    obtain ⟨x1, g1, g2⟩ := c_ri (d := d) (L := L) (p := p) hB hc ht hF hs (by omega) 8 0 x (by omega) h
    obtain ⟨x', h1, h2⟩ := c_ro (d := d) (L := L) hB hc ht hF hs r (p + 1) x1 (by omega) g2
    refine ⟨x', ?_, h2⟩
    refine Eq.trans (y76_17_2 (by omega)) ?_
    exact Eq.trans g1 h1
theorem c_rc {F : Cal} {I J L : Fn} {t : Nat} {x0 : Nat} (hF : FarC I J t) : ∀ (r b x : Nat), b + r = 8 → x < 256 → (∀ q, q < 8 → (x.testBit q = true ↔ (x0.testBit q = true ∧ (q < b → ¬ dst I t q < 99)))) → ∃ x' : Nat, y76_90 F x b J L = some (some (vi ((x' : Nat) : Int)), S J L) ∧ (x' < 256 ∧ ∀ q, q < 8 → (x'.testBit q = true ↔ (x0.testBit q = true ∧ ¬ dst I t q < 99)))
  | 0, b, x, hb, hx, h => by
    refine ⟨x, ?_, hx, fun q hq => ?_⟩
    · exact (y76_90_1 (by omega))
    · rw [h q hq]
      exact ⟨fun ⟨a, b⟩ => ⟨a, b (by omega)⟩, fun ⟨a, b⟩ => ⟨a, fun _ => b⟩⟩
  | r + 1, b, x, hb, hx, h => by
    have f3 := (hF b (by omega)).2.2
    by_cases e : dst I t b < 99
    · have hc := clr_all x hx b (by omega)
      have hl : x &&& (255 ^^^ 2 ^ b) < 256 := Nat.lt_of_le_of_lt Nat.and_le_left hx
      obtain ⟨x', h1, h2⟩ := c_rc (F := F) (L := L) (x0 := x0) hF r (b + 1) (x &&& (255 ^^^ 2 ^ b)) (by omega) hl (fun q hq => by
        rw [Nat.testBit_and, Nat.testBit_xor, t255 q hq, Nat.testBit_two_pow, Bool.and_eq_true, h q hq]
        by_cases z : b = q
        · subst z
          simp
          intro _
          exact e
        · simp [z]
          intro _
          constructor
          · intro g w
            exact g (by omega)
          · intro g w
            exact g (by omega))
      refine ⟨x', ?_, h2⟩
      rw [show ((b + 1 : Nat) : Int) = (b : Int) + 1 by omega] at h1
      rw [← hc] at h1
      refine Eq.trans (y76_90_3 (by omega) (by omega) (show _ = dst I t b from f3) (by omega) rfl rfl rfl (w32_id (by omega) (by omega))) ?_
      exact h1
    · obtain ⟨x', h1, h2⟩ := c_rc (F := F) (L := L) (x0 := x0) hF r (b + 1) x (by omega) hx (fun q hq => by
        rw [h q hq]
        constructor
        · rintro ⟨g1, g2⟩
          refine ⟨g1, fun w => ?_⟩
          by_cases z : q = b
          · rw [z]; exact e
          · exact g2 (by omega)
        · rintro ⟨g1, g2⟩
          exact ⟨g1, fun w => g2 (by omega)⟩)
      refine ⟨x', ?_, h2⟩
      rw [show ((b + 1 : Nat) : Int) = (b : Int) + 1 by omega] at h1
      refine Eq.trans (y76_90_2 (by omega) (by omega) (show _ = dst I t b from f3) (by omega) (w32_id (by omega) (by omega))) ?_
      exact h1
/-- Ways.ringBits -/
theorem c_ringBits {d : Nat} {I L : Fn} {c : Nat} (h : Rel I L) (hc : c < 6) : ∃ (J : Fn) (x : Nat), CallD (d + 3) 76 [vr 75, vr (17 + c)] (S I L) = some (some (vi ((x : Nat) : Int)), S J L) ∧ (Fr [76] I J ∧ (x < 256 ∧ ∀ q, q < 8 → (x.testBit q = true ↔ (rcb (mst I (I (17 + c) 4)) q 7 (I (17 + c) 3).toNat = true ∧ ¬ dst I (I (17 + c) 4).toNat q < 99)))) := by
  have hk := K0bag hc
  have hbc := h.bagC hc
  obtain ⟨b0, b1, b2, b3, b4, b5⟩ := hbc
  unfold rng at b3 b4
  obtain ⟨J, h1, h2, h3⟩ := c_meas (d := d) (L := L) h.1.1 (t := I (17 + c) 4) (by omega)
  have g3 : J (17 + c) 3 = I (17 + c) 3 := h2.bag (by decide) hc 3
  have g4 : J (17 + c) 4 = I (17 + c) 4 := h2.bag (by decide) hc 4
  obtain ⟨x1, f1, f2⟩ := c_ro (d := d + 1) (L := L) (s := (I (17 + c) 3).toNat) h.1.1 hc g4 h3 (by omega) 7 0 (2 ^ (I (17 + c) 3).toNat) (by omega) (PI_start (by omega))
  obtain ⟨x2, e1, e2, e3⟩ := c_rc (F := CallD (d + 2)) (L := L) (x0 := x1) h3 8 0 x1 (by omega) f2.1 (fun q hq => ⟨fun g => ⟨g, fun w => by omega⟩, fun g => g.1⟩)
  refine ⟨J, x2, ?_, h2, e2, fun q hq => ?_⟩
  · have s1 : shl32 1 (I (17 + c) 3) = ((2 ^ (I (17 + c) 3).toNat : Nat) : Int) := by
      have := shl1_all (I (17 + c) 3).toNat (by omega)
      rw [Int.toNat_of_nonneg b3.1] at this
      exact this
    refine Eq.trans (e76_1 (by assumption) rfl h1 g3 s1) ?_
    exact Eq.trans f1 e1
  · rw [e3 q hq, PI_all (Nat.le_refl 7) f2 hq]
/-! the reference -/
theorem m_has0 {d : Nat} {J L : Fn} {x b : Nat} (hx : x < 256) (hb : b < 8) (h : x.testBit b = false) : CallD (d + 1) 190 [vr 92, vi x, vi b] (S J L) = some (some (vi 0), S J L) := by
  have ha := has_all x hx b hb
  rw [h] at ha
  exact (e190_1 rfl ha (by decide))
theorem m_has1 {d : Nat} {J L : Fn} {x b : Nat} (hx : x < 256) (hb : b < 8) (h : x.testBit b = true) : CallD (d + 1) 190 [vr 92, vi x, vi b] (S J L) = some (some (vi 1), S J L) := by
  have ha := has_all x hx b hb
  rw [h] at ha
  exact (e190_2 rfl ha rfl)
theorem m_si {d : Nat} {I J L : Fn} {c t : Int} {s p : Nat} (hB : Bts I) (hc : 0 ≤ c ∧ c < 6) (ht : J 98 c.toNat = t) (hF : FarM I J t.toNat) (hs : s < 8) (hp : p < 8) : ∀ (r b x : Nat), b + r = 8 → PI (mst I t) s x p b → ∃ x' : Nat, y189_15 (CallD (d + 1)) c x p b J L = y189_5 (CallD (d + 1)) c x' ((p + 1 : Nat) : Int) J L ∧ PI (mst I t) s x' (p + 1) 0
  | 0, b, x, hb, h => by
    have : b = 8 := by omega
    subst this
    refine ⟨x, ?_, PI_end (mst_B hB) hs h⟩
    rw [show ((p + 1 : Nat) : Int) = (p : Int) + 1 by omega]
    refine Eq.trans (y189_15_1 (by omega) (w32_id (by omega) (by omega))) ?_
    rfl
  | r + 1, b, x, hb, h => by
    have ih := fun x' => m_si (d := d) (L := L) hB hc ht hF hs hp r (b + 1) x' (by omega)
    rw [show ((b + 1 : Nat) : Int) = (b : Int) + 1 by omega] at ih
    cases hx : x.testBit b with
    | false =>
      obtain ⟨x', h1, h2⟩ := ih x (PI_no h (by omega) hx)
      refine ⟨x', ?_, h2⟩
      refine Eq.trans (y189_15_2 (by omega) (m_has0 h.1 (by omega) hx) rfl (w32_id (by omega) (by omega))) ?_
      exact h1
    | true =>
      by_cases e : (b : Int) = t
      · obtain ⟨x', h1, h2⟩ := ih x (PI_at h hx (if_pos e) (if_pos e))
        refine ⟨x', ?_, h2⟩
        refine Eq.trans (y189_15_3 (by omega) (m_has1 h.1 (by omega) hx) (by decide) (by omega) ht (by omega) (w32_id (by omega) (by omega))) ?_
        exact h1
      · have hq := hB b (by omega)
        have hr := rdS_rng (t := t.toNat) hB (b := b) (by omega)
        have e1 : mst I t 11 b = I 11 b := if_neg e
        have e2 : mst I t 12 b = rdS I t.toNat b := if_neg e
        have m1 := m_step_ok (d := d) (L := L) (w := 1) (b := (b : Int)) hB hF (by omega)
        have m0 := m_step_ok (d := d) (L := L) (w := 0) (b := (b : Int)) hB hF (by omega)
        rw [Int.toNat_natCast, show stS I t.toNat 1 b = rdS I t.toNat b from rfl] at m1
        rw [Int.toNat_natCast, show stS I t.toNat 0 b = I 11 b from rfl] at m0
        obtain ⟨x', h1, h2⟩ := ih (x ||| (2 ^ (rdS I t.toNat b).toNat ||| 2 ^ (I 11 b).toNat)) (PI_go (mst_B hB) hs h (by omega) hx (or_lt h.1 (or_lt (p2_lt (by omega)) (p2_lt (by omega)))) (fun q => by
          rw [e1, e2, set_add]
          constructor
          · rintro (z | z | z)
            · exact .inl z
            · exact .inr (.inr z)
            · exact .inr (.inl z)
          · rintro (z | z | z)
            · exact .inl z
            · exact .inr (.inr z)
            · exact .inr (.inl z)))
        refine ⟨x', ?_, h2⟩
        have s1 : shl32 1 (I 11 b) = ((2 ^ (I 11 b).toNat : Nat) : Int) := by
          have := shl1_all (I 11 b).toNat (by omega)
          rw [Int.toNat_of_nonneg hq.1.1] at this
          exact this
        have s2 : shl32 1 (rdS I t.toNat b) = ((2 ^ (rdS I t.toNat b).toNat : Nat) : Int) := by
          have := shl1_all (rdS I t.toNat b).toNat (by omega)
          rw [Int.toNat_of_nonneg hr.1] at this
          exact this
        have l1 := p2_lt (b := (I 11 b).toNat) (by omega)
        have l2 := p2_lt (b := (rdS I t.toNat b).toNat) (by omega)
        have l3 := or_lt l2 l1
        have l4 := h.1
        refine Eq.trans (y189_15_4 (by omega) (m_has1 h.1 (by omega) hx) (by decide) (by omega) ht (by omega) m1 s2 m0 s1 (or32_nat (by omega) (by omega)) (or32_nat (by omega) (by omega)) (w32_id (by omega) (by omega))) ?_
        exact h1
theorem m_so {d : Nat} {I J L : Fn} {c t : Int} {s : Nat} (hB : Bts I) (hc : 0 ≤ c ∧ c < 6) (ht : J 98 c.toNat = t) (hF : FarM I J t.toNat) (hs : s < 8) : ∀ (r p x : Nat), p + r = 8 → PI (mst I t) s x p 0 → ∃ x' : Nat, y189_5 (CallD (d + 1)) c x p J L = some (some (vi ((x' : Nat) : Int)), S J L) ∧ PI (mst I t) s x' 8 0
  | 0, p, x, hp, h => by
    have : p = 8 := by omega
    subst this
    refine ⟨x, ?_, h⟩
    exact (y189_5_1 (by omega))
  | r + 1, p, x, hp, h => by
    obtain ⟨x1, g1, g2⟩ := m_si (d := d) (L := L) (p := p) hB hc ht hF hs (by omega) 8 0 x (by omega) h
    obtain ⟨x', h1, h2⟩ := m_so (d := d) (L := L) hB hc ht hF hs r (p + 1) x1 (by omega) g2
    refine ⟨x', ?_, h2⟩
    refine Eq.trans (y189_5_2 (by omega)) ?_
    exact Eq.trans g1 h1
theorem m_spread_ok {d : Nat} {I J L : Fn} {c t : Int} {s : Nat} (hB : Bts I) (hc : 0 ≤ c ∧ c < 6) (ht : J 98 c.toNat = t) (hF : FarM I J t.toNat) (hs : s < 8) : ∃ x : Nat, CallD (d + 2) 189 [vr 92, vi c, vi ((2 ^ s : Nat) : Int)] (S J L) = some (some (vi ((x : Nat) : Int)), S J L) ∧ (x < 256 ∧ ∀ q, q < 8 → (x.testBit q = true ↔ rcb (mst I t) q 7 s = true)) := by
  obtain ⟨x, h1, h2⟩ := m_so (d := d) (L := L) hB hc ht hF hs 8 0 (2 ^ s) (by omega) (PI_start hs)
  refine ⟨x, ?_, h2.1, fun q hq => PI_all (by omega) h2 hq⟩
  refine Eq.trans (e189_1) ?_
  exact h1
theorem or32_0 {x : Nat} (h : x < 256) : or32 x 0 = x := or0 (by omega)
theorem m_rl {d : Nat} {I J L : Fn} {c t : Int} {x0 : Nat} (hB : Bts I) (hc : 0 ≤ c ∧ c < 6) (ht : J 98 c.toNat = t) (ht8 : 0 ≤ t ∧ t < 8) (hF : FarM I J t.toNat) (hx0 : x0 < 256) : ∀ (r b x : Nat), b + r = 8 → x < 256 → (∀ q, q < 8 → (x.testBit q = true ↔ (q < b ∧ (x0.testBit q = true ∧ ¬ dst I t.toNat q < 99)))) → ∃ x' : Nat, y188_39 (CallD (d + 2)) c x0 x b J L = some (some (vi ((x' : Nat) : Int)), S J L) ∧ (x' < 256 ∧ ∀ q, q < 8 → (x'.testBit q = true ↔ (x0.testBit q = true ∧ ¬ dst I t.toNat q < 99)))
  | 0, b, x, hb, hx, h => by
    refine ⟨x, ?_, hx, fun q hq => ?_⟩
    · exact (y188_39_1 (by omega))
    · rw [h q hq]
      exact ⟨fun w => w.2, fun w => ⟨by omega, w⟩⟩
  | r + 1, b, x, hb, hx, h => by
    have ih := fun x' => m_rl (d := d) (L := L) hB hc ht ht8 hF hx0 r (b + 1) x' (by omega)
    rw [show ((b + 1 : Nat) : Int) = (b : Int) + 1 by omega] at ih
    have stay : ¬ (x0.testBit b = true ∧ ¬ dst I t.toNat b < 99) → ∀ q, q < 8 → (x.testBit q = true ↔ (q < b + 1 ∧ (x0.testBit q = true ∧ ¬ dst I t.toNat q < 99))) := by
      intro hn q hq
      rw [h q hq]
      constructor
      · rintro ⟨w1, w2⟩
        exact ⟨by omega, w2⟩
      · rintro ⟨w1, w2⟩
        refine ⟨?_, w2⟩
        by_cases z : q = b
        · subst z
          exact absurd w2 hn
        · omega
    cases h0 : x0.testBit b with
    | false =>
      obtain ⟨x', h1, h2⟩ := ih x hx (stay (fun w => by rw [h0] at w; cases w.1))
      refine ⟨x', ?_, h2⟩
      refine Eq.trans (y188_39_2 (by omega) (m_has0 hx0 (by omega) h0) rfl (or32_0 hx) (w32_id (by omega) (by omega))) ?_
      exact h1
    | true =>
      obtain ⟨y, g1, g2, g3⟩ := m_spread_ok (d := d) (L := L) (s := b) hB hc ht hF (by omega)
      rw [← shl1_all b (by omega)] at g1
      have g4 := g3 t.toNat (by omega)
      rw [show mst I t = mst I (t.toNat : Nat) by rw [Int.toNat_of_nonneg ht8.1], mst_far hB (by omega) (by omega)] at g4
      have hth : ∀ v, CallD (d + 2) 190 [vr 92, vi y, vi ((t.toNat : Nat) : Int)] (S J L) = v → CallD (d + 2) 190 [vr 92, vi y, vi t] (S J L) = v := by
        intro v hv
        rw [Int.toNat_of_nonneg ht8.1] at hv
        exact hv
      by_cases e : dst I t.toNat b < 99
      · obtain ⟨x', h1, h2⟩ := ih x hx (stay (fun w => w.2 e))
        refine ⟨x', ?_, h2⟩
        refine Eq.trans (y188_39_3 (by omega) (m_has1 hx0 (by omega) h0) (by decide) rfl g1 (by omega) ht (hth _ (m_has1 g2 (by omega) (g4.mpr e))) (by decide) (or32_0 hx) (w32_id (by omega) (by omega))) ?_
        exact h1
      · have e' : y.testBit t.toNat = false := by
          cases z : y.testBit t.toNat with
          | false => rfl
          | true => exact absurd (g4.mp z) e
        have l1 := p2_lt (b := b) (by omega)
        obtain ⟨x', h1, h2⟩ := ih (x ||| 2 ^ b) (or_lt hx l1) (fun q hq => by
          rw [Nat.testBit_or, Nat.testBit_two_pow, Bool.or_eq_true, decide_eq_true_eq, h q hq]
          constructor
          · rintro (⟨w1, w2⟩ | w)
            · exact ⟨by omega, w2⟩
            · subst w
              exact ⟨by omega, h0, e⟩
          · rintro ⟨w1, w2⟩
            by_cases z : b = q
            · exact .inr z
            · exact .inl ⟨by omega, w2⟩)
        refine ⟨x', ?_, h2⟩
        refine Eq.trans (y188_39_4 (by omega) (m_has1 hx0 (by omega) h0) (by decide) rfl g1 (by omega) ht (hth _ (m_has0 g2 (by omega) e')) rfl (shl1_all b (by omega)) (or32_nat (by omega) (by omega)) (w32_id (by omega) (by omega))) ?_
        exact h1
theorem k_ring {I L : Fn} {a : Int} (h : Rel I L) : SameI 75 188 [vi a] I L := by
  have hn := h.2.1.2.1
  have hr := h.bags
  have hr' := hr
  unfold rng at hr'
  by_cases ha : 0 ≤ a ∧ a < I 10 3
  · have hc : a.toNat < 6 := by omega
    have hbc := h.bagC hc
    obtain ⟨b0, b1, b2, b3, b4, b5⟩ := hbc
    unfold rng at b3 b4
    obtain ⟨J, x, f1, f2, f3, f4⟩ := c_ringBits (d := 56) h hc
    have hM := h.mh.fr f2 (by decide)
    have hm := hM.1.2.2.2.2.2.1.at hc
    obtain ⟨J1, g1, g2, g3⟩ := m_lay (d := 58) (L := L) h.1.1 hM.1.1 (t := I (17 + a.toNat) 4) (by omega)
    have hm1 := (hM.fr g2 (by decide)).1.2.2.2.2.2.1.at hc
    obtain ⟨y, e1, e2, e3⟩ := m_spread_ok (d := 57) (L := L) (s := (I (17 + a.toNat) 3).toNat) (c := a) h.1.1 (by omega) hm1.2.2.2.1 g3 (by omega)
    obtain ⟨z, q1, q2, q3⟩ := m_rl (d := 57) (L := L) (c := a) h.1.1 (by omega) hm1.2.2.2.1 (by omega) g3 e2 8 0 0 (by omega) (by omega) (fun q hq => by rw [Nat.zero_testBit]; exact ⟨fun w => absurd w (by decide), fun w => absurd w.1 (by omega)⟩)
    have exz : x = z := set_ext f3 q2 (fun j hj => by rw [f4 j hj, q3 j hj, e3 j hj])
    subst exz
    have s1 : shl32 1 (I (17 + a.toNat) 3) = ((2 ^ (I (17 + a.toNat) 3).toNat : Nat) : Int) := by
      have := shl1_all (I (17 + a.toNat) 3).toNat (by omega)
      rw [Int.toNat_of_nonneg b3.1] at this
      exact this
    exact ⟨_, _, _, _, _, (e75_2 (bagAt1 ha hr) f1), Eq.trans (e188_1 (mC1 ((f2 92 2 rfl).trans hn) hr ha) (by omega) (by omega) hm.2.2.2.1 g1 hm1.2.2.1 s1 e1) q1, h.scr ((f2.mono (by decide)).trans (g2.mono (by decide))) (Fr.refl _ _)⟩
  · exact ⟨_, _, _, _, _, (e75_1 (bagAt0 ha hr)), (e188_2 (mC0 hn hr ha) (by omega)), h⟩
