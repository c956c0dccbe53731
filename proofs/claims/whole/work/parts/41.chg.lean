/-- the least case on a belt -/
def lst (I : Fn) (b : Int) : Nat → Nat → Option Nat
  | 0, _ => none
  | r + 1, c => if I (17 + c) 3 = b then some c else lst I b r (c + 1)
theorem lst_lt {I : Fn} {b : Int} : ∀ (r c x : Nat), lst I b r c = some x → x < c + r
  | 0, c, x, h => by cases h
  | r + 1, c, x, h => by
    unfold lst at h
    split at h
    · cases h; omega
    · have := lst_lt r (c + 1) x h
      omega
def lstI (I : Fn) (b : Int) : Option Nat := lst I b (I 10 3).toNat 0
def ovr : Option Nat → AV
  | none => vn
  | some c => vr (17 + c)
def onum : Option Nat → Int
  | none => -1
  | some c => c
theorem c_least {F : Cal} {I L : Fn} {b : Int} (hr : rng 0 6 (I 10 3)) : ∀ (r c : Nat), (c + r : Nat) = I 10 3 → y96_2 F b c I L = some (some (ovr (lst I b r c)), S I L)
  | 0, c, hc => by
    exact (y96_2_1 rfl (by omega))
  | r + 1, c, hc => by
    unfold rng at hr
    have hk := K0bag (c := c) (by omega)
    have hR := R0bag (c := c) (by omega)
    unfold lst
    by_cases e : I (17 + c) 3 = b
    · rw [if_pos e]
      exact (y96_2_3 rfl (by omega) (by omega) hR (by assumption) rfl (by omega))
    · rw [if_neg e]
      refine Eq.trans (y96_2_2 rfl (by omega) (by omega) hR (by assumption) rfl (by omega) (w32_id (by omega) (by omega))) ?_
      exact c_least hr r (c + 1) (by omega)
theorem m_least {F : Cal} {I0 I L : Fn} {b : Int} (hr : rng 0 6 (I0 10 3)) (hM : WM I0 I) : ∀ (r c : Nat), (c + r : Nat) = I0 10 3 → y203_2 F b c I L = some (some (vi (onum (lst I0 b r c))), S I L)
  | 0, c, hc => by
    have hn := hM.2.1
    exact (y203_2_1 rfl (by omega))
  | r + 1, c, hc => by
    unfold rng at hr
    have hn := hM.2.1
    have hb := hM.2.2.2.2.2.1.at (c := c) (by omega)
    unfold lst
    by_cases e : I0 (17 + c) 3 = b
    · rw [if_pos e]
      exact (y203_2_3 rfl (by omega) (by omega) hb.2.2.1 (by omega))
    · rw [if_neg e]
      refine Eq.trans (y203_2_2 rfl (by omega) (by omega) hb.2.2.1 (by omega) (w32_id (by omega) (by omega))) ?_
      exact m_least hr hM r (c + 1) (by omega)
theorem c_leastOn {d : Nat} {I L : Fn} {b : Int} (hr : rng 0 6 (I 10 3)) : CallD (d + 1) 96 [vr 10, vi b] (S I L) = some (some (ovr (lstI I b)), S I L) := by
  have hr' := hr
  unfold rng at hr'
  refine Eq.trans (e96_1) ?_
  exact c_least hr (I 10 3).toNat 0 (by omega)
theorem m_leastOn_ok {d : Nat} {I0 I L : Fn} {b : Int} (hr : rng 0 6 (I0 10 3)) (hM : WM I0 I) : CallD (d + 1) 203 [vr 92, vi b] (S I L) = some (some (vi (onum (lstI I0 b))), S I L) := by
  have hr' := hr
  unfold rng at hr'
  refine Eq.trans (e203_1) ?_
  exact m_least hr hM (I0 10 3).toNat 0 (by omega)
/-- are two changed -/
def chg (I : Fn) (a b : Nat) : Int := match lstI I (I 15 a), lstI I (I 15 b) with
  | some x, some y => if alk (I 14 a) (I (17 + x) 6) < alk (I 14 a) (I (17 + y) 6) ∧ alk (I 14 b) (I (17 + y) 6) < alk (I 14 b) (I (17 + x) 6) then 1 else 0
  | _, _ => 0
theorem lstI_lt {I : Fn} {b : Int} {x : Nat} (hr : rng 0 6 (I 10 3)) (h : lstI I b = some x) : x < 6 := by
  unfold rng at hr
  have := lst_lt _ _ _ h
  omega
theorem c_isChanged {d : Nat} {I L : Fn} {a b : Int} (hr : rng 0 6 (I 10 3)) (ha : 0 ≤ a ∧ a < 6) (hb : 0 ≤ b ∧ b < 6) : CallD (d + 2) 95 [vr 83, vi a, vi b] (S I L) = some (some (vi (chg I a.toNat b.toNat)), S I L) := by
  have e1 := c_leastOn (d := d) (L := L) (b := I 15 a.toNat) hr
  have e2 := c_leastOn (d := d) (L := L) (b := I 15 b.toNat) hr
  unfold chg
  cases hx : lstI I (I 15 a.toNat) with
  | none =>
    rw [hx] at e1
    cases hy : lstI I (I 15 b.toNat) with
    | none =>
      rw [hy] at e2
      exact (e95_1 (by omega) rfl e1 (by omega) rfl e2)
    | some y =>
      rw [hy] at e2
      exact (e95_2 (by omega) rfl e1 (by omega) rfl e2)
  | some x =>
    rw [hx] at e1
    have kx := K0bag (lstI_lt hr hx)
    cases hy : lstI I (I 15 b.toNat) with
    | none =>
      rw [hy] at e2
      exact (e95_3 (by omega) rfl e1 (by omega) rfl e2)
    | some y =>
      rw [hy] at e2
      have ky := K0bag (lstI_lt hr hy)
      show _ = some (some (vi (if _ then _ else _)), _)
      by_cases g1 : alk (I 14 a.toNat) (I (17 + x) 6) < alk (I 14 a.toNat) (I (17 + y) 6)
      · by_cases g2 : alk (I 14 b.toNat) (I (17 + y) 6) < alk (I 14 b.toNat) (I (17 + x) 6)
        · rw [if_pos ⟨g1, g2⟩]
          exact (e95_6 (by omega) rfl e1 (by omega) rfl e2 rfl rfl (by assumption) rfl c_alike (by assumption) rfl c_alike (by omega) rfl c_alike rfl c_alike (by omega))
        · rw [if_neg (fun q => g2 q.2)]
          exact (e95_5 (by omega) rfl e1 (by omega) rfl e2 rfl rfl (by assumption) rfl c_alike (by assumption) rfl c_alike (by omega) rfl c_alike rfl c_alike (by omega))
      · rw [if_neg (fun q => g1 q.1)]
        exact (e95_4 (by omega) rfl e1 (by omega) rfl e2 rfl rfl (by assumption) rfl c_alike (by assumption) rfl c_alike (by omega))
theorem m_areChanged_ok {d : Nat} {I0 I L : Fn} {a b : Int} (hr : rng 0 6 (I0 10 3)) (hM : WM I0 I) (ha : 0 ≤ a ∧ a < 6) (hb : 0 ≤ b ∧ b < 6) : CallD (d + 2) 202 [vr 92, vi a, vi b] (S I L) = some (some (vi (chg I0 a.toNat b.toNat)), S I L) := by
  have e1 := m_leastOn_ok (d := d) (L := L) (b := I0 15 a.toNat) hr hM
  have e2 := m_leastOn_ok (d := d) (L := L) (b := I0 15 b.toNat) hr hM
  have wa := hM.2.2.2.2.2.2.1 a.toNat (by omega)
  have wb := hM.2.2.2.2.2.2.1 b.toNat (by omega)
  unfold chg
  cases hx : lstI I0 (I0 15 a.toNat) with
  | none =>
    rw [hx] at e1
    exact (e202_1 (by omega) wa.2 e1 (by omega) wb.2 e2 (by decide))
  | some x =>
    rw [hx] at e1
    have lx := lstI_lt hr hx
    have bx := hM.2.2.2.2.2.1.at lx
    cases hy : lstI I0 (I0 15 b.toNat) with
    | none =>
      rw [hy] at e2
      exact (e202_2 (by omega) wa.2 e1 (by omega) wb.2 e2 (show (0 : Int) ≤ (x : Int) by omega) (by decide))
    | some y =>
      rw [hy] at e2
      have ly := lstI_lt hr hy
      have by' := hM.2.2.2.2.2.1.at ly
      show _ = some (some (vi (if _ then _ else _)), _)
      rw [alk_comm (I0 14 a.toNat) (I0 (17 + x) 6), alk_comm (I0 14 a.toNat) (I0 (17 + y) 6), alk_comm (I0 14 b.toNat) (I0 (17 + x) 6), alk_comm (I0 14 b.toNat) (I0 (17 + y) 6)]
      have px : (0 : Int) ≤ (x : Int) ∧ (x : Int) < 6 := by omega
      have py : (0 : Int) ≤ (y : Int) ∧ (y : Int) < 6 := by omega
      by_cases g1 : alk (I0 (17 + x) 6) (I0 14 a.toNat) < alk (I0 (17 + y) 6) (I0 14 a.toNat)
      · by_cases g2 : alk (I0 (17 + y) 6) (I0 14 b.toNat) < alk (I0 (17 + x) 6) (I0 14 b.toNat)
        · rw [if_pos ⟨g1, g2⟩]
          exact (e202_5 (by omega) wa.2 e1 (by omega) wb.2 e2 px.1 py.1 py by'.2.2.2.2.2.1 wa.1 m_alike_ok px bx.2.2.2.2.2.1 wa.1 m_alike_ok g1 bx.2.2.2.2.2.1 wb.1 m_alike_ok by'.2.2.2.2.2.1 wb.1 m_alike_ok g2)
        · rw [if_neg (fun q => g2 q.2)]
          exact (e202_4 (by omega) wa.2 e1 (by omega) wb.2 e2 px.1 py.1 py by'.2.2.2.2.2.1 wa.1 m_alike_ok px bx.2.2.2.2.2.1 wa.1 m_alike_ok g1 bx.2.2.2.2.2.1 wb.1 m_alike_ok by'.2.2.2.2.2.1 wb.1 m_alike_ok (by omega))
      · rw [if_neg (fun q => g1 q.1)]
        exact (e202_3 (by omega) wa.2 e1 (by omega) wb.2 e2 px.1 py.1 py by'.2.2.2.2.2.1 wa.1 m_alike_ok px bx.2.2.2.2.2.1 wa.1 m_alike_ok (by omega))
theorem chg_in {F1 F2 F3 : Cal} {I L : Fn} {w : Int} (hn : I 92 3 = I 10 6) (hro : rng 0 6 (I 10 6)) (g1 : ∀ a b : Int, 0 ≤ a ∧ a < 6 → 0 ≤ b ∧ b < 6 → F1 95 [vr 83, vi a, vi b] (S I L) = some (some (vi (chg I a.toNat b.toNat)), S I L)) (g2 : ∀ a b : Int, 0 ≤ a ∧ a < 6 → 0 ≤ b ∧ b < 6 → F2 202 [vr 92, vi a, vi b] (S I L) = some (some (vi (chg I a.toNat b.toNat)), S I L)) (g3 : ∀ a b : Int, 0 ≤ a ∧ a < 6 → 0 ≤ b ∧ b < 6 → F3 95 [vr 83, vi a, vi b] (S I L) = some (some (vi (chg I a.toNat b.toNat)), S I L)) : ∀ (r : Nat) (n f a b : Int), b + r = I 10 6 → 0 ≤ a ∧ a < 6 → 0 ≤ b → 0 ≤ n ∧ n + r < 1000 → ∃ n' f', y94_19 F1 n a b I L = y94_4 F1 n' (a + 1) I L ∧ (y201_35 F2 w n f a b I L = y201_20 F2 w n' f' (a + 1) I L ∧ ((n ≤ n' ∧ n' ≤ n + r) ∧ ((0 < n → f' = f) ∧ (n = 0 → (n' = 0 ∧ (f' = f ∧ y97_17 F3 a b I L = y97_2 F3 (a + 1) I L)) ∨ (0 < n' ∧ y97_17 F3 a b I L = some (some (vi f'), S I L))))))
  | 0, n, f, a, b, hb, ha, h0, hq => by
    unfold rng at hro
    refine ⟨n, f, (y94_19_1 rfl (by omega) (w32_id (by omega) (by omega))), (y201_35_1 hn (by omega) (w32_id (by omega) (by omega))), by omega, fun _ => rfl, fun _ => .inl ⟨by omega, rfl, (y97_17_1 rfl (by omega) (w32_id (by omega) (by omega)))⟩⟩
  | r + 1, n, f, a, b, hb, ha, h0, hq => by
    have hro' := hro
    unfold rng at hro'
    have c1 := g1 a b ha (by omega)
    have c2 := g2 a b ha (by omega)
    have c3 := g3 a b ha (by omega)
    by_cases e : chg I a.toNat b.toNat = 0
    · obtain ⟨n', f', k1, k2, k3, k4, k5⟩ := chg_in (F1 := F1) (F2 := F2) (F3 := F3) (L := L) (w := w) hn hro g1 g2 g3 r n f a (b + 1) (by omega) ha (by omega) (by omega)
      refine ⟨n', f', Eq.trans (y94_19_2 rfl (by omega) c1 (by omega) (w32_id (by omega) (by omega))) k1, Eq.trans (y201_35_4 hn (by omega) c2 (by omega) (w32_id (by omega) (by omega))) k2, by omega, k4, fun hz => ?_⟩
      have st : y97_17 F3 a b I L = y97_17 F3 a (b + 1) I L := (y97_17_2 rfl (by omega) c3 (by omega) (w32_id (by omega) (by omega)))
      rw [st]
      exact k5 hz
    · by_cases e2 : n = 0
      · obtain ⟨n', f', k1, k2, k3, k4, k5⟩ := chg_in (F1 := F1) (F2 := F2) (F3 := F3) (L := L) (w := w) hn hro g1 g2 g3 r (n + 1) (10 * a + b) a (b + 1) (by omega) ha (by omega) (by omega)
        refine ⟨n', f', Eq.trans (y94_19_3 rfl (by omega) c1 (by omega) (w32_id (by omega) (by omega)) (w32_id (by omega) (by omega))) k1, Eq.trans (y201_35_3 hn (by omega) c2 (by omega) (by omega) (w32_id (by omega) (by omega)) (w32_id (by omega) (by omega)) (w32_id (by omega) (by omega)) (w32_id (by omega) (by omega))) k2, by omega, fun _ => by omega, fun hz => .inr ⟨by omega, ?_⟩⟩
        rw [k4 (by omega)]
        exact (y97_17_3 rfl (by omega) c3 (by omega) (w32_id (by omega) (by omega)) (w32_id (by omega) (by omega)))
      · obtain ⟨n', f', k1, k2, k3, k4, k5⟩ := chg_in (F1 := F1) (F2 := F2) (F3 := F3) (L := L) (w := w) hn hro g1 g2 g3 r (n + 1) f a (b + 1) (by omega) ha (by omega) (by omega)
        exact ⟨n', f', Eq.trans (y94_19_3 rfl (by omega) c1 (by omega) (w32_id (by omega) (by omega)) (w32_id (by omega) (by omega))) k1, Eq.trans (y201_35_2 hn (by omega) c2 (by omega) (by omega) (w32_id (by omega) (by omega)) (w32_id (by omega) (by omega))) k2, by omega, fun _ => k4 (by omega), fun hz => absurd hz e2⟩
theorem chg_out {F1 F2 F3 : Cal} {I L : Fn} {w : Int} (hn : I 92 3 = I 10 6) (hro : rng 0 6 (I 10 6)) (g1 : ∀ a b : Int, 0 ≤ a ∧ a < 6 → 0 ≤ b ∧ b < 6 → F1 95 [vr 83, vi a, vi b] (S I L) = some (some (vi (chg I a.toNat b.toNat)), S I L)) (g2 : ∀ a b : Int, 0 ≤ a ∧ a < 6 → 0 ≤ b ∧ b < 6 → F2 202 [vr 92, vi a, vi b] (S I L) = some (some (vi (chg I a.toNat b.toNat)), S I L)) (g3 : ∀ a b : Int, 0 ≤ a ∧ a < 6 → 0 ≤ b ∧ b < 6 → F3 95 [vr 83, vi a, vi b] (S I L) = some (some (vi (chg I a.toNat b.toNat)), S I L)) : ∀ (r : Nat) (n f a : Int), a + r = I 10 6 → 0 ≤ a → 0 ≤ n ∧ n ≤ 6 * a → ∃ n' f', y94_4 F1 n a I L = some (some (vi n'), S I L) ∧ (y201_20 F2 w n f a I L = some (some (vi (if w = 0 then n' else f')), S I L) ∧ ((0 < n → f' = f) ∧ (n = 0 → (f' = f ∧ y97_2 F3 a I L = some (some (vi (-5)), S I L)) ∨ y97_2 F3 a I L = some (some (vi f'), S I L))))
  | 0, n, f, a, hb, h0, hq => by
    unfold rng at hro
    refine ⟨n, f, (y94_4_1 rfl (by omega)), ?_, fun _ => rfl, fun _ => .inl ⟨rfl, (y97_2_1 rfl (by omega))⟩⟩
    by_cases e : w = 0
    · rw [if_pos e]
      exact (y201_20_2 hn (by omega) (by omega))
    · rw [if_neg e]
      exact (y201_20_1 hn (by omega) (by omega))
  | r + 1, n, f, a, hb, h0, hq => by
    have hro' := hro
    unfold rng at hro'
    obtain ⟨n1, f1, k1, k2, k3, k4, k5⟩ := chg_in (F1 := F1) (F2 := F2) (F3 := F3) (L := L) (w := w) hn hro g1 g2 g3 r n f a (a + 1) (by omega) (by omega) (by omega) (by omega)
    obtain ⟨n', f', m1, m2, m3, m4⟩ := chg_out (F1 := F1) (F2 := F2) (F3 := F3) (L := L) (w := w) hn hro g1 g2 g3 r n1 f1 (a + 1) (by omega) (by omega) (by omega)
    refine ⟨n', f', Eq.trans (y94_4_2 rfl (by omega) (w32_id (by omega) (by omega))) (k1.trans m1), Eq.trans (y201_20_3 hn (by omega) (w32_id (by omega) (by omega))) (k2.trans m2), fun hz => ?_, fun hz => ?_⟩
    · rw [m3 (by omega), k4 hz]
    · have st : y97_2 F3 a I L = y97_17 F3 a (a + 1) I L := (y97_2_2 rfl (by omega) (w32_id (by omega) (by omega)))
      rcases k5 hz with ⟨q1, q2, q3⟩ | ⟨q1, q2⟩
      · rw [st, q3]
        rcases m4 q1 with ⟨z1, z2⟩ | z1
        · exact .inl ⟨z1.trans q2, z2⟩
        · exact .inr z1
      · right
        rw [st, q2, m3 q1]
theorem k_changed {I L : Fn} {a : Int} (h : Rel I L) : SameI 93 201 [vi a] I L := by
  have hr := h.bags
  have hn := h.2.1.2.2.1
  have hro := h.1.2.2.1
  have hro' := hro
  unfold rng at hro'
  by_cases ha : 0 ≤ a ∧ a ≤ 1
  · obtain ⟨n, f, k1, k2, k3, k4⟩ := chg_out (F1 := CallD 58) (F2 := CallD 59) (F3 := CallD 58) (L := L) (w := a) hn hro (fun a b ha hb => c_isChanged (d := 56) hr ha hb) (fun a b ha hb => m_areChanged_ok (d := 57) hr h.2.1 ha hb) (fun a b ha hb => c_isChanged (d := 56) hr ha hb) (I 10 6).toNat 0 (-5) 0 (by omega) (by omega) (by omega)
    by_cases e : a = 0
    · rw [if_pos e] at k2
      refine ⟨n, _, _, _, _, (e93_3 (by omega) (Eq.trans (e94_1) k1)), ?_, h⟩
      refine Eq.trans (e201_1 (mI1 ha) (by omega)) ?_
      exact k2
    · rw [if_neg e] at k2
      have k5 : y97_2 (CallD 58) 0 I L = some (some (vi f), S I L) := by
        rcases k4 rfl with ⟨z1, z2⟩ | z
        · rw [z1]; exact z2
        · exact z
      refine ⟨f, _, _, _, _, (e93_2 (by omega) (by omega) (Eq.trans (e97_1) k5)), ?_, h⟩
      refine Eq.trans (e201_1 (mI1 ha) (by omega)) ?_
      exact k2
  · exact ⟨_, _, _, _, _, (e93_1 (by omega) (by omega)), (e201_2 (mI0 ha) (by omega)), h⟩
