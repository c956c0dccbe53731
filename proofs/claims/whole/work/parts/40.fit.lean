/-! digits that are alike; sets as bits -/
def alk (a b : Int) : Int := (if div32 a 100 = div32 b 100 then 1 else 0) + ((if Int.tmod (div32 a 10) 10 = Int.tmod (div32 b 10) 10 then 1 else 0) + (if Int.tmod a 10 = Int.tmod b 10 then 1 else 0))
theorem alk_rng (a b : Int) : 0 ≤ alk a b ∧ alk a b ≤ 3 := by
  unfold alk
  repeat' split
  all_goals omega
theorem alk_comm (a b : Int) : alk a b = alk b a := by
  unfold alk
  simp only [eq_comm]
theorem c_alike {d : Nat} {I L : Fn} {a b : Int} : CallD (d + 1) 81 [vi a, vi b] (S I L) = some (some (vi (alk a b)), S I L) := by
  unfold alk
  by_cases h1 : div32 a 100 = div32 b 100 <;> by_cases h2 : Int.tmod (div32 a 10) 10 = Int.tmod (div32 b 10) 10 <;> by_cases h3 : Int.tmod a 10 = Int.tmod b 10
  · rw [if_pos h1, if_pos h2, if_pos h3]
    exact (e81_8 rfl rfl (by assumption) rfl rfl rfl rfl (by assumption) rfl rfl (by assumption))
  · rw [if_pos h1, if_pos h2, if_neg h3]
    exact (e81_7 rfl rfl (by assumption) rfl rfl rfl rfl (by assumption) rfl rfl (by assumption))
  · rw [if_pos h1, if_neg h2, if_pos h3]
    exact (e81_6 rfl rfl (by assumption) rfl rfl rfl rfl (by assumption) rfl rfl (by assumption))
  · rw [if_pos h1, if_neg h2, if_neg h3]
    exact (e81_5 rfl rfl (by assumption) rfl rfl rfl rfl (by assumption) rfl rfl (by assumption))
  · rw [if_neg h1, if_pos h2, if_pos h3]
    exact (e81_4 rfl rfl (by assumption) rfl rfl rfl rfl (by assumption) rfl rfl (by assumption))
  · rw [if_neg h1, if_pos h2, if_neg h3]
    exact (e81_3 rfl rfl (by assumption) rfl rfl rfl rfl (by assumption) rfl rfl (by assumption))
  · rw [if_neg h1, if_neg h2, if_pos h3]
    exact (e81_2 rfl rfl (by assumption) rfl rfl rfl rfl (by assumption) rfl rfl (by assumption))
  · rw [if_neg h1, if_neg h2, if_neg h3]
    exact (e81_1 rfl rfl (by assumption) rfl rfl rfl rfl (by assumption) rfl rfl (by assumption))
theorem m_alike_ok {d : Nat} {I L : Fn} {a b : Int} : CallD (d + 1) 194 [vr 92, vi a, vi b] (S I L) = some (some (vi (alk a b)), S I L) := by
  unfold alk
  by_cases h1 : div32 a 100 = div32 b 100 <;> by_cases h2 : Int.tmod (div32 a 10) 10 = Int.tmod (div32 b 10) 10 <;> by_cases h3 : Int.tmod a 10 = Int.tmod b 10
  · rw [if_pos h1, if_pos h2, if_pos h3]
    exact (e194_8 rfl rfl (by assumption) rfl rfl rfl rfl (by assumption) rfl rfl (by assumption))
  · rw [if_pos h1, if_pos h2, if_neg h3]
    exact (e194_4 rfl rfl (by assumption) rfl rfl rfl rfl (by assumption) rfl rfl (by assumption))
  · rw [if_pos h1, if_neg h2, if_pos h3]
    exact (e194_6 rfl rfl (by assumption) rfl rfl rfl rfl (by assumption) rfl rfl (by assumption))
  · rw [if_pos h1, if_neg h2, if_neg h3]
    exact (e194_2 rfl rfl (by assumption) rfl rfl rfl rfl (by assumption) rfl rfl (by assumption))
  · rw [if_neg h1, if_pos h2, if_pos h3]
    exact (e194_7 rfl rfl (by assumption) rfl rfl rfl rfl (by assumption) rfl rfl (by assumption))
  · rw [if_neg h1, if_pos h2, if_neg h3]
    exact (e194_3 rfl rfl (by assumption) rfl rfl rfl rfl (by assumption) rfl rfl (by assumption))
  · rw [if_neg h1, if_neg h2, if_pos h3]
    exact (e194_5 rfl rfl (by assumption) rfl rfl rfl rfl (by assumption) rfl rfl (by assumption))
  · rw [if_neg h1, if_neg h2, if_neg h3]
    exact (e194_1 rfl rfl (by assumption) rfl rfl rfl rfl (by assumption) rfl rfl (by assumption))
/-- how well a case fits an owner -/
def fitv (I : Fn) (o c : Nat) : Int := alk (I 14 o) (I (17 + c) 6) + (if I (17 + c) 3 = I 15 o then 1 else 0)
theorem fitv_rng (I : Fn) (o c : Nat) : 0 ≤ fitv I o c ∧ fitv I o c ≤ 4 := by
  have := alk_rng (I 14 o) (I (17 + c) 6)
  unfold fitv
  split <;> omega
theorem c_fitOf {d : Nat} {I L : Fn} {o : Int} {c : Nat} (ho : 0 ≤ o ∧ o < 6) (hc : c < 6) : CallD (d + 2) 84 [vr 83, vi o, vr (17 + c)] (S I L) = some (some (vi (fitv I o.toNat c)), S I L) := by
  have hk := K0bag hc
  have hr := alk_rng (I 14 o.toNat) (I (17 + c) 6)
  unfold fitv
  by_cases e : I (17 + c) 3 = I 15 o.toNat
  · rw [if_pos e]
    exact (e84_2 (by omega) rfl (by assumption) rfl c_alike rfl rfl (by omega) (w32_id (by omega) (by omega)))
  · rw [if_neg e, Int.add_zero]
    exact (e84_1 (by omega) rfl (by assumption) rfl c_alike rfl rfl (by omega))
theorem m_fitOf_ok {d : Nat} {I0 I L : Fn} {o c : Int} (hM : WM I0 I) (ho : 0 ≤ o ∧ o < 6) (hc : 0 ≤ c ∧ c < 6) : CallD (d + 2) 196 [vr 92, vi o, vi c] (S I L) = some (some (vi (fitv I0 o.toNat c.toNat)), S I L) := by
  have hb := hM.2.2.2.2.2.1.at (c := c.toNat) (by omega)
  have hw := hM.2.2.2.2.2.2.1 o.toNat (by omega)
  have hr := alk_rng (I0 14 o.toNat) (I0 (17 + c.toNat) 6)
  unfold fitv
  by_cases e : I0 (17 + c.toNat) 3 = I0 15 o.toNat
  · rw [if_pos e]
    exact (e196_2 (by omega) hw.1 (by omega) hb.2.2.2.2.2.1 m_alike_ok hb.2.2.1 hw.2 (by omega) (w32_id (by omega) (by omega)))
  · rw [if_neg e]
    exact (e196_1 (by omega) hw.1 (by omega) hb.2.2.2.2.2.1 m_alike_ok hb.2.2.1 hw.2 (by omega) (w32_id (by omega) (by omega)))
theorem k_fit {I L : Fn} {a b : Int} (h : Rel I L) : SameI 82 195 [vi a, vi b] I L := by
  have hn := h.2.1.2.1
  have ho := h.2.1.2.2.1
  have hr := h.bags
  have hr' := hr
  have hro := h.1.2.2.1
  unfold rng at hr' hro
  by_cases hb : 0 ≤ b ∧ b < I 10 3
  · by_cases ha : 0 ≤ a ∧ a < I 10 6
    · exact ⟨_, _, _, _, _, (e82_2 (bagAt1 hb hr) (isO1 ha) (by omega) (c_fitOf (by omega) (by omega))), (e195_3 ho (w32_id (by omega) (by omega)) (mI1 (by omega)) (by omega) (mC1 hn hr hb) (by omega) (m_fitOf_ok h.2.1 (by omega) (by omega))), h⟩
    · exact ⟨_, _, _, _, _, (e82_3 (bagAt1 hb hr) (isO0 ha) (by omega)), (e195_1 ho (w32_id (by omega) (by omega)) (mI0 (by omega)) (by omega)), h⟩
  · by_cases ha : 0 ≤ a ∧ a < I 10 6
    · exact ⟨_, _, _, _, _, (e82_1 (bagAt0 hb hr)), (e195_2 ho (w32_id (by omega) (by omega)) (mI1 (by omega)) (by omega) (mC0 hn hr hb) (by omega)), h⟩
    · exact ⟨_, _, _, _, _, (e82_1 (bagAt0 hb hr)), (e195_1 ho (w32_id (by omega) (by omega)) (mI0 (by omega)) (by omega)), h⟩
set_option maxRecDepth 100000 in
theorem or0_all : ∀ x : Nat, x < 256 → or32 x 0 = x := by decide +kernel
theorem or0 {x : Int} (h : 0 ≤ x ∧ x < 256) : or32 x 0 = x := by
  have := or0_all x.toNat (by omega)
  rwa [Int.toNat_of_nonneg h.1] at this
set_option maxRecDepth 100000 in
theorem orb_all : ∀ x : Nat, x < 64 → ∀ c : Nat, c < 6 → 0 ≤ or32 x (shl32 1 c) ∧ or32 x (shl32 1 c) < 64 := by decide +kernel
theorem orb {x c : Int} (h : 0 ≤ x ∧ x < 64) (hc : 0 ≤ c ∧ c < 6) : 0 ≤ or32 x (shl32 1 c) ∧ or32 x (shl32 1 c) < 64 := by
  have := orb_all x.toNat (by omega) c.toNat (by omega)
  rwa [Int.toNat_of_nonneg h.1, Int.toNat_of_nonneg hc.1] at this
theorem like_loop {d e' : Nat} {I L : Fn} {m s : Int} (h : Rel I L) (hs : 0 ≤ s ∧ s ≤ 3) : ∀ (r : Nat) (x c : Int), c + r = I 10 3 → 0 ≤ c → 0 ≤ x ∧ x < 64 → ∃ v, y80_5 (CallD (d + 1)) m s x c I L = some (some (vi v), S I L) ∧ y193_26 (CallD (e' + 1)) m s x c I L = some (some (vi v), S I L)
  | 0, x, c, hx, h0, hq => by
    have hn := h.2.1.2.1
    refine ⟨x, ?_, ?_⟩
    · exact (y80_5_1 rfl (by omega))
    · exact (y193_26_1 rfl (by omega))
  | r + 1, x, c, hx, h0, hq => by
    have hn := h.2.1.2.1
    have hr := h.bags
    unfold rng at hr
    have hm := h.bagM (c := c.toNat) (by omega)
    have hk := K0bag (c := c.toNat) (by omega)
    have ha := alk_rng m (I (17 + c.toNat) 6)
    by_cases e : 3 - alk m (I (17 + c.toNat) 6) ≤ s
    · obtain ⟨v, h1, h2⟩ := like_loop (d := d) (e' := e') (m := m) h hs r (or32 x (shl32 1 c)) (c + 1) (by omega) (by omega) (orb hq (by omega))
      refine ⟨v, ?_, ?_⟩
      · refine Eq.trans (y80_5_3 rfl (by omega) (by omega) (R0bag (by omega)) (by assumption) rfl c_alike (w32_id (by omega) (by omega)) (by omega) rfl rfl (w32_id (by omega) (by omega))) ?_
        exact h1
      · refine Eq.trans (y193_26_3 rfl (by omega) (by omega) hm.2.2.2.2.2.1 m_alike_ok (w32_id (by omega) (by omega)) (by omega) rfl rfl (w32_id (by omega) (by omega))) ?_
        exact h2
    · obtain ⟨v, h1, h2⟩ := like_loop (d := d) (e' := e') (m := m) h hs r x (c + 1) (by omega) (by omega) hq
      refine ⟨v, ?_, ?_⟩
      · refine Eq.trans (y80_5_2 rfl (by omega) (by omega) (R0bag (by omega)) (by assumption) rfl c_alike (w32_id (by omega) (by omega)) (by omega) (w32_id (by omega) (by omega))) ?_
        exact h1
      · refine Eq.trans (y193_26_2 rfl (by omega) (by omega) hm.2.2.2.2.2.1 m_alike_ok (w32_id (by omega) (by omega)) (by omega) (or0 (by omega)) (w32_id (by omega) (by omega))) ?_
        exact h2
theorem k_like {I L : Fn} {a b : Int} (h : Rel I L) : SameI 79 193 [vi a, vi b] I L := by
  by_cases ha : 0 ≤ a ∧ a ≤ 999
  · by_cases hb : 0 ≤ b ∧ b ≤ 3
    · have hr := h.bags
      unfold rng at hr
      obtain ⟨v, h1, h2⟩ := like_loop (d := 57) (e' := 58) (m := a) h hb (I 10 3).toNat 0 0 (by omega) (by omega) (by omega)
      refine ⟨v, _, _, _, _, (e79_3 (isM1 ha) (by omega) (by omega) (by omega) (Eq.trans (e80_1) h1)), ?_, h⟩
      refine Eq.trans (e193_2 (mM1 ha) (by omega) (mI1 hb) (by omega)) ?_
      exact h2
    · by_cases q : b < 0
      · exact ⟨_, _, _, _, _, (e79_2 (isM1 ha) (by omega) (by omega)), (e193_3 (mM1 ha) (by omega) (mI0 hb) (by omega)), h⟩
      · exact ⟨_, _, _, _, _, (e79_4 (isM1 ha) (by omega) (by omega) (by omega)), (e193_3 (mM1 ha) (by omega) (mI0 hb) (by omega)), h⟩
  · exact ⟨_, _, _, _, _, (e79_1 (isM0 ha) (by omega)), (e193_1 (mM0 ha) (by omega)), h⟩
