/-! SOONEST: the reference -/
def RB (I : Fn) (c : Nat) (t g M : Int) (l : Nat → Int) (b : Nat) (nl : Nat → Int) : Prop := ∀ j, j < 8 → (nl j = -1 ∨ (0 ≤ nl j ∧ nl j ≤ M)) ∧ ∀ y, ((0 ≤ nl j ∧ nl j ≤ y) ↔ ∃ a : Nat, a < b ∧ ((0 ≤ l a ∧ ¬ (a : Int) = t) ∧ ((j = (rdS I t.toNat a).toNat ∨ j = (I 11 a).toNat) ∧ l a + tk I c a g ≤ y)))
theorem RB_0 {I : Fn} {c : Nat} {t g M : Int} {l nl : Nat → Int} (h : ∀ j, j < 8 → nl j = -1) : RB I c t g M l 0 nl := by
  intro j hj
  have hj' := h j hj
  refine ⟨.inl hj', fun y => ⟨fun q => by omega, fun ⟨a, ha, _⟩ => by omega⟩⟩
theorem RB_no {I : Fn} {c : Nat} {t g M : Int} {l nl : Nat → Int} {b : Nat} (h : RB I c t g M l b nl) (hn : ¬ (0 ≤ l b ∧ ¬ (b : Int) = t)) : RB I c t g M l (b + 1) nl := by
  intro j hj
  obtain ⟨h1, h2⟩ := h j hj
  refine ⟨h1, fun y => ?_⟩
  rw [h2 y]
  constructor
  · rintro ⟨a, ha, q⟩
    exact ⟨a, by omega, q⟩
  · rintro ⟨a, ha, q1, q2⟩
    refine ⟨a, ?_, q1, q2⟩
    by_cases z : a = b
    · subst z; exact absurd q1 hn
    · omega
def rc1 (r : Nat) (s : Int) (nl : Nat → Int) (j : Nat) : Int := if j = r then (if nl r < 0 then s else if s < nl r then s else nl r) else nl j
theorem rc1_le {r j : Nat} {s y : Int} {nl : Nat → Int} (hs : 0 ≤ s) : (0 ≤ rc1 r s nl j ∧ rc1 r s nl j ≤ y) ↔ ((0 ≤ nl j ∧ nl j ≤ y) ∨ (j = r ∧ s ≤ y)) := by
  unfold rc1
  by_cases z : j = r
  · subst z
    rw [if_pos rfl]
    split
    · omega
    · split <;> omega
  · rw [if_neg z]
    omega
theorem rc1_rng {r j : Nat} {s M : Int} {nl : Nat → Int} (hs : 0 ≤ s ∧ s ≤ M) (h : ∀ j, j < 8 → nl j = -1 ∨ (0 ≤ nl j ∧ nl j ≤ M)) (hj : j < 8) : rc1 r s nl j = -1 ∨ (0 ≤ rc1 r s nl j ∧ rc1 r s nl j ≤ M) := by
  have := h j hj
  unfold rc1
  by_cases z : j = r
  · subst z
    rw [if_pos rfl]
    split
    · omega
    · split <;> omega
  · rw [if_neg z]
    exact this
theorem RB_go {I : Fn} {c : Nat} {t g M : Int} {l nl nl1 nl2 : Nat → Int} {b : Nat} (h : RB I c t g M l b nl) (hn : 0 ≤ l b ∧ ¬ (b : Int) = t) (hs : 0 ≤ l b + tk I c b g ∧ l b + tk I c b g ≤ M) (h1 : ∀ j, j < 8 → nl1 j = rc1 (rdS I t.toNat b).toNat (l b + tk I c b g) nl j) (h2 : ∀ j, j < 8 → nl2 j = rc1 (I 11 b).toNat (l b + tk I c b g) nl1 j) : RB I c t g M l (b + 1) nl2 := by
  have r1 : ∀ j, j < 8 → nl1 j = -1 ∨ (0 ≤ nl1 j ∧ nl1 j ≤ M) := fun j hj => by rw [h1 j hj]; exact rc1_rng hs (fun j hj => (h j hj).1) hj
  intro j hj
  refine ⟨by rw [h2 j hj]; exact rc1_rng hs r1 hj, fun y => ?_⟩
  rw [h2 j hj, rc1_le hs.1, h1 j hj, rc1_le hs.1, (h j hj).2 y]
  constructor
  · rintro ((⟨a, ha, q⟩ | q) | q)
    · exact ⟨a, by omega, q⟩
    · exact ⟨b, by omega, hn, .inl q.1, q.2⟩
    · exact ⟨b, by omega, hn, .inr q.1, q.2⟩
  · rintro ⟨a, ha, q1, q2, q3⟩
    by_cases z : a = b
    · subst z
      rcases q2 with q2 | q2
      · exact .inl (.inr ⟨q2, q3⟩)
      · exact .inr ⟨q2, q3⟩
    · exact .inl (.inl ⟨a, by omega, q1, q2, q3⟩)
def FI (I : Fn) (c : Nat) (t g0 : Int) (b0 most k : Nat) (l : Nat → Int) (found : Int) : Prop := (∀ j, j < 8 → l j = -1 ∨ (0 ≤ l j ∧ l j ≤ 1000 * k)) ∧ ((found = -1 ∨ (0 ≤ found ∧ found ≤ 1000 * k)) ∧ ((0 ≤ l t.toNat → 0 ≤ found ∧ found ≤ l t.toNat) ∧ ∀ x, (((0 ≤ found ∧ found ≤ x) ∨ ∃ b : Nat, b < 8 ∧ (0 ≤ l b ∧ pR I c t (most - k) (g0 + k) b (x - l b))) ↔ pR I c t most g0 b0 x)))
theorem pR_t {I : Fn} {c : Nat} {t : Int} (hC : Cur I I) (ht : 0 ≤ t) {n : Nat} {g z : Int} : pR I c t n g t.toNat z ↔ 0 ≤ z := by
  cases n with
  | zero => exact ⟨fun q => q.2, fun q => ⟨by omega, q⟩⟩
  | succ n => exact ⟨fun q => pR_nn hC q, fun q => .inl ⟨by omega, q⟩⟩
theorem FI_0 {I : Fn} {c : Nat} {t g0 : Int} {b0 most : Nat} {l : Nat → Int} (hC : Cur I I) (ht : 0 ≤ t ∧ t < 8) (hb : b0 < 8) (hl : ∀ j, j < 8 → l j = if j = b0 then 0 else -1) : FI I c t g0 b0 most 0 l (l t.toNat) := by
  have r : ∀ j, j < 8 → l j = -1 ∨ (0 ≤ l j ∧ l j ≤ 1000 * ((0 : Nat) : Int)) := by
    intro j hj
    rw [hl j hj]
    split <;> omega
  refine ⟨r, r _ (by omega), fun q => ⟨q, Int.le_refl _⟩, fun x => ?_⟩
  rw [show g0 + ((0 : Nat) : Int) = g0 by omega, show most - 0 = most from rfl]
  constructor
  · rintro (⟨q1, q2⟩ | ⟨b, hb', q1, q2⟩)
    · rw [hl _ (by omega)] at q1 q2
      by_cases z : t.toNat = b0
      · rw [if_pos z] at q2
        rw [← z]
        exact (pR_t hC ht.1).mpr (by omega)
      · rw [if_neg z] at q1
        omega
    · rw [hl b hb'] at q1 q2
      by_cases z : b = b0
      · rw [if_pos z] at q2
        subst z
        exact pR_mono q2 (by omega)
      · rw [if_neg z] at q1
        omega
  · intro q
    refine .inr ⟨b0, hb, ?_⟩
    rw [hl b0 hb, if_pos rfl]
    exact ⟨Int.le_refl _, pR_mono q (by omega)⟩
theorem FI_next {I : Fn} {c : Nat} {t g0 found found' : Int} {b0 most k : Nat} {l l' : Nat → Int} (hB : Bts I) (hC : Cur I I) (ht : 0 ≤ t ∧ t < 8) (hk : k < most) (h : FI I c t g0 b0 most k l found) (hR : RB I c t (g0 + k) (1000 * (k + 1 : Nat)) l 8 l') (hf : (l' t.toNat < 0 ∧ found' = found) ∨ (0 ≤ l' t.toNat ∧ ((found < 0 ∧ found' = l' t.toNat) ∨ ((0 ≤ found ∧ (found ≤ l' t.toNat ∧ found' = found)) ∨ (0 ≤ found ∧ (l' t.toNat < found ∧ found' = l' t.toNat)))))) : FI I c t g0 b0 most (k + 1) l' found' := by
  obtain ⟨h1, h2, h3, h4⟩ := h
  have ht' := (hR t.toNat (by omega)).1
  have hle : ∀ x, (0 ≤ found' ∧ found' ≤ x) ↔ ((0 ≤ found ∧ found ≤ x) ∨ (0 ≤ l' t.toNat ∧ l' t.toNat ≤ x)) := by
    intro x
    omega
  refine ⟨fun j hj => (hR j hj).1, by omega, by omega, fun x => ?_⟩
  rw [← h4 x, hle]
  rw [show g0 + ((k + 1 : Nat) : Int) = g0 + k + 1 by omega, show most - k = most - (k + 1) + 1 by omega]
  constructor
  · rintro ((q | q) | ⟨j, hj, q1, q2⟩)
    · exact .inl q
    · obtain ⟨a, ha, ⟨a1, a2⟩, a3, a4⟩ := ((hR t.toNat (by omega)).2 _).mp ⟨q.1, Int.le_refl _⟩
      refine .inr ⟨a, ha, a1, .inr ⟨a2, ?_⟩⟩
      rcases a3 with a3 | a3
      · refine .inr ?_
        rw [← a3]
        exact (pR_t hC ht.1).mpr (by omega)
      · refine .inl ?_
        rw [← a3]
        exact (pR_t hC ht.1).mpr (by omega)
    · obtain ⟨a, ha, ⟨a1, a2⟩, a3, a4⟩ := ((hR j hj).2 _).mp ⟨q1, Int.le_refl _⟩
      refine .inr ⟨a, ha, a1, .inr ⟨a2, ?_⟩⟩
      rcases a3 with a3 | a3
      · refine .inr ?_
        rw [← a3]
        exact pR_mono q2 (by omega)
      · refine .inl ?_
        rw [← a3]
        exact pR_mono q2 (by omega)
  · rintro (q | ⟨b, hb, q1, q2⟩)
    · exact .inl (.inl q)
    · have hq := hB b hb
      have hr := rdS_rng (t := t.toNat) hB hb
      rcases q2 with ⟨q2, q3⟩ | ⟨q2, q3 | q3⟩
      · have e : t.toNat = b := by omega
        rw [e] at h3
        have := h3 q1
        exact .inl (.inl (by omega))
      · have := ((hR (I 11 b).toNat (by omega)).2 (l b + tk I c b (g0 + k))).mpr ⟨b, hb, ⟨q1, q2⟩, .inr rfl, Int.le_refl _⟩
        exact .inr ⟨_, by omega, this.1, pR_mono q3 (by omega)⟩
      · have := ((hR (rdS I t.toNat b).toNat (by omega)).2 (l b + tk I c b (g0 + k))).mpr ⟨b, hb, ⟨q1, q2⟩, .inl rfl, Int.le_refl _⟩
        exact .inr ⟨_, by omega, this.1, pR_mono q3 (by omega)⟩
theorem FI_end {I : Fn} {c : Nat} {t g0 found : Int} {b0 most : Nat} {l : Nat → Int} (h : FI I c t g0 b0 most most l found) : (found = -1 ∨ (0 ≤ found ∧ found ≤ 1000 * most)) ∧ ∀ x, (0 ≤ found ∧ found ≤ x) ↔ pR I c t most g0 b0 x := by
  obtain ⟨h1, h2, h3, h4⟩ := h
  refine ⟨h2, fun x => ?_⟩
  rw [← h4 x, Nat.sub_self]
  constructor
  · exact fun q => .inl q
  · rintro (q | ⟨b, hb, q1, q2, q3⟩)
    · exact q
    · have e : t.toNat = b := by omega
      rw [e] at h3
      have := h3 q1
      omega
theorem m_reach_ok {d : Nat} {J L : Fn} {r s : Int} (hr : 0 ≤ r ∧ r < 8) : ∃ J', CallD (d + 1) 187 [vr 92, vi r, vi s] (S J L) = some (none, S J' L) ∧ (Fr [119] J J' ∧ ∀ j, j < 8 → J' 119 j = rc1 r.toNat s (J 119) j) := by
  have key : ∀ j, (up J 119 r.toNat s) 119 j = if j = r.toNat then s else J 119 j := by
    intro j
    rw [up_eq]
    by_cases z : j = r.toNat
    · rw [if_pos ⟨rfl, z⟩, if_pos z]
    · rw [if_neg (fun y => z y.2), if_neg z]
  by_cases e1 : J 119 r.toNat < 0
  · refine ⟨_, (e187_1 (by omega) rfl (by omega)), (Fr.refl _ _).up rfl, fun j hj => ?_⟩
    unfold rc1
    rw [key, if_pos e1]
  · by_cases e2 : s < J 119 r.toNat
    · refine ⟨_, (e187_3 (by omega) rfl (by omega) (by omega)), (Fr.refl _ _).up rfl, fun j hj => ?_⟩
      unfold rc1
      rw [key, if_neg e1, if_pos e2]
    · refine ⟨_, (e187_2 (by omega) rfl (by omega) (by omega)), Fr.refl _ _, fun j hj => ?_⟩
      unfold rc1
      rw [if_neg e1, if_neg e2]
      by_cases z : j = r.toNat
      · rw [if_pos z, z]
      · rw [if_neg z]
theorem m_mi {F : Cal} {J0 L : Fn} {c b0 g0 most : Int} : ∀ (r x : Nat) (J : Fn), x + r = 8 → Fr [118] J0 J → (∀ j, j < x → J 118 j = if (j : Int) = b0 then 0 else -1) → ∃ J', y186_3 F c b0 g0 most x J L = y186_3 F c b0 g0 most ((8 : Nat) : Int) J' L ∧ (Fr [118] J0 J' ∧ ∀ j, j < 8 → J' 118 j = if (j : Int) = b0 then 0 else -1)
  | 0, x, J, hx, hf, hm => by
    have : x = 8 := by omega
    subst this
    exact ⟨J, rfl, hf, hm⟩
  | r + 1, x, J, hx, hf, hm => by
    have ih := m_mi (F := F) (J0 := J0) (L := L) (c := c) (b0 := b0) (g0 := g0) (most := most) r (x + 1) (up J 118 x (if (x : Int) = b0 then 0 else -1)) (by omega) (hf.up rfl) (fun j hj => by
      rw [up_eq]
      by_cases z : j = x
      · rw [if_pos ⟨rfl, z⟩, z]
      · rw [if_neg (fun y => z y.2)]; exact hm j (by omega))
    obtain ⟨J', h1, h2⟩ := ih
    refine ⟨J', ?_, h2⟩
    rw [show ((x + 1 : Nat) : Int) = (x : Int) + 1 by omega] at h1
    by_cases e : (x : Int) = b0
    · rw [if_pos e] at h1
      refine Eq.trans (y186_3_3 (by omega) (by omega) (by omega) (w32_id (by omega) (by omega))) ?_
      exact h1
    · rw [if_neg e] at h1
      refine Eq.trans (y186_3_2 (by omega) (by omega) (by omega) (w32_id (by omega) (by omega))) ?_
      exact h1
theorem m_mn {F : Cal} {J0 L : Fn} {c g0 most f k : Int} : ∀ (r x : Nat) (J : Fn), x + r = 8 → Fr [119] J0 J → (∀ j, j < x → J 119 j = -1) → ∃ J', y186_60 F c g0 most f k x J L = y186_84 F c g0 most f k 0 J' L ∧ (Fr [119] J0 J' ∧ ∀ j, j < 8 → J' 119 j = -1)
  | 0, x, J, hx, hf, hm => by
    have : x = 8 := by omega
    subst this
    refine ⟨J, ?_, hf, hm⟩
    exact (y186_60_1 (by omega))
  | r + 1, x, J, hx, hf, hm => by
    have ih := m_mn (F := F) (J0 := J0) (L := L) (c := c) (g0 := g0) (most := most) (f := f) (k := k) r (x + 1) (up J 119 x (-1)) (by omega) (hf.up rfl) (fun j hj => by
      rw [up_eq]
      by_cases z : j = x
      · rw [if_pos ⟨rfl, z⟩]
      · rw [if_neg (fun y => z y.2)]; exact hm j (by omega))
    obtain ⟨J', h1, h2⟩ := ih
    refine ⟨J', ?_, h2⟩
    rw [show ((x + 1 : Nat) : Int) = (x : Int) + 1 by omega] at h1
    refine Eq.trans (y186_60_2 (by omega) (by omega) (w32_id (by omega) (by omega))) ?_
    exact h1
theorem m_mcp {F : Cal} {J0 L : Fn} {c g0 most f k : Int} {v : Nat → Int} (hv : ∀ j, j < 8 → J0 119 j = v j) : ∀ (r x : Nat) (J : Fn), x + r = 8 → Fr [118] J0 J → (∀ j, j < x → J 118 j = v j) → ∃ J', y186_171 F c g0 most f k x J L = y186_171 F c g0 most f k ((8 : Nat) : Int) J' L ∧ (Fr [118] J0 J' ∧ ∀ j, j < 8 → J' 118 j = v j)
  | 0, x, J, hx, hf, hm => by
    have : x = 8 := by omega
    subst this
    exact ⟨J, rfl, hf, hm⟩
  | r + 1, x, J, hx, hf, hm => by
    have ih := m_mcp (F := F) (J0 := J0) (L := L) (c := c) (g0 := g0) (most := most) (f := f) (k := k) hv r (x + 1) (up J 118 x (v x)) (by omega) (hf.up rfl) (fun j hj => by
      rw [up_eq]
      by_cases z : j = x
      · rw [if_pos ⟨rfl, z⟩, z]
      · rw [if_neg (fun y => z y.2)]; exact hm j (by omega))
    obtain ⟨J', h1, h2⟩ := ih
    refine ⟨J', ?_, h2⟩
    rw [show ((x + 1 : Nat) : Int) = (x : Int) + 1 by omega] at h1
    refine Eq.trans (y186_171_5 (by omega) (by omega) (show _ = v x from (hf 119 x rfl).trans (hv x (by omega))) (w32_id (by omega) (by omega))) ?_
    exact h1
theorem m_ms {d : Nat} {I J0 L : Fn} {c t g0 most f : Int} {k : Nat} {l : Nat → Int} (hB : Bts I) (hC : Cur I I) (hM : MH I J0) (hF : FarM I J0 t.toNat) (hc : 0 ≤ c ∧ c < 6) (ht : I (17 + c.toNat) 4 = t) (hg : 0 ≤ g0 ∧ g0 ≤ 10000) (hk : k < 40) (hl : ∀ j, j < 8 → J0 118 j = l j ∧ (l j = -1 ∨ (0 ≤ l j ∧ l j ≤ 1000 * k))) : ∀ (r b : Nat) (J : Fn), b + r = 8 → Fr [115, 119] J0 J → RB I c.toNat t (g0 + k) (1000 * (k + 1 : Nat)) l b (J 119) → ∃ J', y186_84 (CallD (d + 4)) c g0 most f k b J L = y186_171 (CallD (d + 4)) c g0 most f k 0 J' L ∧ (Fr [115, 119] J0 J' ∧ RB I c.toNat t (g0 + k) (1000 * (k + 1 : Nat)) l 8 (J' 119))
  | 0, b, J, hb, hf, hm => by
    have : b = 8 := by omega
    subst this
    refine ⟨J, ?_, hf, hm⟩
    exact (y186_84_1 (by omega))
  | r + 1, b, J, hb, hf, hm => by
    have hMJ := hM.fr hf (by decide)
    have hFJ := hF.fr hf (by decide) (by decide) (by decide)
    have m4 := ((hMJ.1.2.2.2.2.2.1.at (c := c.toNat) (by omega)).2.2.2.1).trans ht
    have e118 : J 118 b = l b := (hf 118 b rfl).trans (hl b (by omega)).1
    have lb := (hl b (by omega)).2
    have ih := fun J' => m_ms (d := d) (L := L) (most := most) (f := f) hB hC hM hF hc ht hg hk hl r (b + 1) J' (by omega)
    rw [show ((b + 1 : Nat) : Int) = (b : Int) + 1 by omega] at ih
    by_cases e1 : 0 ≤ l b
    · by_cases e2 : (b : Int) = t
      · obtain ⟨J', q1, q2⟩ := ih J hf (RB_no hm (fun z => z.2 e2))
        refine ⟨J', ?_, q2⟩
        refine Eq.trans (y186_84_4 (by omega) (by omega) (show _ = l b from e118) (by omega) (by omega) m4 (by omega) (w32_id (by omega) (by omega))) ?_
        exact q1
      · have tr := tk_rng hC c.toNat b (g0 + k)
        have hq := hB b (by omega)
        have hr := rdS_rng (t := t.toNat) hB (b := b) (by omega)
        obtain ⟨J1, mt, f1⟩ := m_minutes_ok (d := d) (L := L) (c := c) (b := (b : Int)) (g := g0 + k) hC hMJ hc
        have hF1 := hFJ.fr f1 (by decide) (by decide) (by decide)
        have s1 := m_step_ok (d := d + 3) (L := L) (w := 1) (b := (b : Int)) hB hF1 (by omega)
        rw [Int.toNat_natCast, show stS I t.toNat 1 b = rdS I t.toNat b from rfl] at s1
        obtain ⟨J2, r1, f2, k2⟩ := m_reach_ok (d := d + 3) (J := J1) (L := L) (r := rdS I t.toNat b) (s := l b + tk I c.toNat b (g0 + k)) hr
        have hF2 := hF1.fr f2 (by decide) (by decide) (by decide)
        have s0 := m_step_ok (d := d + 3) (L := L) (w := 0) (b := (b : Int)) hB hF2 (by omega)
        rw [Int.toNat_natCast, show stS I t.toNat 0 b = I 11 b from rfl] at s0
        obtain ⟨J3, r2, f3, k3⟩ := m_reach_ok (d := d + 3) (J := J2) (L := L) (r := I 11 b) (s := l b + tk I c.toNat b (g0 + k)) hq.1
        obtain ⟨J', q1, q2⟩ := ih J3 (((hf.trans (f1.mono (by decide))).trans (f2.mono (by decide))).trans (f3.mono (by decide))) (RB_go hm ⟨e1, e2⟩ (by omega) (nl1 := J2 119) (fun j hj => by
          rw [k2 j hj]
          unfold rc1
          rw [f1 119 j rfl, f1 119 _ rfl]) (fun j hj => k3 j hj))
        refine ⟨J', ?_, q2⟩
        refine Eq.trans (y186_84_3 (by omega) (by omega) (show _ = l b from e118) (by omega) (by omega) m4 (by omega) (show _ = g0 + k from w32_id (by omega) (by omega)) mt (show _ = l b + tk I c.toNat b (g0 + k) from w32_id (by omega) (by omega)) s1 r1 s0 r2 (w32_id (by omega) (by omega))) ?_
        exact q1
    · obtain ⟨J', q1, q2⟩ := ih J hf (RB_no hm (fun z => e1 z.1))
      refine ⟨J', ?_, q2⟩
      refine Eq.trans (y186_84_2 (by omega) (by omega) (show _ = l b from e118) (by omega) (w32_id (by omega) (by omega))) ?_
      exact q1
theorem m_mo {d : Nat} {I J0 L : Fn} {c t g0 : Int} {b0 most : Nat} (hB : Bts I) (hC : Cur I I) (hM : MH I J0) (hF : FarM I J0 t.toNat) (hc : 0 ≤ c ∧ c < 6) (ht : I (17 + c.toNat) 4 = t) (ht8 : 0 ≤ t ∧ t < 8) (hg : 0 ≤ g0 ∧ g0 ≤ 10000) (hmost : most ≤ 40) : ∀ (r k : Nat) (J : Fn) (f : Int), k + r = most → Fr [115, 118, 119] J0 J → FI I c.toNat t g0 b0 most k (J 118) f → ∃ J' v, y186_50 (CallD (d + 4)) c g0 most f k J L = some (some (vi v), S J' L) ∧ (Fr [115, 118, 119] J0 J' ∧ ((v = -1 ∨ (0 ≤ v ∧ v ≤ 1000 * most)) ∧ ∀ x, (0 ≤ v ∧ v ≤ x) ↔ pR I c.toNat t most g0 b0 x))
  | 0, k, J, f, hk, hf, hS => by
    have : k = most := by omega
    subst this
    refine ⟨J, f, ?_, hf, FI_end hS⟩
    exact (y186_50_1 (by omega))
  | r + 1, k, J, f, hk, hf, hS => by
    obtain ⟨J1, h1, h2, h3⟩ := m_mn (F := CallD (d + 4)) (J0 := J) (L := L) (c := c) (g0 := g0) (most := most) (f := f) (k := k) 8 0 J (by omega) (Fr.refl _ _) (fun j hj => by omega)
    have hM1 := hM.fr (hf.trans (h2.mono (by decide))) (by decide)
    have hF1 := hF.fr (hf.trans (h2.mono (by decide))) (by decide) (by decide) (by decide)
    obtain ⟨J2, g1, g2, g3⟩ := m_ms (d := d) (L := L) (most := most) (f := f) (k := k) (l := J 118) hB hC hM1 hF1 hc ht hg (by omega) (fun j hj => ⟨h2 118 j rfl, hS.1 j hj⟩) 8 0 J1 (by omega) (Fr.refl _ _) (RB_0 h3)
    obtain ⟨J3, e1, e2, e3⟩ := m_mcp (F := CallD (d + 4)) (J0 := J2) (L := L) (c := c) (g0 := g0) (most := most) (f := f) (k := k) (v := J2 119) (fun j hj => rfl) 8 0 J2 (by omega) (Fr.refl _ _) (fun j hj => by omega)
    have fA : Fr [115, 118, 119] J0 J3 := ((hf.trans (h2.mono (by decide))).trans (g2.mono (by decide))).trans (e2.mono (by decide))
    have m4 := ((hM.fr fA (by decide)).1.2.2.2.2.2.1.at (c := c.toNat) (by omega)).2.2.2.1.trans ht
    have hR : RB I c.toNat t (g0 + k) (1000 * (k + 1 : Nat)) (J 118) 8 (J3 118) := by
      intro j hj
      rw [e3 j hj]
      exact g3 j hj
    have start : y186_50 (CallD (d + 4)) c g0 most f k J L = y186_171 (CallD (d + 4)) c g0 most f k ((8 : Nat) : Int) J3 L := by
      refine Eq.trans (y186_50_2 (by omega)) ?_
      rw [show (0 : Int) = ((0 : Nat) : Int) from rfl, h1]
      rw [show (0 : Int) = ((0 : Nat) : Int) from rfl, g1]
      exact e1
    have ih := fun f' h => m_mo (d := d) (L := L) (b0 := b0) hB hC hM hF hc ht ht8 hg hmost r (k + 1) J3 f' (by omega) fA h
    rw [show ((k + 1 : Nat) : Int) = (k : Int) + 1 by omega] at ih
    by_cases q1 : J3 118 t.toNat < 0
    · obtain ⟨J', v, z1, z2⟩ := ih f (FI_next hB hC ht8 (by omega) hS hR (.inl ⟨q1, rfl⟩))
      refine ⟨J', v, ?_, z2⟩
      refine Eq.trans start ?_
      refine Eq.trans (y186_171_1 (by omega) (by omega) m4 (by omega) rfl (by omega) (w32_id (by omega) (by omega))) ?_
      exact z1
    · by_cases q2 : f < 0
      · obtain ⟨J', v, z1, z2⟩ := ih (J3 118 t.toNat) (FI_next hB hC ht8 (by omega) hS hR (.inr ⟨by omega, .inl ⟨q2, rfl⟩⟩))
        refine ⟨J', v, ?_, z2⟩
        refine Eq.trans start ?_
        refine Eq.trans (y186_171_2 (by omega) (by omega) m4 (by omega) rfl (by omega) (by omega) (w32_id (by omega) (by omega))) ?_
        exact z1
      · by_cases q3 : f ≤ J3 118 t.toNat
        · obtain ⟨J', v, z1, z2⟩ := ih f (FI_next hB hC ht8 (by omega) hS hR (.inr ⟨by omega, .inr (.inl ⟨by omega, q3, rfl⟩)⟩))
          refine ⟨J', v, ?_, z2⟩
          refine Eq.trans start ?_
          refine Eq.trans (y186_171_3 (by omega) (by omega) m4 (by omega) rfl (by omega) (by omega) (by omega) (w32_id (by omega) (by omega))) ?_
          exact z1
        · obtain ⟨J', v, z1, z2⟩ := ih (J3 118 t.toNat) (FI_next hB hC ht8 (by omega) hS hR (.inr ⟨by omega, .inr (.inr ⟨by omega, by omega, rfl⟩)⟩))
          refine ⟨J', v, ?_, z2⟩
          refine Eq.trans start ?_
          refine Eq.trans (y186_171_4 (by omega) (by omega) m4 (by omega) rfl (by omega) (by omega) (by omega) (w32_id (by omega) (by omega))) ?_
          exact z1
theorem m_minF {d : Nat} {I J L : Fn} {c t g0 b0 : Int} {most : Nat} (hB : Bts I) (hC : Cur I I) (hM : MH I J) (hF : FarM I J t.toNat) (hc : 0 ≤ c ∧ c < 6) (ht : I (17 + c.toNat) 4 = t) (ht8 : 0 ≤ t ∧ t < 8) (hb0 : 0 ≤ b0 ∧ b0 < 8) (hg : 0 ≤ g0 ∧ g0 ≤ 10000) (hmost : most ≤ 40) : ∃ J' v, CallD (d + 5) 186 [vr 92, vi c, vi b0, vi g0, vi most] (S J L) = some (some (vi v), S J' L) ∧ (Fr [115, 118, 119] J J' ∧ ((v = -1 ∨ (0 ≤ v ∧ v ≤ 1000 * most)) ∧ ∀ x, (0 ≤ v ∧ v ≤ x) ↔ pR I c.toNat t most g0 b0.toNat x)) := by
  obtain ⟨J1, h1, h2, h3⟩ := m_mi (F := CallD (d + 4)) (J0 := J) (L := L) (c := c) (b0 := b0) (g0 := g0) (most := most) 8 0 J (by omega) (Fr.refl _ _) (fun j hj => by omega)
  have m4 := ((hM.fr h2 (by decide)).1.2.2.2.2.2.1.at (c := c.toNat) (by omega)).2.2.2.1.trans ht
  obtain ⟨J2, v, g1, g2, g3⟩ := m_mo (d := d) (L := L) (b0 := b0.toNat) hB hC (hM.fr h2 (by decide)) (hF.fr h2 (by decide) (by decide) (by decide)) hc ht ht8 hg hmost most 0 J1 (J1 118 t.toNat) (by omega) (Fr.refl _ _) (FI_0 hC ht8 (by omega) (fun j hj => by
    rw [h3 j hj]
    by_cases z : (j : Int) = b0
    · rw [if_pos z, if_pos (by omega)]
    · rw [if_neg z, if_neg (by omega)]))
  refine ⟨J2, v, ?_, (h2.mono (by decide)).trans g2, g3⟩
  refine Eq.trans (e186_1) ?_
  rw [show (0 : Int) = ((0 : Nat) : Int) from rfl, h1]
  refine Eq.trans (y186_3_1 (by omega) (by omega) m4 (by omega) rfl) ?_
  exact g1
/-- the key says both -/
theorem key_F {I : Fn} {c : Nat} {t g K F : Int} {b : Nat} (hC : Cur I I) (hne : ¬ (b : Int) = t) (hK : 0 ≤ K ∧ (K = NK ∨ K ≤ 80000)) (hKW : ∀ x, x < NK → (K ≤ x ↔ Wp I c t g b x)) (hF : F = -1 ∨ (0 ≤ F ∧ F ≤ 40000)) (hFP : ∀ x, (0 ≤ F ∧ F ≤ x) ↔ pR I c t 40 g b x) : (F = -1 ∧ K = NK) ∨ (0 ≤ F ∧ ((K = 2 * F ∨ K = 2 * F + 1) ∧ K ≤ 80001)) := by
  have up : ∀ x, pR I c t 40 g b x → Wp I c t g b (2 * x + 1) := by
    intro x h
    rcases h with ⟨h1, h2⟩ | ⟨h1, h2 | h2⟩
    · exact absurd h1 hne
    · exact .inl (pR_mono h2 (by omega))
    · exact .inr (pR_mono h2 (by omega))
  have dn : ∀ x, Wp I c t g b x → pR I c t 40 g b (x / 2) := by
    intro x h
    rcases h with h | h
    · exact .inr ⟨hne, .inl h⟩
    · exact .inr ⟨hne, .inr (pR_mono h (by omega))⟩
  unfold NK at *
  rcases hF with hF | hF
  · left
    refine ⟨hF, ?_⟩
    rcases hK.2 with q | q
    · exact q
    · have := (hFP _).mpr (dn K ((hKW K (by omega)).mp (Int.le_refl _)))
      omega
  · right
    have h1 := (hKW (2 * F + 1) (by omega)).mpr (up F ((hFP F).mp ⟨hF.1, Int.le_refl _⟩))
    have h2 := (hFP _).mpr (dn K ((hKW K (by omega)).mp (Int.le_refl _)))
    omega
theorem key_U {I : Fn} {c : Nat} {t g K F U : Int} {b : Nat} (hC : Cur I I) (hne : ¬ (b : Int) = t) (hK : K = 2 * F ∨ K = 2 * F + 1) (hK2 : K ≤ 80001) (hKW : ∀ x, x < NK → (K ≤ x ↔ Wp I c t g b x)) (hF : 0 ≤ F) (hFP : ∀ x, (0 ≤ F ∧ F ≤ x) ↔ pR I c t 40 g b x) (hUP : ∀ x, (0 ≤ U ∧ U ≤ x) ↔ pR I c t 39 (g + 1) (I 11 b).toNat x) : (K = 2 * F ↔ (0 ≤ U ∧ U + tk I c b g = F)) := by
  unfold NK at *
  have tr := tk_rng hC c b g
  constructor
  · intro e
    have h1 := (hKW (2 * F) (by omega)).mp (by omega)
    rcases h1 with h1 | h1
    · have h2 := (hUP _).mpr h1
      have h3 := (hFP (U + tk I c b g)).mpr (.inr ⟨hne, .inl ((hUP _).mp (by omega))⟩)
      omega
    · have h2 := (hFP (F - 1)).mpr (.inr ⟨hne, .inr (pR_mono h1 (by omega))⟩)
      omega
  · rintro ⟨h1, h2⟩
    have h3 : Wp I c t g b (2 * F) := .inl ((hUP _).mp (by omega))
    have := (hKW (2 * F) (by omega)).mpr h3
    omega
