/-! how far: the mathematics -/
def Bts (I : Fn) : Prop := ∀ b, b < 8 → (0 ≤ I 11 b ∧ I 11 b < 8) ∧ (0 ≤ I 12 b ∧ I 12 b < 8)
/-- in at most n steps from b to t -/
def rcb (I : Fn) (t : Nat) : Nat → Nat → Bool
  | 0, b => Nat.beq b t
  | n + 1, b => rcb I t n b || (rcb I t n (I 11 b).toNat || rcb I t n (I 12 b).toNat)
theorem rcb_succ {I : Fn} {t n b : Nat} (h : rcb I t n b = true) : rcb I t (n + 1) b = true := by
  unfold rcb
  rw [h]
  rfl
theorem rcb_le {I : Fn} {t n m b : Nat} (hm : n ≤ m) (h : rcb I t n b = true) : rcb I t m b = true := by
  induction hm with
  | refl => exact h
  | step _ ih => exact rcb_succ ih
theorem rcb_or {I : Fn} {t n b : Nat} : rcb I t (n + 1) b = true ↔ rcb I t n b = true ∨ (rcb I t n (I 11 b).toNat = true ∨ rcb I t n (I 12 b).toNat = true) := by
  show (rcb I t n b || (rcb I t n (I 11 b).toNat || rcb I t n (I 12 b).toNat)) = true ↔ _
  rw [Bool.or_eq_true, Bool.or_eq_true]
/-- when a pass finds nothing new, no later one does -/
theorem rcb_same {I : Fn} {t n : Nat} (hB : Bts I) (h : ∀ b, b < 8 → rcb I t (n + 1) b = rcb I t n b) : ∀ m b, b < 8 → rcb I t (n + m) b = rcb I t n b
  | 0, b, _ => rfl
  | m + 1, b, hb => by
    have h1 := rcb_same hB h m
    have hq := hB b hb
    show rcb I t (n + m + 1) b = _
    rw [← h b hb]
    show (rcb I t (n + m) b || (rcb I t (n + m) (I 11 b).toNat || rcb I t (n + m) (I 12 b).toNat)) = (rcb I t n b || (rcb I t n (I 11 b).toNat || rcb I t n (I 12 b).toNat))
    rw [h1 b hb, h1 _ (by omega), h1 _ (by omega)]
def bn (b : Bool) : Nat := bif b then 1 else 0
theorem bn_le {a b : Bool} (h : a = true → b = true) : bn a ≤ bn b ∧ bn b ≤ 1 := by
  cases a <;> cases b <;> first | exact ⟨by decide, by decide⟩ | exact absurd (h rfl) (by decide)
theorem bn_eq {a b : Bool} (h : bn a = bn b) : a = b := by
  cases a <;> cases b <;> first | rfl | exact absurd h (by decide)
def cnt (I : Fn) (t n : Nat) : Nat := bn (rcb I t n 0) + bn (rcb I t n 1) + bn (rcb I t n 2) + bn (rcb I t n 3) + bn (rcb I t n 4) + bn (rcb I t n 5) + bn (rcb I t n 6) + bn (rcb I t n 7)
theorem cnt_up {I : Fn} {t : Nat} (n : Nat) : cnt I t n + 1 ≤ cnt I t (n + 1) ∨ ∀ b, b < 8 → rcb I t (n + 1) b = rcb I t n b := by
  have g : ∀ b, bn (rcb I t n b) ≤ bn (rcb I t (n + 1) b) ∧ bn (rcb I t (n + 1) b) ≤ 1 := fun b => bn_le rcb_succ
  by_cases h : cnt I t n + 1 ≤ cnt I t (n + 1)
  · exact .inl h
  · right
    unfold cnt at h
    have g0 := g 0; have g1 := g 1; have g2 := g 2; have g3 := g 3; have g4 := g 4; have g5 := g 5; have g6 := g 6; have g7 := g 7
    intro b hb
    refine bn_eq ?_
    match b, hb with
    | 0, _ => omega
    | 1, _ => omega
    | 2, _ => omega
    | 3, _ => omega
    | 4, _ => omega
    | 5, _ => omega
    | 6, _ => omega
    | 7, _ => omega
    | b + 8, h => omega
theorem rcb_grow {I : Fn} {t : Nat} (hB : Bts I) (ht : t < 8) : ∀ n, n + 1 ≤ cnt I t n ∨ ∀ m b, n ≤ m → b < 8 → rcb I t m b = rcb I t n b
  | 0 => by
    left
    unfold cnt
    have : bn (rcb I t 0 t) = 1 := by
      show bn (Nat.beq t t) = 1
      rw [Nat.beq_refl]; rfl
    match t, ht with
    | 0, _ => omega
    | 1, _ => omega
    | 2, _ => omega
    | 3, _ => omega
    | 4, _ => omega
    | 5, _ => omega
    | 6, _ => omega
    | 7, _ => omega
    | b + 8, h => omega
  | n + 1 => by
    rcases rcb_grow hB ht n with h | h
    · rcases cnt_up (I := I) (t := t) n with q | q
      · left; omega
      · right
        intro m b hm hb
        obtain ⟨c, rfl⟩ : ∃ c, m = n + c := ⟨m - n, by omega⟩
        rw [rcb_same hB q c b hb, q b hb]
    · right
      intro m b hm hb
      rw [h m b (by omega) hb, h (n + 1) b (by omega) hb]
theorem rcb_7 {I : Fn} {t : Nat} (hB : Bts I) (ht : t < 8) {m b : Nat} (hm : 7 ≤ m) (hb : b < 8) : rcb I t m b = rcb I t 7 b := by
  rcases rcb_grow hB ht 7 with h | h
  · have g : ∀ b, bn (rcb I t 7 b) ≤ 1 := fun b => (bn_le id).2
    unfold cnt at h
    have g0 := g 0; have g1 := g 1; have g2 := g 2; have g3 := g 3; have g4 := g 4; have g5 := g 5; have g6 := g 6; have g7 := g 7
    have e : bn (rcb I t 7 b) = bn true := by
      show _ = 1
      match b, hb with
      | 0, _ => omega
      | 1, _ => omega
      | 2, _ => omega
      | 3, _ => omega
      | 4, _ => omega
      | 5, _ => omega
      | 6, _ => omega
      | 7, _ => omega
      | b + 8, h => omega
    have e2 := bn_eq e
    rw [e2]
    exact rcb_le hm e2
  · exact h m b hm hb
/-- how far it is; 99: no way -/
def dst (I : Fn) (t b : Nat) : Int := if rcb I t 0 b then 0 else if rcb I t 1 b then 1 else if rcb I t 2 b then 2 else if rcb I t 3 b then 3 else if rcb I t 4 b then 4 else if rcb I t 5 b then 5 else if rcb I t 6 b then 6 else if rcb I t 7 b then 7 else 99
theorem dst_rng (I : Fn) (t b : Nat) : (0 ≤ dst I t b ∧ dst I t b ≤ 7) ∨ dst I t b = 99 := by
  unfold dst
  repeat' split
  all_goals omega
theorem dst_of {I : Fn} {t b : Nat} {v : Int} (h0 : 0 ≤ v) (h1 : v ≤ 7 ∨ v = 99) (h : ∀ n : Nat, n ≤ 7 → (v ≤ n ↔ rcb I t n b = true)) : v = dst I t b := by
  have a0 := h 0 (by omega); have a1 := h 1 (by omega); have a2 := h 2 (by omega); have a3 := h 3 (by omega); have a4 := h 4 (by omega); have a5 := h 5 (by omega); have a6 := h 6 (by omega); have a7 := h 7 (by omega)
  unfold dst
  by_cases z0 : rcb I t 0 b = true
  · rw [if_pos z0]; have := a0.mpr z0; omega
  rw [if_neg z0]
  have b0 : ¬ v ≤ (0 : Int) := fun q => z0 (a0.mp q)
  by_cases z1 : rcb I t 1 b = true
  · rw [if_pos z1]; have := a1.mpr z1; omega
  rw [if_neg z1]
  have b1 : ¬ v ≤ (1 : Int) := fun q => z1 (a1.mp q)
  by_cases z2 : rcb I t 2 b = true
  · rw [if_pos z2]; have := a2.mpr z2; omega
  rw [if_neg z2]
  have b2 : ¬ v ≤ (2 : Int) := fun q => z2 (a2.mp q)
  by_cases z3 : rcb I t 3 b = true
  · rw [if_pos z3]; have := a3.mpr z3; omega
  rw [if_neg z3]
  have b3 : ¬ v ≤ (3 : Int) := fun q => z3 (a3.mp q)
  by_cases z4 : rcb I t 4 b = true
  · rw [if_pos z4]; have := a4.mpr z4; omega
  rw [if_neg z4]
  have b4 : ¬ v ≤ (4 : Int) := fun q => z4 (a4.mp q)
  by_cases z5 : rcb I t 5 b = true
  · rw [if_pos z5]; have := a5.mpr z5; omega
  rw [if_neg z5]
  have b5 : ¬ v ≤ (5 : Int) := fun q => z5 (a5.mp q)
  by_cases z6 : rcb I t 6 b = true
  · rw [if_pos z6]; have := a6.mpr z6; omega
  rw [if_neg z6]
  have b6 : ¬ v ≤ (6 : Int) := fun q => z6 (a6.mp q)
  by_cases z7 : rcb I t 7 b = true
  · rw [if_pos z7]; have := a7.mpr z7; omega
  rw [if_neg z7]
  have b7 : ¬ v ≤ (7 : Int) := fun q => z7 (a7.mp q)
  omega
/-! the class's way of measuring -/
/-- passes p are done for the belts before x, p - 1 for the others -/
def MsI (I0 I : Fn) (t : Nat) (p x : Int) : Prop := ∀ b : Nat, b < 8 → (0 ≤ I 76 b ∧ I 76 b ≤ 99) ∧ ((∀ n : Nat, n ≤ 98 → I 76 b ≤ n → rcb I0 t n b = true) ∧ ∀ n : Nat, n ≤ (if (b : Int) < x then p else p - 1) → rcb I0 t n b = true → I 76 b ≤ n)
theorem ms_in {F : Cal} {I0 : Fn} {t : Nat} {p : Int} {L : Fn} (hB : Bts I0) (hp : 1 ≤ p ∧ p < 8) : ∀ (r : Nat) (x : Int) (I : Fn), x + r = 8 → 0 ≤ x → Fr [76] I0 I → MsI I0 I t p x → ∃ I', y15_26 F p x I L = y15_18 F (p + 1) I' L ∧ Fr [76] I0 I' ∧ MsI I0 I' t p 8
  | 0, x, I, hx, h0, hf, hm => by
    have e : x = 8 := by omega
    subst e
    refine ⟨I, ?_, hf, hm⟩
    refine Eq.trans (y15_26_1 (by omega) (w32_id (by omega) (by omega))) ?_
    rfl
  | r + 1, x, I, hx, h0, hf, hm => by
    have hb := hB x.toNat (by omega)
    have f1 : I 11 x.toNat = I0 11 x.toNat := hf 11 _ rfl
    have f2 : I 12 x.toNat = I0 12 x.toNat := hf 12 _ rfl
    have hb0 := hm x.toNat (by omega)
    have hb1 := hm (I0 11 x.toNat).toNat (by omega)
    have hb2 := hm (I0 12 x.toNat).toNat (by omega)
    have key : ∃ v, (if (if I 76 (I0 12 x.toNat).toNat < I 76 (I0 11 x.toNat).toNat then I 76 (I0 12 x.toNat).toNat else I 76 (I0 11 x.toNat).toNat) + 1 < I 76 x.toNat then (if I 76 (I0 12 x.toNat).toNat < I 76 (I0 11 x.toNat).toNat then I 76 (I0 12 x.toNat).toNat else I 76 (I0 11 x.toNat).toNat) + 1 else I 76 x.toNat) = v ∧ ((v = I 76 x.toNat ∨ (v = I 76 (I0 11 x.toNat).toNat + 1 ∨ v = I 76 (I0 12 x.toNat).toNat + 1)) ∧ (v ≤ I 76 x.toNat ∧ (v ≤ I 76 (I0 11 x.toNat).toNat + 1 ∧ v ≤ I 76 (I0 12 x.toNat).toNat + 1))) := by
      refine ⟨_, rfl, ?_⟩
      repeat' split
      all_goals omega
    obtain ⟨v, kv, k1, k2⟩ := key
    obtain ⟨I', h1, h2, h3⟩ := ms_in (F := F) (t := t) (L := L) hB hp r (x + 1) (up I 76 x.toNat v) (by omega) (by omega) (hf.up rfl) (by
      intro b hb8
      by_cases e : b = x.toNat
      · subst e
        rw [up_eq, if_pos ⟨rfl, rfl⟩, if_pos (by omega)]
        have q0 := hb0.2.2
        have q1 := hb1.2.2
        have q2 := hb2.2.2
        refine ⟨by omega, fun n hn hv => ?_, fun n hn hr => ?_⟩
        · rcases k1 with k1 | k1 | k1
          · exact hb0.2.1 n hn (by omega)
          · obtain ⟨n', rfl⟩ : ∃ n', n = n' + 1 := ⟨n - 1, by omega⟩
            exact rcb_or.mpr (.inr (.inl (hb1.2.1 n' (by omega) (by omega))))
          · obtain ⟨n', rfl⟩ : ∃ n', n = n' + 1 := ⟨n - 1, by omega⟩
            exact rcb_or.mpr (.inr (.inr (hb2.2.1 n' (by omega) (by omega))))
        · cases n with
          | zero =>
            have := q0 0 (by split <;> omega) hr
            omega
          | succ n =>
            rcases rcb_or.mp hr with z | z | z
            · have := q0 n (by split <;> omega) z
              omega
            · have := q1 n (by split <;> omega) z
              omega
            · have := q2 n (by split <;> omega) z
              omega
      · have := hm b hb8
        rw [up_eq, if_neg (by omega)]
        rw [show (if (b : Int) < x + 1 then p else p - 1) = (if (b : Int) < x then p else p - 1) by
          by_cases g : (b : Int) < x
          · rw [if_pos g, if_pos (by omega)]
          · rw [if_neg g, if_neg (by omega)]]
        exact this)
    refine ⟨I', ?_, h2, h3⟩
    have hw : w32 ((if I 76 (I0 12 x.toNat).toNat < I 76 (I0 11 x.toNat).toNat then I 76 (I0 12 x.toNat).toNat else I 76 (I0 11 x.toNat).toNat) + 1) = (if I 76 (I0 12 x.toNat).toNat < I 76 (I0 11 x.toNat).toNat then I 76 (I0 12 x.toNat).toNat else I 76 (I0 11 x.toNat).toNat) + 1 := by
      refine w32_id ?_ ?_ <;> split <;> omega
    refine Eq.trans (y15_26_2 (by omega) (by omega) f1 (by omega) rfl f2 (by omega) rfl rfl rfl hw kv (w32_id (by omega) (by omega))) ?_
    exact h1
theorem ms_out {F : Cal} {I0 : Fn} {t : Nat} {L : Fn} (hB : Bts I0) : ∀ (r : Nat) (p : Int) (I : Fn), p + r = 8 → 1 ≤ p → Fr [76] I0 I → MsI I0 I t (p - 1) 8 → ∃ I', y15_18 F p I L = some (none, S I' L) ∧ Fr [76] I0 I' ∧ MsI I0 I' t 7 8
  | 0, p, I, hx, h0, hf, hm => by
    have e : p = 8 := by omega
    subst e
    refine ⟨I, ?_, hf, hm⟩
    exact (y15_18_1 (by omega))
  | r + 1, p, I, hx, h0, hf, hm => by
    obtain ⟨I1, h1, h2, h3⟩ := ms_in (F := F) (t := t) (p := p) (L := L) hB (by omega) 8 0 I (by omega) (by omega) hf (by
      intro b hb
      have := hm b hb
      rw [if_pos (by omega)] at this
      rw [if_neg (by omega)]
      exact this)
    obtain ⟨I', h4, h5, h6⟩ := ms_out (F := F) (t := t) (L := L) hB r (p + 1) I1 (by omega) (by omega) h2 (by rw [show p + 1 - 1 = p by omega]; exact h3)
    refine ⟨I', ?_, h5, h6⟩
    refine Eq.trans (y15_18_2 (by omega)) ?_
    rw [h1]
    exact h4
/-- Ways.measure -/
theorem c_measure {d : Nat} {t : Int} {I L : Fn} (hB : Bts I) (ht : 0 ≤ t ∧ t < 8) : ∃ I', CallD (d + 2) 15 [vr 75, vi t] (S I L) = some (none, S I' L) ∧ Fr [76] I I' ∧ ∀ b, b < 8 → I' 76 b = dst I t.toNat b := by
  obtain ⟨I1, f1, f2, f3⟩ := c_fill (d := d) (k := 76) (n := 8) (v := 99) (I := I) (L := L) rfl (by decide) (by decide)
  have hf1 : Fr [76] I I1 := fun k j e => f3 k j (by
    intro q
    subst q
    cases e)
  have z := f2 t.toNat (by omega)
  obtain ⟨I', h1, h2, h3⟩ := ms_out (F := CallD (d + 1)) (t := t.toNat) (L := L) hB 7 1 (up I1 76 t.toNat 0) (by omega) (by omega) (hf1.up rfl) (by
    intro b hb
    rw [if_pos (by omega)]
    by_cases e : b = t.toNat
    · subst e
      rw [up_eq, if_pos ⟨rfl, rfl⟩]
      refine ⟨by omega, fun n _ _ => rcb_le (Nat.zero_le n) (Nat.beq_refl _), fun n _ _ => by omega⟩
    · rw [up_eq, if_neg (by omega), f2 b hb]
      refine ⟨by omega, fun n _ _ => by omega, fun n hn hr => ?_⟩
      have : n = 0 := by omega
      subst this
      exact absurd (Nat.eq_of_beq_eq_true hr) e)
  refine ⟨I', ?_, h2, fun b hb => ?_⟩
  · refine Eq.trans (e15_1 f1 (by omega)) ?_
    exact h1
  · obtain ⟨g1, g2, g3⟩ := h3 b hb
    rw [if_pos (by omega)] at g3
    refine dst_of g1.1 ?_ (fun n hn => ⟨g2 n (by omega), g3 n (by omega)⟩)
    by_cases q : I' 76 b ≤ 98
    · have := g2 98 (by omega) q
      rw [rcb_7 hB (by omega) (by omega) hb] at this
      exact .inl (g3 7 (by omega) this)
    · right; omega
