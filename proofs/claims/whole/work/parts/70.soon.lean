/-! SOONEST: the mathematics -/
/-- from b, at so many steps gone, there within n steps for at most x minutes -/
def pR (I : Fn) (c : Nat) (t : Int) : Nat → Int → Nat → Int → Prop
  | 0, _, b, x => (b : Int) = t ∧ 0 ≤ x
  | n + 1, g, b, x => ((b : Int) = t ∧ 0 ≤ x) ∨ (¬ (b : Int) = t ∧ (pR I c t n (g + 1) (I 11 b).toNat (x - tk I c b g) ∨ pR I c t n (g + 1) (rdS I t.toNat b).toNat (x - tk I c b g)))
theorem pR_mono {I : Fn} {c : Nat} {t : Int} : ∀ {n : Nat} {g : Int} {b : Nat} {x y : Int}, pR I c t n g b x → x ≤ y → pR I c t n g b y
  | 0, g, b, x, y, h, hxy => ⟨h.1, by have := h.2; omega⟩
  | n + 1, g, b, x, y, h, hxy => by
    rcases h with ⟨h1, h2⟩ | ⟨h1, h2 | h2⟩
    · exact .inl ⟨h1, by omega⟩
    · exact .inr ⟨h1, .inl (pR_mono h2 (by omega))⟩
    · exact .inr ⟨h1, .inr (pR_mono h2 (by omega))⟩
theorem pR_nn {I : Fn} {c : Nat} {t : Int} (hC : Cur I I) : ∀ {n : Nat} {g : Int} {b : Nat} {x : Int}, pR I c t n g b x → 0 ≤ x
  | 0, g, b, x, h => h.2
  | n + 1, g, b, x, h => by
    have := tk_rng hC c b g
    rcases h with ⟨h1, h2⟩ | ⟨h1, h2 | h2⟩
    · exact h2
    · have := pR_nn hC h2; omega
    · have := pR_nn hC h2; omega
theorem pR_rcb {I : Fn} {c : Nat} {t : Int} : ∀ {n : Nat} {g : Int} {b : Nat} {x : Int}, pR I c t n g b x → rcb I t.toNat n b = true
  | 0, g, b, x, h => by
    show Nat.beq b t.toNat = true
    rw [show t.toNat = b by have := h.1; omega]
    exact Nat.beq_refl b
  | n + 1, g, b, x, h => by
    rcases h with ⟨h1, h2⟩ | ⟨h1, h2 | h2⟩
    · exact rcb_le (Nat.zero_le _) (by
        show Nat.beq b t.toNat = true
        rw [show t.toNat = b by omega]
        exact Nat.beq_refl b)
    · exact rcb_or.mpr (.inr (.inl (pR_rcb h2)))
    · have := pR_rcb h2
      unfold rdS at this
      split at this
      · exact rcb_or.mpr (.inr (.inr this))
      · exact rcb_or.mpr (.inr (.inl this))
theorem rcb_dst {I : Fn} {t n b : Nat} (hB : Bts I) (ht : t < 8) (hb : b < 8) (h : rcb I t n b = true) : dst I t b < 99 := by
  have h2 : rcb I t (n + 7) b = true := rcb_le (by omega) h
  rw [rcb_7 hB ht (by omega) hb] at h2
  have := (dst_le (Nat.le_refl 7)).mpr h2
  omega
def NK : Int := 1073741824
/-- what a step gives, from the belts before b -/
def KB (I : Fn) (c : Nat) (t g best e M : Int) (w : Nat → Int) (b : Nat) (nk : Nat → Int) : Prop := ∀ j, j < 8 → (0 ≤ nk j ∧ (nk j = NK ∨ nk j ≤ M)) ∧ ∀ y, y < NK → (nk j ≤ y ↔ ∃ a : Nat, a < b ∧ ((w a < best ∧ dst I t.toNat a < 99) ∧ ((j = (I 11 a).toNat ∧ w a + 2 * tk I c a g ≤ y) ∨ (j = (rdS I t.toNat a).toNat ∧ w a + 2 * tk I c a g + e ≤ y))))
theorem KB_0 {I : Fn} {c : Nat} {t g best e M : Int} {w nk : Nat → Int} (h : ∀ j, j < 8 → nk j = NK) : KB I c t g best e M w 0 nk := by
  intro j hj
  have hj' := h j hj
  unfold NK at *
  refine ⟨by omega, fun y hy => ⟨fun q => by omega, fun ⟨a, ha, _⟩ => by omega⟩⟩
theorem KB_no {I : Fn} {c : Nat} {t g best e M : Int} {w nk : Nat → Int} {b : Nat} (h : KB I c t g best e M w b nk) (hn : ¬ (w b < best ∧ dst I t.toNat b < 99)) : KB I c t g best e M w (b + 1) nk := by
  intro j hj
  obtain ⟨h1, h2⟩ := h j hj
  refine ⟨h1, fun y hy => ?_⟩
  rw [h2 y hy]
  constructor
  · rintro ⟨a, ha, q⟩
    exact ⟨a, by omega, q⟩
  · rintro ⟨a, ha, q1, q2⟩
    refine ⟨a, ?_, q1, q2⟩
    by_cases z : a = b
    · subst z; exact absurd q1 hn
    · omega
def mn2 (f r : Nat) (k1 k2 : Int) (nk : Nat → Int) (j : Nat) : Int := if j = r then (if k2 < (if r = f then (if k1 < nk f then k1 else nk f) else nk r) then k2 else (if r = f then (if k1 < nk f then k1 else nk f) else nk r)) else if j = f then (if k1 < nk f then k1 else nk f) else nk j
theorem mn2_le {f r : Nat} {k1 k2 y : Int} {nk : Nat → Int} {j : Nat} : mn2 f r k1 k2 nk j ≤ y ↔ (nk j ≤ y ∨ ((j = f ∧ k1 ≤ y) ∨ (j = r ∧ k2 ≤ y))) := by
  unfold mn2
  by_cases z1 : j = r
  · subst z1
    rw [if_pos rfl]
    by_cases z2 : j = f
    · subst z2
      rw [if_pos rfl]
      split <;> split <;> omega
    · rw [if_neg z2]
      split <;> omega
  · rw [if_neg z1]
    by_cases z2 : j = f
    · subst z2
      rw [if_pos rfl]
      split <;> omega
    · rw [if_neg z2]
      omega
theorem mn2_mem {f r : Nat} {k1 k2 : Int} {nk : Nat → Int} {j : Nat} : mn2 f r k1 k2 nk j = nk j ∨ (mn2 f r k1 k2 nk j = k1 ∨ mn2 f r k1 k2 nk j = k2) := by
  unfold mn2
  by_cases z1 : j = r
  · subst z1
    rw [if_pos rfl]
    by_cases z2 : j = f
    · subst z2
      rw [if_pos rfl]
      split <;> split <;> omega
    · rw [if_neg z2]
      split <;> omega
  · rw [if_neg z1]
    by_cases z2 : j = f
    · subst z2
      rw [if_pos rfl]
      split <;> omega
    · rw [if_neg z2]
      omega
theorem KB_go {I : Fn} {c : Nat} {t g best e M : Int} {w nk nk' : Nat → Int} {b : Nat} (h : KB I c t g best e M w b nk) (hn : w b < best ∧ dst I t.toNat b < 99) (he : 0 ≤ e) (hw : 0 ≤ w b + 2 * tk I c b g ∧ w b + 2 * tk I c b g + e ≤ M) (hk : ∀ j, j < 8 → nk' j = mn2 (I 11 b).toNat (rdS I t.toNat b).toNat (w b + 2 * tk I c b g) (w b + 2 * tk I c b g + e) nk j) : KB I c t g best e M w (b + 1) nk' := by
  intro j hj
  obtain ⟨h1, h2⟩ := h j hj
  rw [hk j hj]
  have hm := mn2_mem (f := (I 11 b).toNat) (r := (rdS I t.toNat b).toNat) (k1 := w b + 2 * tk I c b g) (k2 := w b + 2 * tk I c b g + e) (nk := nk) (j := j)
  refine ⟨by omega, fun y hy => ?_⟩
  rw [mn2_le, h2 y hy]
  constructor
  · rintro (⟨a, ha, q⟩ | q)
    · exact ⟨a, by omega, q⟩
    · exact ⟨b, by omega, hn, q⟩
  · rintro ⟨a, ha, q1, q2⟩
    by_cases z : a = b
    · subst z; exact .inr q2
    · exact .inl ⟨a, by omega, q1, q2⟩
/-- a step, and the best so far -/
theorem KB_step {I : Fn} {c : Nat} {t g best best' e M : Int} {w w1 w2 : Nat → Int} {n : Nat} (hB : Bts I) (hC : Cur I I) (ht : 0 ≤ t ∧ t < 8) (he : 0 ≤ e) (hw : ∀ j, j < 8 → 0 ≤ w j) (hwt : w t.toNat = NK) (hbe : best ≤ NK) (h : KB I c t g best e M w 8 w1) (h2 : ∀ j, j < 8 → w2 j = if j = t.toNat then NK else w1 j) (hb' : (if w1 t.toNat < best then w1 t.toNat else best) = best') (x : Int) (hx : x < NK) : (best' ≤ x ∨ ∃ j : Nat, j < 8 ∧ pR I c t n (g + 1) j ((x - w2 j) / 2)) ↔ (best ≤ x ∨ ∃ b : Nat, b < 8 ∧ (¬ (b : Int) = t ∧ (pR I c t n (g + 1) (I 11 b).toNat ((x - (w b + 2 * tk I c b g)) / 2) ∨ pR I c t n (g + 1) (rdS I t.toNat b).toNat ((x - (w b + 2 * tk I c b g + e)) / 2)))) := by
  have pt : ∀ z, pR I c t n (g + 1) t.toNat z ↔ 0 ≤ z := by
    intro z
    cases n with
    | zero => exact ⟨fun q => q.2, fun q => ⟨by omega, q⟩⟩
    | succ n => exact ⟨fun q => pR_nn hC q, fun q => .inl ⟨by omega, q⟩⟩
  have first : (best' ≤ x ∨ ∃ j : Nat, j < 8 ∧ pR I c t n (g + 1) j ((x - w2 j) / 2)) ↔ (best ≤ x ∨ ∃ j : Nat, j < 8 ∧ pR I c t n (g + 1) j ((x - w1 j) / 2)) := by
    have hb2 : best' ≤ x ↔ (w1 t.toNat ≤ x ∨ best ≤ x) := by
      rw [← hb']
      split <;> omega
    rw [hb2]
    constructor
    · rintro ((q | q) | ⟨j, hj, q⟩)
      · exact .inr ⟨t.toNat, by omega, (pt _).mpr (by omega)⟩
      · exact .inl q
      · rw [h2 j hj] at q
        by_cases z : j = t.toNat
        · rw [if_pos z] at q
          have := pR_nn hC q
          unfold NK at *
          omega
        · rw [if_neg z] at q
          exact .inr ⟨j, hj, q⟩
    · rintro (q | ⟨j, hj, q⟩)
      · exact .inl (.inr q)
      · by_cases z : j = t.toNat
        · subst z
          have := (pt _).mp q
          exact .inl (.inl (by omega))
        · exact .inr ⟨j, hj, by rw [h2 j hj, if_neg z]; exact q⟩
  rw [first]
  constructor
  · rintro (q | ⟨j, hj, q⟩)
    · exact .inl q
    · have q0 := pR_nn hC q
      obtain ⟨h1, h3⟩ := h j hj
      obtain ⟨a, ha, ⟨a1, a2⟩, a3⟩ := (h3 (w1 j) (by omega)).mp (Int.le_refl _)
      have hat : ¬ (a : Int) = t := by
        intro z
        have : t.toNat = a := by omega
        rw [this] at hwt
        omega
      refine .inr ⟨a, ha, hat, ?_⟩
      rcases a3 with ⟨e1, e2⟩ | ⟨e1, e2⟩
      · subst e1
        exact .inl (pR_mono q (by omega))
      · subst e1
        exact .inr (pR_mono q (by omega))
  · rintro (q | ⟨b, hb, hbt, q⟩)
    · exact .inl q
    · have hq := hB b hb
      have hr := rdS_rng (t := t.toNat) hB hb
      have tr := tk_rng hC c b g
      have hwb := hw b hb
      have hd : dst I t.toNat b < 99 := by
        rcases q with q | q
        · exact rcb_dst (n := n + 1) hB (by omega) hb (rcb_or.mpr (.inr (.inl (pR_rcb q))))
        · have := pR_rcb q
          unfold rdS at this
          split at this
          · exact rcb_dst (n := n + 1) hB (by omega) hb (rcb_or.mpr (.inr (.inr this)))
          · exact rcb_dst (n := n + 1) hB (by omega) hb (rcb_or.mpr (.inr (.inl this)))
      by_cases ha : w b < best
      · right
        rcases q with q | q
        · have q0 := pR_nn hC q
          obtain ⟨h1, h3⟩ := h (I 11 b).toNat (by omega)
          have := (h3 (w b + 2 * tk I c b g) (by omega)).mpr ⟨b, hb, ⟨ha, hd⟩, .inl ⟨rfl, Int.le_refl _⟩⟩
          exact ⟨_, by omega, pR_mono q (by omega)⟩
        · have q0 := pR_nn hC q
          obtain ⟨h1, h3⟩ := h (rdS I t.toNat b).toNat (by omega)
          have := (h3 (w b + 2 * tk I c b g + e) (by omega)).mpr ⟨b, hb, ⟨ha, hd⟩, .inr ⟨rfl, Int.le_refl _⟩⟩
          exact ⟨_, by omega, pR_mono q (by omega)⟩
      · left
        rcases q with q | q
        · have q0 := pR_nn hC q; omega
        · have q0 := pR_nn hC q; omega
/-- what the first step leaves -/
def Wp (I : Fn) (c : Nat) (t g : Int) (b : Nat) (x : Int) : Prop := pR I c t 39 (g + 1) (I 11 b).toNat (x / 2 - tk I c b g) ∨ pR I c t 39 (g + 1) (rdS I t.toNat b).toNat ((x - 1) / 2 - tk I c b g)
def SI (I : Fn) (c : Nat) (t g : Int) (b0 : Nat) (k : Nat) (w : Nat → Int) (best : Int) : Prop := (∀ j, j < 8 → 0 ≤ w j ∧ (w j = NK ∨ w j ≤ 2000 * k)) ∧ (w t.toNat = NK ∧ ((0 ≤ best ∧ (best = NK ∨ best ≤ 2000 * k)) ∧ ∀ x, x < NK → ((best ≤ x ∨ ∃ b : Nat, b < 8 ∧ pR I c t (40 - k) (g + k) b ((x - w b) / 2)) ↔ Wp I c t g b0 x)))
theorem SI_rng {I : Fn} {c : Nat} {t best best' : Int} {k : Nat} {w w1 w2 : Nat → Int} {e g' : Int} (hk : k < 40) (ht : 0 ≤ t ∧ t < 8) (hbe : 0 ≤ best ∧ (best = NK ∨ best ≤ 2000 * k)) (h : KB I c t g' best e (2000 * (k + 1 : Nat)) w 8 w1) (h2 : ∀ j, j < 8 → w2 j = if j = t.toNat then NK else w1 j) (hb' : (if w1 t.toNat < best then w1 t.toNat else best) = best') : (∀ j, j < 8 → 0 ≤ w2 j ∧ (w2 j = NK ∨ w2 j ≤ 2000 * (k + 1 : Nat))) ∧ (w2 t.toNat = NK ∧ (0 ≤ best' ∧ (best' = NK ∨ best' ≤ 2000 * (k + 1 : Nat)))) := by
  refine ⟨fun j hj => ?_, ?_, ?_⟩
  · have := (h j hj).1
    rw [h2 j hj]
    unfold NK at *
    split <;> omega
  · rw [h2 _ (by omega), if_pos rfl]
  · have := (h t.toNat (by omega)).1
    rw [← hb']
    split <;> omega
theorem SI_first {I : Fn} {c : Nat} {t g best' : Int} {b0 : Nat} {w w1 w2 : Nat → Int} (hB : Bts I) (hC : Cur I I) (ht : 0 ≤ t ∧ t < 8) (hb0 : b0 < 8) (hne : ¬ (b0 : Int) = t) (hw : ∀ j, j < 8 → w j = if j = b0 then 0 else NK) (h : KB I c t g NK 1 (2000 * (0 + 1 : Nat)) w 8 w1) (h2 : ∀ j, j < 8 → w2 j = if j = t.toNat then NK else w1 j) (hb' : (if w1 t.toNat < NK then w1 t.toNat else NK) = best') : SI I c t g b0 1 w2 best' := by
  have hw0 : ∀ j, j < 8 → 0 ≤ w j := by
    intro j hj
    rw [hw j hj]
    unfold NK
    split <;> omega
  have hwt : w t.toNat = NK := by
    rw [hw _ (by omega), if_neg (by omega)]
  obtain ⟨r1, r2, r3⟩ := SI_rng (k := 0) (c := c) (by omega) ht ⟨by unfold NK; omega, .inl rfl⟩ h h2 hb'
  refine ⟨r1, r2, r3, fun x hx => ?_⟩
  rw [show g + ((1 : Nat) : Int) = g + 1 by omega]
  rw [KB_step (n := 40 - 1) hB hC ht (by omega) hw0 hwt (Int.le_refl _) h h2 hb' x hx]
  constructor
  · rintro (q | ⟨b, hb, hbt, q⟩)
    · omega
    · have tr := tk_rng hC c b g
      by_cases z : b = b0
      · subst z
        rw [hw b hb, if_pos rfl] at q
        rcases q with q | q
        · exact .inl (pR_mono q (by omega))
        · exact .inr (pR_mono q (by omega))
      · rw [hw b hb, if_neg z] at q
        unfold NK at *
        rcases q with q | q
        · have := pR_nn hC q; omega
        · have := pR_nn hC q; omega
  · intro q
    refine .inr ⟨b0, hb0, hne, ?_⟩
    rw [hw b0 hb0, if_pos rfl]
    rcases q with q | q
    · exact .inl (pR_mono q (by omega))
    · exact .inr (pR_mono q (by omega))
theorem SI_next {I : Fn} {c : Nat} {t g best best' : Int} {b0 k : Nat} {w w1 w2 : Nat → Int} (hB : Bts I) (hC : Cur I I) (ht : 0 ≤ t ∧ t < 8) (hk : k < 40) (hS : SI I c t g b0 k w best) (h : KB I c t (g + k) best 0 (2000 * (k + 1 : Nat)) w 8 w1) (h2 : ∀ j, j < 8 → w2 j = if j = t.toNat then NK else w1 j) (hb' : (if w1 t.toNat < best then w1 t.toNat else best) = best') : SI I c t g b0 (k + 1) w2 best' := by
  obtain ⟨s1, s2, s3, s4⟩ := hS
  obtain ⟨r1, r2, r3⟩ := SI_rng (c := c) hk ht s3 h h2 hb'
  refine ⟨r1, r2, r3, fun x hx => ?_⟩
  rw [← s4 x hx]
  rw [show g + ((k + 1 : Nat) : Int) = g + k + 1 by omega]
  rw [KB_step (n := 40 - (k + 1)) hB hC ht (Int.le_refl 0) (fun j hj => (s1 j hj).1) s2 (by unfold NK at *; omega) h h2 hb' x hx]
  rw [show 40 - k = 40 - (k + 1) + 1 by omega]
  constructor
  · rintro (q | ⟨b, hb, hbt, q⟩)
    · exact .inl q
    · refine .inr ⟨b, hb, .inr ⟨hbt, ?_⟩⟩
      rcases q with q | q
      · exact .inl (pR_mono q (by omega))
      · exact .inr (pR_mono q (by omega))
  · rintro (q | ⟨b, hb, q⟩)
    · exact .inl q
    · rcases q with ⟨q1, q2⟩ | ⟨q1, q2⟩
      · have : t.toNat = b := by omega
        rw [this] at s2
        unfold NK at *
        omega
      · refine .inr ⟨b, hb, q1, ?_⟩
        rcases q2 with q | q
        · exact .inl (pR_mono q (by omega))
        · exact .inr (pR_mono q (by omega))
theorem SI_end {I : Fn} {c : Nat} {t g best : Int} {b0 : Nat} {w : Nat → Int} (ht : 0 ≤ t ∧ t < 8) (hS : SI I c t g b0 40 w best) : (0 ≤ best ∧ (best = NK ∨ best ≤ 80000)) ∧ ∀ x, x < NK → (best ≤ x ↔ Wp I c t g b0 x) := by
  obtain ⟨s1, s2, s3, s4⟩ := hS
  refine ⟨by omega, fun x hx => ?_⟩
  rw [← s4 x hx]
  constructor
  · exact fun q => .inl q
  · rintro (q | ⟨b, hb, q1, q2⟩)
    · exact q
    · have : t.toNat = b := by omega
      rw [this] at s2
      unfold NK at *
      omega
