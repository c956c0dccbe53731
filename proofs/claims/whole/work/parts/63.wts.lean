/-! shares: the mathematics -/
def sm (f : Nat → Int) : Int := f 0 + f 1 + f 2 + f 3 + f 4 + f 5 + f 6 + f 7
def smx (f : Nat → Int) : Nat → Int
  | 0 => 0
  | x + 1 => smx f x + f x
theorem smx_8 (f : Nat → Int) : smx f 8 = sm f := by
  show 0 + f 0 + f 1 + f 2 + f 3 + f 4 + f 5 + f 6 + f 7 = f 0 + f 1 + f 2 + f 3 + f 4 + f 5 + f 6 + f 7
  omega
theorem smx_le {f : Nat → Int} (h : ∀ j, j < 8 → 0 ≤ f j) : ∀ r x, x + r = 8 → smx f x ≤ sm f ∧ 0 ≤ smx f x
  | 0, x, hx => by
    have : x = 8 := by omega
    subst this
    rw [smx_8]
    have h0 := h 0; have h1 := h 1; have h2 := h 2; have h3 := h 3; have h4 := h 4; have h5 := h 5; have h6 := h 6; have h7 := h 7
    unfold sm
    omega
  | r + 1, x, hx => by
    have ih := smx_le h r (x + 1) (by omega)
    have hx := h x (by omega)
    have e : smx f (x + 1) = smx f x + f x := rfl
    refine ⟨by omega, ?_⟩
    cases x with
    | zero => exact Int.le_refl _
    | succ x =>
      clear ih e hx
      have : ∀ y, y ≤ 8 → 0 ≤ smx f y := by
        intro y
        induction y with
        | zero => intro _; exact Int.le_refl _
        | succ y ih =>
          intro hy
          have := ih (by omega)
          have := h y (by omega)
          show 0 ≤ smx f y + f y
          omega
      exact this _ (by omega)
theorem sm_le {f : Nat → Int} (h : ∀ j, j < 8 → 0 ≤ f j) {j : Nat} (hj : j < 8) : f j ≤ sm f := by
  have h0 := h 0; have h1 := h 1; have h2 := h 2; have h3 := h 3; have h4 := h 4; have h5 := h 5; have h6 := h 6; have h7 := h 7
  unfold sm
  rcases (by omega : j = 0 ∨ j = 1 ∨ j = 2 ∨ j = 3 ∨ j = 4 ∨ j = 5 ∨ j = 6 ∨ j = 7) with z | z | z | z | z | z | z | z <;> subst z <;> omega
theorem sm_one {r : Nat} {a : Int} (hr : r < 8) : sm (fun j => if j = r then a else 0) = a := by
  unfold sm
  rcases (by omega : r = 0 ∨ r = 1 ∨ r = 2 ∨ r = 3 ∨ r = 4 ∨ r = 5 ∨ r = 6 ∨ r = 7) with z | z | z | z | z | z | z | z <;> subst z <;> simp
theorem sm_add (f g : Nat → Int) : sm (fun j => f j + g j) = sm f + sm g := by
  unfold sm
  dsimp only
  omega
/-- what one belt x gives to belt j -/
def ctb (I : Fn) (c : Nat) (t g : Int) (w : Nat → Int) (x j : Nat) : Int := if (x : Int) = t then (if j = x then w x * 10 else 0) else ((if j = (rdS I t.toNat x).toNat then w x * sn I c x g else 0) + (if j = (I 11 x).toNat then w x * (10 - sn I c x g) else 0))
def spr (I : Fn) (c : Nat) (t g : Int) (w : Nat → Int) : Nat → Nat → Int
  | 0, _ => 0
  | x + 1, j => spr I c t g w x j + ctb I c t g w x j
theorem rdS_rng {I : Fn} {t b : Nat} (hB : Bts I) (hb : b < 8) : 0 ≤ rdS I t b ∧ rdS I t b < 8 := by
  have := hB b hb
  unfold rdS
  split <;> omega
theorem part_nn {w s : Int} (hw : 0 ≤ w) (hs : 0 ≤ s ∧ s ≤ 10) : 0 ≤ w * s ∧ (0 ≤ w * (10 - s) ∧ w * s + w * (10 - s) = 10 * w) := by
  refine ⟨Int.mul_nonneg hw hs.1, Int.mul_nonneg hw (by omega), ?_⟩
  rw [← Int.mul_add, show s + (10 - s) = 10 by omega]
  omega
theorem ctb_sm {I : Fn} {c : Nat} {t g : Int} {w : Nat → Int} {x : Nat} (hB : Bts I) (hx : x < 8) (hw : 0 ≤ w x) : sm (ctb I c t g w x) = 10 * w x ∧ ∀ j, 0 ≤ ctb I c t g w x j := by
  have hr := rdS_rng (t := t.toNat) hB hx
  have hf := (hB x hx).1
  have hp := part_nn (w := w x) (s := sn I c x g) hw (sn_rng I c x g)
  by_cases e : (x : Int) = t
  · have q : ∀ j, ctb I c t g w x j = if j = x then w x * 10 else 0 := fun j => if_pos e
    refine ⟨?_, fun j => ?_⟩
    · rw [show ctb I c t g w x = fun j => if j = x then w x * 10 else 0 from funext q, sm_one hx]
      omega
    · rw [q]
      split <;> omega
  · have q : ∀ j, ctb I c t g w x j = ((if j = (rdS I t.toNat x).toNat then w x * sn I c x g else 0) + (if j = (I 11 x).toNat then w x * (10 - sn I c x g) else 0)) := fun j => if_neg e
    refine ⟨?_, fun j => ?_⟩
    · rw [show ctb I c t g w x = fun j => ((if j = (rdS I t.toNat x).toNat then w x * sn I c x g else 0) + (if j = (I 11 x).toNat then w x * (10 - sn I c x g) else 0)) from funext q, sm_add, sm_one (by omega), sm_one (by omega)]
      exact hp.2.2
    · rw [q]
      repeat' split
      all_goals omega
theorem spr_sm {I : Fn} {c : Nat} {t g : Int} {w : Nat → Int} (hB : Bts I) (hw : ∀ j, j < 8 → 0 ≤ w j) : ∀ x, x ≤ 8 → sm (spr I c t g w x) = 10 * smx w x ∧ ∀ j, 0 ≤ spr I c t g w x j
  | 0, _ => ⟨rfl, fun _ => Int.le_refl _⟩
  | x + 1, hx => by
    obtain ⟨h1, h2⟩ := spr_sm (c := c) (t := t) (g := g) hB hw x (by omega)
    obtain ⟨g1, g2⟩ := ctb_sm (c := c) (t := t) (g := g) (w := w) hB (x := x) (by omega) (hw x (by omega))
    refine ⟨?_, fun j => ?_⟩
    · show sm (fun j => spr I c t g w x j + ctb I c t g w x j) = 10 * (smx w x + w x)
      rw [sm_add, h1]
      rw [show sm (fun j => ctb I c t g w x j) = sm (ctb I c t g w x) from rfl, g1]
      omega
    · show 0 ≤ spr I c t g w x j + ctb I c t g w x j
      have := h2 j
      have := g2 j
      omega
theorem spr_le {I : Fn} {c : Nat} {t g : Int} {w : Nat → Int} (hB : Bts I) (hw : ∀ j, j < 8 → 0 ≤ w j) {x j : Nat} (hx : x < 8) (hj : j < 8) : 0 ≤ spr I c t g w x j ∧ spr I c t g w x j + 10 * w x ≤ 10 * sm w := by
  obtain ⟨h1, h2⟩ := spr_sm (c := c) (t := t) (g := g) hB hw x (by omega)
  have h3 := sm_le (f := spr I c t g w x) (fun j _ => h2 j) hj
  have h4 := (smx_le hw (8 - (x + 1)) (x + 1) (by omega)).1
  have e : smx w (x + 1) = smx w x + w x := rfl
  exact ⟨h2 j, by omega⟩
def pw : Nat → Int
  | 0 => 1
  | k + 1 => pw k * 10
theorem pw_rng : ∀ k, k < 7 → 1 ≤ pw k ∧ pw k ≤ 1000000 := by decide
theorem pw_rng5 : ∀ k, k < 6 → pw k ≤ 100000 := by decide
/-- on how many of all ways a case is on belt j after k steps -/
def wts (I : Fn) (c : Nat) : Nat → Nat → Int
  | 0, j => if (j : Int) = I (17 + c) 3 then 1 else 0
  | k + 1, j => spr I c (I (17 + c) 4) (I (17 + c) 7 + k) (wts I c k) 8 j
theorem wts_sm {I : Fn} {c : Nat} (hB : Bts I) (hb : BagC I c) : ∀ k, sm (wts I c k) = pw k ∧ ∀ j, 0 ≤ wts I c k j
  | 0 => by
    obtain ⟨b0, b1, b2, b3, b4, b5⟩ := hb
    unfold rng at b3
    have e : wts I c 0 = fun j => if j = (I (17 + c) 3).toNat then 1 else 0 := by
      funext j
      show (if (j : Int) = I (17 + c) 3 then 1 else 0) = _
      by_cases q : (j : Int) = I (17 + c) 3
      · rw [if_pos q, if_pos (by omega)]
      · rw [if_neg q, if_neg (by omega)]
    rw [e]
    refine ⟨sm_one (by omega), fun j => ?_⟩
    dsimp only
    split <;> omega
  | k + 1 => by
    obtain ⟨h1, h2⟩ := wts_sm hB hb k
    obtain ⟨g1, g2⟩ := spr_sm (c := c) (t := I (17 + c) 4) (g := I (17 + c) 7 + k) (w := wts I c k) hB (fun j _ => h2 j) 8 (by omega)
    refine ⟨?_, g2⟩
    show sm (spr I c (I (17 + c) 4) (I (17 + c) 7 + k) (wts I c k) 8) = pw k * 10
    rw [g1, smx_8, h1]
    omega
/-! the greatest common divisor -/
theorem tmodN (a b : Nat) : Int.tmod (a : Int) (b : Int) = ((a % b : Nat) : Int) := rfl
def lwv (a b p : Int) : Int := if p = 0 then a / (Nat.gcd a.toNat b.toNat : Nat) else b / (Nat.gcd a.toNat b.toNat : Nat)
theorem c_lw0 {F : Cal} {I L : Fn} {a b p : Int} {x i : Nat} (ha : 0 ≤ a ∧ a < 2147483648) (hb : 0 ≤ b ∧ b < 2147483648) (hi : i < 100) (hx : 1 ≤ x) (hg : x = Nat.gcd a.toNat b.toNat) : y70_8 F a b p x ((0 : Nat) : Int) i I L = some (some (vl (lwv a b p)), S I L) := by
  unfold lwv
  rw [← hg]
  by_cases e : p = 0
  · rw [if_pos e]
    exact (y70_8_5 (by omega) (by omega) (by omega) (by omega) (dvp ha (by omega)))
  · rw [if_neg e]
    exact (y70_8_4 (by omega) (by omega) (by omega) (by omega) (dvp hb (by omega)))
theorem c_lw {F : Cal} {I L : Fn} {a b p : Int} (ha : 0 ≤ a ∧ a < 2147483648) (hb : 0 ≤ b ∧ b < 2147483648) : ∀ (k x y i : Nat), y < 2 ^ k → 1 ≤ x → x < 2147483648 → i + 2 * k + 1 < 100 → Nat.gcd x y = Nat.gcd a.toNat b.toNat → y70_8 F a b p x y i I L = some (some (vl (lwv a b p)), S I L)
  | 0, x, y, i, hy, hx, hx2, hi, hg => by
    have : y = 0 := by
      rw [Nat.pow_zero] at hy
      omega
    subst this
    rw [Nat.gcd_zero_right] at hg
    exact c_lw0 ha hb (by omega) hx hg
  | k + 1, x, y, i, hy, hx, hx2, hi, hg => by
    rw [Nat.pow_succ] at hy
    by_cases y0 : y = 0
    · subst y0
      rw [Nat.gcd_zero_right] at hg
      exact c_lw0 ha hb (by omega) hx hg
    have m1 : x % y < y := Nat.mod_lt _ (by omega)
    have mle : x % y ≤ x := Nat.mod_le _ _
    have g1 : Nat.gcd y (x % y) = Nat.gcd a.toNat b.toNat := by
      rw [Nat.gcd_comm y, ← Nat.gcd_rec, Nat.gcd_comm]; exact hg
    refine Eq.trans (y70_8_7 (by omega) (by omega) (tmodN x y) (w32_id (by omega) (by omega))) ?_
    by_cases z0 : x % y = 0
    · rw [z0] at g1 ⊢
      rw [Nat.gcd_zero_right] at g1
      rw [show (i : Int) + 1 = ((i + 1 : Nat) : Int) by omega]
      exact c_lw0 ha hb (by omega) (by omega) g1
    have m2 : y % (x % y) < x % y := Nat.mod_lt _ (by omega)
    have m3 : y % (x % y) + x % y ≤ y := by
      have h1 := Nat.div_add_mod y (x % y)
      have h2 : 1 ≤ y / (x % y) := Nat.div_pos (by omega) (by omega)
      have h3 : (x % y) * 1 ≤ (x % y) * (y / (x % y)) := Nat.mul_le_mul_left _ h2
      omega
    have g2 : Nat.gcd (x % y) (y % (x % y)) = Nat.gcd a.toNat b.toNat := by
      rw [Nat.gcd_comm (x % y), ← Nat.gcd_rec, Nat.gcd_comm]; exact g1
    have ih := c_lw (F := F) (I := I) (L := L) (p := p) ha hb k (x % y) (y % (x % y)) (i + 2) (by omega) (by omega) (by omega) (by omega) g2
    rw [show ((i + 2 : Nat) : Int) = (i : Int) + 1 + 1 by omega] at ih
    refine Eq.trans (y70_8_7 (by omega) (by omega) (tmodN y (x % y)) (w32_id (by omega) (by omega))) ?_
    exact ih
theorem c_lowest {d : Nat} {I L : Fn} {a b p : Int} (ha : 0 ≤ a ∧ a < 1048576) (hb : 1 ≤ b ∧ b < 1048576) : CallD (d + 1) 70 [vi a, vi b, vi p] (S I L) = some (some (vl (lwv a b p)), S I L) := by
  have := c_lw (F := CallD d) (I := I) (L := L) (a := a) (b := b) (p := p) (by omega) (by omega) 20 b.toNat a.toNat 0 (by
    have : (2 : Nat) ^ 20 = 1048576 := by decide
    omega) (by omega) (by omega) (by omega) (Nat.gcd_comm _ _)
  rw [Int.toNat_of_nonneg (by omega), Int.toNat_of_nonneg (by omega)] at this
  refine Eq.trans (e70_1) ?_
  exact this
theorem m_div {F : Cal} {I L : Fn} {g : Nat} : ∀ (n x y : Nat), y ≤ n → Nat.gcd x y = g → y183_6 F x y I L = some (some (vl g), S I L)
  | 0, x, y, hy, hg => by
    have : y = 0 := by omega
    subst this
    rw [Nat.gcd_zero_right] at hg
    subst hg
    exact (y183_6_1 (by omega))
  | n + 1, x, y, hy, hg => by
    by_cases y0 : y = 0
    · subst y0
      rw [Nat.gcd_zero_right] at hg
      subst hg
      exact (y183_6_1 (by omega))
    have m1 : x % y < y := Nat.mod_lt _ (by omega)
    have g1 : Nat.gcd y (x % y) = g := by
      rw [Nat.gcd_comm y, ← Nat.gcd_rec, Nat.gcd_comm]; exact hg
    have ih := m_div (F := F) (I := I) (L := L) n y (x % y) (by omega) g1
    refine Eq.trans (y183_6_2 (by omega) (tmodN x y)) ?_
    exact ih
theorem dvp64 {a b : Int} (h : 0 ≤ a ∧ a < 9223372036854775808) (hb : 0 < b) : div64 a b = a / b := by
  unfold div64
  rw [Int.tdiv_eq_ediv_of_nonneg h.1]
  have h1 := Int.ediv_nonneg h.1 (Int.le_of_lt hb)
  have h2 := Int.ediv_le_self b h.1
  exact w64_id (by omega) (by omega)
theorem m_lowest_ok {d : Nat} {I L : Fn} {a b p : Int} (ha : 0 ≤ a ∧ a < 1048576) (hb : 1 ≤ b ∧ b < 1048576) : CallD (d + 2) 182 [vr 92, vl a, vl b, vi p] (S I L) = some (some (vl (lwv a b p)), S I L) := by
  have h1 := m_div (F := CallD d) (I := I) (L := L) (g := Nat.gcd a.toNat b.toNat) b.toNat a.toNat b.toNat (Nat.le_refl _) rfl
  rw [Int.toNat_of_nonneg (by omega), Int.toNat_of_nonneg (by omega)] at h1
  have h2 := Eq.trans (show CallD (d + 1) 183 [vr 92, vl a, vl b] (S I L) = _ from (e183_1)) h1
  have hg : 0 < Nat.gcd a.toNat b.toNat := Nat.gcd_pos_of_pos_right _ (by omega)
  unfold lwv
  by_cases e : p = 0
  · rw [if_pos e]
    exact (e182_2 h2 (by omega) (by omega) (dvp64 (by omega) (by omega)))
  · rw [if_neg e]
    exact (e182_1 h2 (by omega) (by omega) (dvp64 (by omega) (by omega)))
