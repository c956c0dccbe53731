/-! sets of belts as bits -/
theorem i32_bv {n : Nat} : (Int32.ofInt (n : Int)).toBitVec = BitVec.ofNat 32 n := by
  rw [Int32.toBitVec_ofInt]
  exact BitVec.ofInt_natCast 32 n
theorem bv_int32 {n : Nat} (h : n < 2147483648) : (BitVec.ofNat 32 n).toInt = n := by
  rw [BitVec.toInt_eq_toNat_of_lt]
  · rw [BitVec.toNat_ofNat]
    rw [Nat.mod_eq_of_lt (by omega)]
  · rw [BitVec.toNat_ofNat, Nat.mod_eq_of_lt (by omega)]
    omega
theorem or32_nat {a b : Nat} (ha : a < 2147483648) (hb : b < 2147483648) : or32 a b = ((a ||| b : Nat) : Int) := by
  unfold or32
  show ((Int32.ofInt (a : Int) ||| Int32.ofInt (b : Int)).toBitVec).toInt = _
  rw [Int32.toBitVec_or, i32_bv, i32_bv, ← BitVec.ofNat_or]
  exact bv_int32 (Nat.or_lt_two_pow (n := 31) ha hb)
theorem shl1_all : ∀ b : Nat, b < 8 → shl32 1 b = ((2 ^ b : Nat) : Int) := by decide +kernel
theorem has_all : ∀ x : Nat, x < 256 → ∀ b : Nat, b < 8 → and32 (shr32 x b) 1 = bI (x.testBit b) := by decide +kernel
theorem clr_all : ∀ x : Nat, x < 256 → ∀ b : Nat, b < 8 → and32 x (xor32 (shl32 1 b) (-1)) = ((x &&& (255 ^^^ 2 ^ b) : Nat) : Int) := by decide +kernel
theorem p2_lt {b : Nat} (h : b < 8) : 2 ^ b < 256 := Nat.pow_lt_pow_right (a := 2) (by decide) (m := b) (n := 8) h
theorem t255 : ∀ j : Nat, j < 8 → (255 : Nat).testBit j = true := by decide
theorem or_lt {x y : Nat} (hx : x < 256) (hy : y < 256) : x ||| y < 256 := Nat.or_lt_two_pow (n := 8) hx hy
theorem set_add {x a b j : Nat} : (x ||| (2 ^ a ||| 2 ^ b)).testBit j = true ↔ (x.testBit j = true ∨ (j = a ∨ j = b)) := by
  rw [Nat.testBit_or, Nat.testBit_or, Nat.testBit_two_pow, Nat.testBit_two_pow, Bool.or_eq_true, Bool.or_eq_true, decide_eq_true_eq, decide_eq_true_eq]
  constructor
  · rintro (h | h | h)
    · exact .inl h
    · exact .inr (.inl h.symm)
    · exact .inr (.inr h.symm)
  · rintro (h | h | h)
    · exact .inl h
    · exact .inr (.inl h.symm)
    · exact .inr (.inr h.symm)
theorem set_ext {x y : Nat} (hx : x < 256) (hy : y < 256) (h : ∀ j, j < 8 → (x.testBit j = true ↔ y.testBit j = true)) : x = y := by
  apply Nat.eq_of_testBit_eq
  intro j
  by_cases hj : j < 8
  · have := h j hj
    cases h1 : x.testBit j <;> cases h2 : y.testBit j <;> rw [h1, h2] at this <;> simp at this <;> rfl
  · have : 2 ^ 8 ≤ 2 ^ j := Nat.pow_le_pow_right (by decide) (by omega)
    rw [Nat.testBit_lt_two_pow (by omega), Nat.testBit_lt_two_pow (by omega)]
/-! which belts may be come to -/
theorem dst_le {I : Fn} {t b n : Nat} (hn : n ≤ 7) : dst I t b ≤ n ↔ rcb I t n b = true := by
  unfold dst
  repeat' split
  · next h0 => exact ⟨fun q => rcb_le (by omega) h0, fun q => by omega⟩
  · next n0 h1 => exact ⟨fun q => rcb_le (by omega) h1, fun q => by
      by_cases z : 1 ≤ n
      · omega
      · exact absurd (rcb_le (by omega) q) n0⟩
  · next n0 n1 h2 => exact ⟨fun q => rcb_le (by omega) h2, fun q => by
      by_cases z : 2 ≤ n
      · omega
      · exact absurd (rcb_le (by omega) q) n1⟩
  · next n0 n1 n2 h3 => exact ⟨fun q => rcb_le (by omega) h3, fun q => by
      by_cases z : 3 ≤ n
      · omega
      · exact absurd (rcb_le (by omega) q) n2⟩
  · next n0 n1 n2 n3 h4 => exact ⟨fun q => rcb_le (by omega) h4, fun q => by
      by_cases z : 4 ≤ n
      · omega
      · exact absurd (rcb_le (by omega) q) n3⟩
  · next n0 n1 n2 n3 n4 h5 => exact ⟨fun q => rcb_le (by omega) h5, fun q => by
      by_cases z : 5 ≤ n
      · omega
      · exact absurd (rcb_le (by omega) q) n4⟩
  · next n0 n1 n2 n3 n4 n5 h6 => exact ⟨fun q => rcb_le (by omega) h6, fun q => by
      by_cases z : 6 ≤ n
      · omega
      · exact absurd (rcb_le (by omega) q) n5⟩
  · next n0 n1 n2 n3 n4 n5 n6 h7 => exact ⟨fun q => rcb_le (by omega) h7, fun q => by
      by_cases z : 7 ≤ n
      · omega
      · exact absurd (rcb_le (by omega) q) n6⟩
  · next n0 n1 n2 n3 n4 n5 n6 n7 => exact ⟨fun q => by omega, fun q => absurd (rcb_le (by omega) q) n7⟩
/-- steps of a case: as belts that lead on -/
def mst (I : Fn) (t : Int) : Fn := fun k b => if (b : Int) = t then b else if k = 11 then I 11 b else rdS I t.toNat b
theorem mst_B {I : Fn} {t : Int} (hB : Bts I) : Bts (mst I t) := by
  intro b hb
  have h1 := hB b hb
  have h2 := rdS_rng (t := t.toNat) hB hb
  unfold mst
  split
  · omega
  · exact ⟨h1.1, h2⟩
/-- the last step of a way -/
theorem rcb_last {M : Fn} (hB : Bts M) {q : Nat} : ∀ (n s : Nat), s < 8 → (rcb M q (n + 1) s = true ↔ (rcb M q n s = true ∨ ∃ b, b < 8 ∧ (rcb M b n s = true ∧ ((M 11 b).toNat = q ∨ (M 12 b).toNat = q))))
  | 0, s, hs => by
    rw [rcb_or]
    constructor
    · rintro (h | h | h)
      · exact .inl h
      · exact .inr ⟨s, hs, Nat.beq_refl s, .inl (Nat.eq_of_beq_eq_true h)⟩
      · exact .inr ⟨s, hs, Nat.beq_refl s, .inr (Nat.eq_of_beq_eq_true h)⟩
    · rintro (h | ⟨b, hb, h1, h2⟩)
      · exact .inl h
      · have e : s = b := Nat.eq_of_beq_eq_true h1
        subst e
        rcases h2 with h2 | h2
        · exact .inr (.inl (by show Nat.beq _ _ = true; rw [h2]; exact Nat.beq_refl q))
        · exact .inr (.inr (by show Nat.beq _ _ = true; rw [h2]; exact Nat.beq_refl q))
  | n + 1, s, hs => by
    have hs' := hB s hs
    rw [rcb_or (n := n + 1)]
    constructor
    · rintro (h | h | h)
      · exact .inl h
      · rcases (rcb_last hB n _ (by omega)).mp h with g | ⟨b, hb, g1, g2⟩
        · exact .inl (rcb_or.mpr (.inr (.inl g)))
        · exact .inr ⟨b, hb, rcb_or.mpr (.inr (.inl g1)), g2⟩
      · rcases (rcb_last hB n _ (by omega)).mp h with g | ⟨b, hb, g1, g2⟩
        · exact .inl (rcb_or.mpr (.inr (.inr g)))
        · exact .inr ⟨b, hb, rcb_or.mpr (.inr (.inr g1)), g2⟩
    · rintro (h | ⟨b, hb, h1, h2⟩)
      · exact .inl h
      · rcases rcb_or.mp h1 with g | g | g
        · exact .inl ((rcb_last hB n s hs).mpr (.inr ⟨b, hb, g, h2⟩))
        · exact .inr (.inl ((rcb_last hB n _ (by omega)).mpr (.inr ⟨b, hb, g, h2⟩)))
        · exact .inr (.inr ((rcb_last hB n _ (by omega)).mpr (.inr ⟨b, hb, g, h2⟩)))
/-- a pass over the belts -/
def PI (M : Fn) (s x p b : Nat) : Prop := x < 256 ∧ ((∀ q, q < 8 → x.testBit q = true → rcb M q 7 s = true) ∧ ((∀ q, q < 8 → rcb M q p s = true → x.testBit q = true) ∧ ∀ y, y < b → rcb M y p s = true → x.testBit (M 11 y).toNat = true ∧ x.testBit (M 12 y).toNat = true))
theorem PI_no {M : Fn} {s x p b : Nat} (h : PI M s x p b) (hb : b < 8) (hx : x.testBit b = false) : PI M s x p (b + 1) := by
  obtain ⟨h0, h1, h2, h3⟩ := h
  refine ⟨h0, h1, h2, fun y hy hr => ?_⟩
  by_cases e : y = b
  · subst e
    have := h2 y hb hr
    rw [hx] at this; cases this
  · exact h3 y (by omega) hr
theorem PI_at {M : Fn} {s x p b : Nat} (h : PI M s x p b) (hx : x.testBit b = true) (e1 : M 11 b = b) (e2 : M 12 b = b) : PI M s x p (b + 1) := by
  obtain ⟨h0, h1, h2, h3⟩ := h
  refine ⟨h0, h1, h2, fun y hy hr => ?_⟩
  by_cases e : y = b
  · subst e
    rw [e1, e2, Int.toNat_natCast]
    exact ⟨hx, hx⟩
  · exact h3 y (by omega) hr
theorem PI_go {M : Fn} {s x x' p b : Nat} (hB : Bts M) (hs : s < 8) (h : PI M s x p b) (hb : b < 8) (hx : x.testBit b = true) (h0' : x' < 256) (hx' : ∀ q, x'.testBit q = true ↔ (x.testBit q = true ∨ (q = (M 11 b).toNat ∨ q = (M 12 b).toNat))) : PI M s x' p (b + 1) := by
  obtain ⟨h0, h1, h2, h3⟩ := h
  have hq := hB b hb
  have hr := h1 b hb hx
  have up : ∀ q, q < 8 → ((M 11 b).toNat = q ∨ (M 12 b).toNat = q) → rcb M q 7 s = true := by
    intro q hq8 hqq
    have := (rcb_last hB 7 s hs).mpr (.inr ⟨b, hb, hr, hqq⟩)
    rw [rcb_7 hB hq8 (by omega) hs] at this
    exact this
  refine ⟨h0', fun q hq8 g => ?_, fun q hq8 g => (hx' q).mpr (.inl (h2 q hq8 g)), fun y hy g => ?_⟩
  · rcases (hx' q).mp g with z | z | z
    · exact h1 q hq8 z
    · exact up q hq8 (.inl z.symm)
    · exact up q hq8 (.inr z.symm)
  · by_cases e : y = b
    · subst e
      exact ⟨(hx' _).mpr (.inr (.inl rfl)), (hx' _).mpr (.inr (.inr rfl))⟩
    · have := h3 y (by omega) g
      exact ⟨(hx' _).mpr (.inl this.1), (hx' _).mpr (.inl this.2)⟩
theorem PI_end {M : Fn} {s x p : Nat} (hB : Bts M) (hs : s < 8) (h : PI M s x p 8) : PI M s x (p + 1) 0 := by
  obtain ⟨h0, h1, h2, h3⟩ := h
  refine ⟨h0, h1, fun q hq g => ?_, fun y hy => by omega⟩
  rcases (rcb_last hB p s hs).mp g with z | ⟨b, hb, z1, z2⟩
  · exact h2 q hq z
  · have := h3 b hb z1
    rcases z2 with z2 | z2
    · rw [← z2]; exact this.1
    · rw [← z2]; exact this.2
theorem PI_start {M : Fn} {s : Nat} (hs : s < 8) : PI M s (2 ^ s) 0 0 := by
  refine ⟨p2_lt hs, fun q hq g => ?_, fun q hq g => ?_, fun y hy => by omega⟩
  · rw [Nat.testBit_two_pow, decide_eq_true_eq] at g
    exact rcb_le (Nat.zero_le 7) (by show Nat.beq s q = true; rw [g]; exact Nat.beq_refl q)
  · have : s = q := Nat.eq_of_beq_eq_true g
    rw [Nat.testBit_two_pow, decide_eq_true_eq]
    exact this
theorem PI_all {M : Fn} {s x p : Nat} (hp : 7 ≤ p) (h : PI M s x p 0) {q : Nat} (hq : q < 8) : x.testBit q = true ↔ rcb M q 7 s = true := ⟨h.2.1 q hq, fun g => h.2.2.1 q hq (rcb_le hp g)⟩
/-- by reading alone a case comes where it can come at all -/
theorem mst_far {I : Fn} {t : Nat} (hB : Bts I) (ht : t < 8) {b : Nat} (hb : b < 8) : rcb (mst I t) t 7 b = true ↔ dst I t b < 99 := by
  constructor
  · intro h
    have g : ∀ n b, b < 8 → rcb (mst I t) t n b = true → rcb I t n b = true := by
      intro n
      induction n with
      | zero => intro b _ h; exact h
      | succ n ih =>
        intro b hb h
        have hq := mst_B (t := t) hB b hb
        by_cases e : b = t
        · exact rcb_le (Nat.zero_le _) (by show Nat.beq b t = true; rw [e]; exact Nat.beq_refl t)
        · have e1 : mst I t 11 b = I 11 b := if_neg (by omega)
          have e2 : mst I t 12 b = rdS I t b := if_neg (by omega)
          rcases rcb_or.mp h with z | z | z
          · exact rcb_succ (ih b hb z)
          · have := ih _ (by omega) z
            rw [e1] at this
            exact rcb_or.mpr (.inr (.inl this))
          · have := ih _ (by omega) z
            rw [e2] at this
            unfold rdS at this
            split at this
            · exact rcb_or.mpr (.inr (.inr this))
            · exact rcb_or.mpr (.inr (.inl this))
    have := (dst_le (Nat.le_refl 7)).mpr (g 7 b hb h)
    omega
  · intro h
    have g : ∀ n, n ≤ 7 → ∀ b, b < 8 → rcb I t n b = true → rcb (mst I t) t n b = true := by
      intro n
      induction n with
      | zero => intro _ b _ h; exact h
      | succ n ih =>
        intro hn b hb h
        have hq := hB b hb
        have hr := rdS_rng (t := t) hB hb
        by_cases e : b = t
        · exact rcb_le (Nat.zero_le _) (by show Nat.beq b t = true; rw [e]; exact Nat.beq_refl t)
        · have e2 : mst I t 12 b = rdS I t b := if_neg (by omega)
          have key : dst I t (rdS I t b).toNat ≤ dst I t (I 11 b).toNat ∧ dst I t (rdS I t b).toNat ≤ dst I t (I 12 b).toNat := by
            unfold rdS
            split <;> omega
          have fin : dst I t (rdS I t b).toNat ≤ n → rcb (mst I t) t (n + 1) b = true := by
            intro w
            refine rcb_or.mpr (.inr (.inr ?_))
            rw [e2]
            exact ih (by omega) _ (by omega) ((dst_le (by omega)).mp w)
          rcases rcb_or.mp h with z | z | z
          · exact rcb_succ (ih (by omega) b hb z)
          · have := (dst_le (by omega)).mpr z
            exact fin (by omega)
          · have := (dst_le (by omega)).mpr z
            exact fin (by omega)
    have hr := dst_rng I t b
    exact g 7 (Nat.le_refl 7) b hb ((dst_le (Nat.le_refl 7)).mp (by omega))
