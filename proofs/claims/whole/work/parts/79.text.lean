/-! THE TEXT: how it is read, as mathematics -/
/-- a text of so many bytes -/
def TXT (t : Nat → Int) (fed : Nat) : Prop := (∀ p, 0 ≤ t p ∧ t p ≤ 127) ∧ ((∀ p, fed ≤ p → t p = 0) ∧ fed ≤ 100)
def lix (x : Int) : Int := if x = 98 then 0 else if x = 100 then 1 else if x = 107 then 2 else if x = 116 then 3 else if x = 103 then 4 else if x = 99 then 5 else -1
def six (x : Int) : Int := if x = 60 then 0 else if x = 61 then 1 else if x = 62 then 2 else -1
def pNum (t : Nat → Int) (p : Nat) : Int × Nat := if 48 ≤ t p ∧ t p ≤ 57 then (if 48 ≤ t (p + 1) ∧ t (p + 1) ≤ 57 then (10 * (t p - 48) + (t (p + 1) - 48), p + 2) else (t p - 48, p + 1)) else (-1, p)
/-- whether it is one; where its reading stops; its codes -/
abbrev PR : Type := Bool × (Nat × List Int)
def pTest (t : Nat → Int) (p : Nat) : PR := if lix (t p) < 0 then (false, p, []) else if six (t (p + 1)) < 0 then (false, p + 1, []) else if (pNum t (p + 2)).1 < 0 then (false, (pNum t (p + 2)).2, []) else (true, (pNum t (p + 2)).2, [(lix (t p) * 3 + six (t (p + 1))) * 100 + (pNum t (p + 2)).1])
def orL (o : Bool) : List Int := bif o then [-3] else []
def pLoop (one : Nat → PR) (t : Nat → Int) : Nat → Nat → Bool → List Int → PR
  | 0, p, o, cs => (true, p, cs ++ orL o)
  | n + 1, p, o, cs => if t p = 38 then (if (one (p + 1)).1 = true then pLoop one t n (one (p + 1)).2.1 o ((cs ++ (one (p + 1)).2.2) ++ [-2]) else (false, (one (p + 1)).2.1, [])) else if t p = 124 then (if (one (p + 1)).1 = true then pLoop one t n (one (p + 1)).2.1 true ((cs ++ orL o) ++ (one (p + 1)).2.2) else (false, (one (p + 1)).2.1, [])) else (true, p, cs ++ orL o)
def pEith (one : Nat → PR) (t : Nat → Int) (p : Nat) : PR := if (one p).1 = true then pLoop one t 100 (one p).2.1 false (one p).2.2 else (false, (one p).2.1, [])
def pOne (t : Nat → Int) : Nat → Nat → PR
  | 0, p => if t p = 33 then (false, p, []) else if t p = 40 then (false, p, []) else pTest t p
  | r + 1, p => if t p = 33 then (if (pOne t r (p + 1)).1 = true then (true, (pOne t r (p + 1)).2.1, (pOne t r (p + 1)).2.2 ++ [-1]) else (false, (pOne t r (p + 1)).2.1, [])) else if t p = 40 then (if (pEith (pOne t r) t (p + 1)).1 = true then (if t (pEith (pOne t r) t (p + 1)).2.1 = 41 then (true, (pEith (pOne t r) t (p + 1)).2.1 + 1, (pEith (pOne t r) t (p + 1)).2.2) else (false, (pEith (pOne t r) t (p + 1)).2.1, [])) else (false, (pEith (pOne t r) t (p + 1)).2.1, [])) else pTest t p
/-! what is true of them -/
def vcd (x : Int) : Prop := (x = -1 ∨ (x = -2 ∨ x = -3)) ∨ (0 ≤ x ∧ x < 1800)
/-- the stack's depth behind codes -/
def dpL : List Int → Nat → Option Nat
  | [], n => some n
  | x :: l, n => if 0 ≤ x then (if n < 60 then dpL l (n + 1) else none) else if x = -1 then (if 1 ≤ n then dpL l n else none) else if 2 ≤ n then dpL l (n - 1) else none
theorem dpL_cons (x : Int) (l : List Int) (n : Nat) : dpL (x :: l) n = if 0 ≤ x then (if n < 60 then dpL l (n + 1) else none) else if x = -1 then (if 1 ≤ n then dpL l n else none) else if 2 ≤ n then dpL l (n - 1) else none := rfl
theorem dpL_app : ∀ {a b : List Int} {n m : Nat}, dpL a n = some m → dpL (a ++ b) n = dpL b m
  | [], b, n, m, h => by
    have : n = m := by
      have h' : some n = some m := h
      injection h'
    rw [this]; rfl
  | x :: l, b, n, m, h => by
    rw [dpL_cons] at h
    rw [show (x :: l) ++ b = x :: (l ++ b) from rfl, dpL_cons]
    split
    · next e =>
      rw [if_pos e] at h
      split
      · next e2 => rw [if_pos e2] at h; exact dpL_app h
      · next e2 => rw [if_neg e2] at h; cases h
    · next e =>
      rw [if_neg e] at h
      split
      · next e3 =>
        rw [if_pos e3] at h
        split
        · next e2 => rw [if_pos e2] at h; exact dpL_app h
        · next e2 => rw [if_neg e2] at h; cases h
      · next e3 =>
        rw [if_neg e3] at h
        split
        · next e2 => rw [if_pos e2] at h; exact dpL_app h
        · next e2 => rw [if_neg e2] at h; cases h
/-- a good reading from p -/
def GP (fed p : Nat) (x : PR) : Prop := (p ≤ x.2.1 ∧ x.2.1 ≤ fed) ∧ (x.1 = true → p + 3 ≤ x.2.1 ∧ (x.2.2.length + p ≤ x.2.1 ∧ ((∀ c, c ∈ x.2.2 → vcd c) ∧ ∀ n, 3 * n ≤ p → dpL x.2.2 n = some (n + 1))))
theorem TXT.lt {t : Nat → Int} {fed p : Nat} (h : TXT t fed) (hp : t p ≠ 0) : p < fed := by
  by_cases q : p < fed
  · exact q
  · exact absurd (h.2.1 p (by omega)) hp
theorem lix_rng (x : Int) : lix x = -1 ∨ (0 ≤ lix x ∧ lix x < 6) := by
  unfold lix
  repeat' split
  all_goals omega
theorem lix_nz {x : Int} (h : ¬ lix x < 0) : x ≠ 0 := by
  intro e
  subst e
  exact h (by decide)
theorem six_rng (x : Int) : six x = -1 ∨ (0 ≤ six x ∧ six x < 3) := by
  unfold six
  repeat' split
  all_goals omega
theorem six_nz {x : Int} (h : ¬ six x < 0) : x ≠ 0 := by
  intro e
  subst e
  exact h (by decide)
theorem pNum_ok {t : Nat → Int} {fed p : Nat} (h : TXT t fed) (hp : p ≤ fed) : (p ≤ (pNum t p).2 ∧ (pNum t p).2 ≤ fed) ∧ ((pNum t p).1 = -1 ∨ ((0 ≤ (pNum t p).1 ∧ (pNum t p).1 < 100) ∧ p + 1 ≤ (pNum t p).2)) := by
  unfold pNum
  split
  · next e =>
    have h1 := h.lt (p := p) (by omega)
    split
    · next e2 =>
      have h2 := h.lt (p := p + 1) (by omega)
      dsimp only
      omega
    · dsimp only
      omega
  · dsimp only
    omega
theorem GP_fail {fed p q : Nat} (h : p ≤ q ∧ q ≤ fed) : GP fed p (false, q, []) := ⟨h, fun z => absurd (show false = true from z) (by decide)⟩
theorem GP_test {t : Nat → Int} {fed p : Nat} (h : TXT t fed) (hp : p ≤ fed) : GP fed p (pTest t p) := by
  have l := lix_rng (t p)
  have s := six_rng (t (p + 1))
  unfold pTest
  split
  · exact GP_fail ⟨Nat.le_refl _, hp⟩
  · next e1 =>
    have h1 := h.lt (lix_nz e1)
    split
    · exact GP_fail ⟨by omega, by omega⟩
    · next e2 =>
      have h2 := h.lt (six_nz e2)
      have n := pNum_ok h (p := p + 2) (by omega)
      split
      · exact GP_fail ⟨by omega, by omega⟩
      · next e3 =>
        refine ⟨by dsimp only; omega, fun _ => ⟨by dsimp only; omega, by show 1 + p ≤ (pNum t (p + 2)).2; omega, fun c hc => ?_, fun m hm => ?_⟩⟩
        · have : c = _ := List.mem_singleton.mp hc
          subst this
          right
          omega
        · show (if 0 ≤ _ then _ else _) = _
          have hf := h.2.2
          rw [if_pos (by omega), if_pos (by omega)]
          rfl
/-- at the head of the loop -/
def LPO (fed p0 p : Nat) (o : Bool) (cs : List Int) : Prop := (p0 + 3 ≤ p ∧ p ≤ fed) ∧ (cs.length + (bif o then 1 else 0) + p0 ≤ p ∧ ((∀ c, c ∈ cs → vcd c) ∧ ∀ n, 3 * n ≤ p0 → 3 * (n + 1 + (bif o then 1 else 0)) ≤ p ∧ dpL cs n = some (n + 1 + (bif o then 1 else 0))))
theorem LP_end {fed p0 p : Nat} {o : Bool} {cs : List Int} (h : LPO fed p0 p o cs) : GP fed p0 (true, p, cs ++ orL o) := by
  obtain ⟨h1, h2, h3, h4⟩ := h
  refine ⟨by dsimp only; omega, fun _ => ⟨h1.1, ?_, fun c hc => ?_, fun n hn => ?_⟩⟩
  · rw [List.length_append]
    cases o
    · show cs.length + 0 + p0 ≤ p
      exact h2
    · show cs.length + 1 + p0 ≤ p
      exact h2
  · rcases List.mem_append.mp hc with q | q
    · exact h3 c q
    · cases o
      · cases q
      · have : c = -3 := List.mem_singleton.mp q
        subst this
        exact .inl (.inr (.inr rfl))
  · obtain ⟨g1, g2⟩ := h4 n hn
    show dpL (cs ++ orL o) n = _
    rw [dpL_app g2]
    cases o
    · rfl
    · show (if 0 ≤ (-3 : Int) then _ else _) = _
      rw [if_neg (by decide), if_neg (by decide), if_pos (by show 2 ≤ n + 1 + 1; omega)]
      rfl
theorem LP_and {fed p0 p : Nat} {o : Bool} {cs : List Int} {x : PR} (h : LPO fed p0 p o cs) (hx : GP fed (p + 1) x) (ho : x.1 = true) : LPO fed p0 x.2.1 o ((cs ++ x.2.2) ++ [-2]) := by
  obtain ⟨h1, h2, h3, h4⟩ := h
  obtain ⟨g1, g2⟩ := hx
  obtain ⟨g2, g3, g4, g5⟩ := g2 ho
  refine ⟨by omega, ?_, fun c hc => ?_, fun n hn => ?_⟩
  · rw [List.length_append, List.length_append]
    show cs.length + x.2.2.length + 1 + _ + p0 ≤ _
    omega
  · rcases List.mem_append.mp hc with q | q
    · rcases List.mem_append.mp q with q | q
      · exact h3 c q
      · exact g4 c q
    · have : c = -2 := List.mem_singleton.mp q
      subst this
      exact .inl (.inr (.inl rfl))
  · obtain ⟨e1, e2⟩ := h4 n hn
    refine ⟨by omega, ?_⟩
    rw [List.append_assoc, dpL_app e2, dpL_app (g5 _ (by omega))]
    show (if 0 ≤ (-2 : Int) then _ else _) = _
    rw [if_neg (by decide), if_neg (by decide), if_pos (by omega)]
    rfl
theorem LP_or {fed p0 p : Nat} {o : Bool} {cs : List Int} {x : PR} (h : LPO fed p0 p o cs) (hx : GP fed (p + 1) x) (ho : x.1 = true) : LPO fed p0 x.2.1 true ((cs ++ orL o) ++ x.2.2) := by
  have hE := LP_end h
  obtain ⟨h1, h2, h3, h4⟩ := h
  obtain ⟨g1, g2⟩ := hx
  obtain ⟨g2, g3, g4, g5⟩ := g2 ho
  obtain ⟨_, q2, q3, q4⟩ := hE.2 rfl
  refine ⟨by omega, ?_, fun c hc => ?_, fun n hn => ?_⟩
  · have q2' : (cs ++ orL o).length + p0 ≤ p := q2
    rw [List.length_append]
    show (cs ++ orL o).length + x.2.2.length + 1 + p0 ≤ _
    omega
  · rcases List.mem_append.mp hc with q | q
    · exact q3 c q
    · exact g4 c q
  · obtain ⟨e1, e2⟩ := h4 n hn
    refine ⟨by show 3 * (n + 1 + 1) ≤ _; omega, ?_⟩
    rw [dpL_app (q4 n hn)]
    exact g5 (n + 1) (by omega)
theorem GP_loop {t : Nat → Int} {fed p0 : Nat} {one : Nat → PR} (h : TXT t fed) (h1 : ∀ p, p ≤ fed → GP fed p (one p)) : ∀ (n p : Nat) (o : Bool) (cs : List Int), LPO fed p0 p o cs → GP fed p0 (pLoop one t n p o cs)
  | 0, p, o, cs, hl => LP_end hl
  | n + 1, p, o, cs, hl => by
    unfold pLoop
    have hp0 := hl.1
    split
    · next e =>
      have hp := h.lt (p := p) (by omega)
      have g := h1 (p + 1) (by omega)
      split
      · next e2 => exact GP_loop h h1 n _ o _ (LP_and hl g e2)
      · have := g.1
        exact GP_fail ⟨by omega, this.2⟩
    · split
      · next e =>
        have hp := h.lt (p := p) (by omega)
        have g := h1 (p + 1) (by omega)
        split
        · next e2 => exact GP_loop h h1 n _ true _ (LP_or hl g e2)
        · have := g.1
          exact GP_fail ⟨by omega, this.2⟩
      · exact LP_end hl
theorem LP_start {fed p : Nat} {x : PR} (g : GP fed p x) (e : x.1 = true) : LPO fed p x.2.1 false x.2.2 := by
  obtain ⟨g2, g3, g4, g5⟩ := g.2 e
  exact ⟨⟨g2, g.1.2⟩, g3, g4, fun n hn => ⟨by show 3 * (n + 1 + 0) ≤ _; omega, g5 n hn⟩⟩
theorem GP_eith {t : Nat → Int} {fed p : Nat} {one : Nat → PR} (h : TXT t fed) (h1 : ∀ p, p ≤ fed → GP fed p (one p)) (hp : p ≤ fed) : GP fed p (pEith one t p) := by
  have g := h1 p hp
  unfold pEith
  split
  · next e => exact GP_loop h h1 100 _ false _ (LP_start g e)
  · exact GP_fail g.1
theorem GP_one {t : Nat → Int} {fed : Nat} (h : TXT t fed) : ∀ (r p : Nat), p ≤ fed → GP fed p (pOne t r p)
  | 0, p, hp => by
    unfold pOne
    split
    · exact GP_fail ⟨Nat.le_refl _, hp⟩
    · split
      · exact GP_fail ⟨Nat.le_refl _, hp⟩
      · exact GP_test h hp
  | r + 1, p, hp => by
    unfold pOne
    split
    · next e =>
      have hl := h.lt (p := p) (by omega)
      have g := GP_one h r (p + 1) (by omega)
      split
      · next e2 =>
        obtain ⟨g2, g3, g4, g5⟩ := g.2 e2
        have g1 := g.1
        refine ⟨⟨by dsimp only; omega, by dsimp only; omega⟩, fun _ => ⟨by dsimp only; omega, ?_, fun c hc => ?_, fun n hn => ?_⟩⟩
        · show ((pOne t r (p + 1)).2.2 ++ [-1]).length + p ≤ (pOne t r (p + 1)).2.1
          rw [List.length_append]
          show _ + 1 + p ≤ _
          omega
        · rcases List.mem_append.mp hc with q | q
          · exact g4 c q
          · have : c = -1 := List.mem_singleton.mp q
            subst this
            exact .inl (.inl rfl)
        · show dpL ((pOne t r (p + 1)).2.2 ++ [-1]) n = _
          rw [dpL_app (g5 n (by omega))]
          show (if 0 ≤ (-1 : Int) then _ else _) = _
          rw [if_neg (by decide), if_pos rfl, if_pos (by omega)]
          rfl
      · have := g.1
        exact GP_fail ⟨by omega, this.2⟩
    · split
      · next e =>
        have hl := h.lt (p := p) (by omega)
        have g := GP_eith (one := pOne t r) h (fun q hq => GP_one h r q hq) (p := p + 1) (by omega)
        have g1 := g.1
        split
        · next e2 =>
          obtain ⟨g2, g3, g4, g5⟩ := g.2 e2
          split
          · next e3 =>
            have hl2 := h.lt (p := (pEith (pOne t r) t (p + 1)).2.1) (by omega)
            exact ⟨⟨by dsimp only; omega, by dsimp only; omega⟩, fun _ => ⟨by dsimp only; omega, by dsimp only; omega, g4, fun n hn => g5 n (by omega)⟩⟩
          · exact GP_fail ⟨by omega, g1.2⟩
        · exact GP_fail ⟨by omega, g1.2⟩
      · exact GP_test h hp
