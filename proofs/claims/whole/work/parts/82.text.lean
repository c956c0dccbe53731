/-! THE TEXT: words, clauses, halls; as mathematics -/
def lwL : List Int := [114, 101, 97, 100, 98, 108, 117, 114, 115, 108, 111, 119, 114, 111, 111, 109]
def lw (w i : Nat) : Int := lwL.getD (w * 4 + i) 0
/-- how far a word goes -/
def alF (t : Nat → Int) (p w : Nat) : Nat → Nat → Nat
  | 0, i => i
  | n + 1, i => if t (p + i) = lw w i then alF t p w n (i + 1) else i
def hwd (t : Nat → Int) (p : Nat) : Nat := if t p = 98 then 1 else if t p = 115 then 2 else if t (p + 1) = 111 then 3 else 0
def pW (t : Nat → Int) (p : Nat) : Int × Nat := if alF t p (hwd t p) 4 0 = 4 then ((hwd t p : Nat), p + 4) else (-1, p + alF t p (hwd t p) 4 0)
theorem alF_eq (t : Nat → Int) (p w : Nat) : alF t p w 4 0 = if t p = lw w 0 then (if t (p + 1) = lw w 1 then (if t (p + 2) = lw w 2 then (if t (p + 3) = lw w 3 then 4 else 3) else 2) else 1) else 0 := rfl
theorem hwd_cases (t : Nat → Int) (p : Nat) : (hwd t p = 1 ∧ (alF t p 0 4 0 = 0 ∧ (alF t p 2 4 0 = 0 ∧ alF t p 3 4 0 = 0))) ∨ ((hwd t p = 2 ∧ (alF t p 0 4 0 = 0 ∧ (alF t p 1 4 0 = 0 ∧ alF t p 3 4 0 = 0))) ∨ ((hwd t p = 3 ∧ (alF t p 0 4 0 ≤ 1 ∧ (alF t p 0 4 0 ≤ alF t p 3 4 0 ∧ (alF t p 1 4 0 = 0 ∧ alF t p 2 4 0 = 0)))) ∨ (hwd t p = 0 ∧ (alF t p 3 4 0 ≤ 1 ∧ (alF t p 3 4 0 ≤ alF t p 0 4 0 ∧ (alF t p 1 4 0 = 0 ∧ alF t p 2 4 0 = 0)))))) := by
  have c : lw 0 0 = 114 ∧ lw 0 1 = 101 ∧ lw 1 0 = 98 ∧ lw 2 0 = 115 ∧ lw 3 0 = 114 ∧ lw 3 1 = 111 := by decide
  obtain ⟨c00, c01, c10, c20, c30, c31⟩ := c
  unfold hwd
  simp only [alF_eq, c00, c01, c10, c20, c30, c31]
  by_cases e1 : t p = 98
  · rw [if_pos e1]
    left
    rw [e1]
    exact ⟨rfl, if_neg (by decide), if_neg (by decide), if_neg (by decide)⟩
  rw [if_neg e1]
  by_cases e2 : t p = 115
  · rw [if_pos e2]
    right; left
    rw [e2]
    exact ⟨rfl, if_neg (by decide), if_neg (by decide), if_neg (by decide)⟩
  rw [if_neg e2, if_neg e1, if_neg e2]
  by_cases e3 : t (p + 1) = 111
  · rw [if_pos e3]
    right; right; left
    rw [e3]
    refine ⟨rfl, ?_, ?_, rfl, rfl⟩
    · split
      · rw [if_neg (by decide)]; exact Nat.le_refl _
      · exact Nat.zero_le _
    · split
      · rw [if_neg (by decide), if_pos rfl]
        repeat' split
        all_goals omega
      · exact Nat.le_refl _
  · rw [if_neg e3]
    right; right; right
    refine ⟨rfl, ?_, ?_, rfl, rfl⟩
    · split
      · exact Nat.le_refl _
      · exact Nat.zero_le _
    · split
      · repeat' split
        all_goals omega
      · exact Nat.le_refl _
theorem alF_4 (t : Nat → Int) (p w : Nat) : alF t p w 4 0 ≤ 4 := by
  rw [alF_eq]
  repeat' split
  all_goals omega
theorem lw_nz : ∀ w, w < 4 → ∀ i, i < 4 → lw w i ≠ 0 ∧ (and32 (lw w i) 255 = lw w i ∧ (i2c_ (lw w i) = lw w i ∧ rok 2 (lw w i) = true)) := by decide
theorem pW_ok {t : Nat → Int} {fed p : Nat} (h : TXT t fed) (hp : p ≤ fed) : (p ≤ (pW t p).2 ∧ (pW t p).2 ≤ fed) ∧ ((pW t p).1 = -1 ∨ (0 ≤ (pW t p).1 ∧ (pW t p).1 < 4)) := by
  have hw : hwd t p < 4 := by
    unfold hwd
    repeat' split
    all_goals omega
  have key : p + alF t p (hwd t p) 4 0 ≤ fed := by
    rw [alF_eq]
    have n := fun i hi => (lw_nz (hwd t p) hw i hi).1
    have n0 := n 0 (by omega); have n1 := n 1 (by omega); have n2 := n 2 (by omega); have n3 := n 3 (by omega)
    split
    · next e0 =>
      have l0 := h.lt (p := p) (by rw [e0]; exact n0)
      split
      · next e1 =>
        have l1 := h.lt (p := p + 1) (by rw [e1]; exact n1)
        split
        · next e2 =>
          have l2 := h.lt (p := p + 2) (by rw [e2]; exact n2)
          split
          · next e3 =>
            have l3 := h.lt (p := p + 3) (by rw [e3]; exact n3)
            omega
          · omega
        · omega
      · omega
    · omega
  unfold pW
  split
  · next e =>
    rw [e] at key
    exact ⟨⟨by dsimp only; omega, by dsimp only; omega⟩, .inr ⟨by dsimp only; omega, by dsimp only; omega⟩⟩
  · exact ⟨⟨by dsimp only; omega, by dsimp only; omega⟩, .inl rfl⟩
/-- a clause: whether it is one, where its reading stops, word, number, codes -/
abbrev PC : Type := Bool × (Nat × (Int × (Int × List Int)))
def pCl (t : Nat → Int) (p : Nat) : PC := if (pW t p).1 < 0 then (false, (pW t p).2, 0, 0, []) else if t (pW t p).2 = 32 then (if (pNum t ((pW t p).2 + 1)).1 < 0 then (false, (pNum t ((pW t p).2 + 1)).2, 0, 0, []) else if (pW t p).1 = 3 then (true, (pNum t ((pW t p).2 + 1)).2, 3, (pNum t ((pW t p).2 + 1)).1, []) else if t (pNum t ((pW t p).2 + 1)).2 = 32 then ((pEith (pOne t 4) t ((pNum t ((pW t p).2 + 1)).2 + 1)).1, (pEith (pOne t 4) t ((pNum t ((pW t p).2 + 1)).2 + 1)).2.1, (pW t p).1, (pNum t ((pW t p).2 + 1)).1, (pEith (pOne t 4) t ((pNum t ((pW t p).2 + 1)).2 + 1)).2.2) else (false, (pNum t ((pW t p).2 + 1)).2, 0, 0, [])) else (false, (pW t p).2, 0, 0, [])
/-- a good clause -/
def GC (fed p : Nat) (c : PC) : Prop := (p ≤ c.2.1 ∧ c.2.1 ≤ fed) ∧ (c.1 = true → p + 1 ≤ c.2.1 ∧ ((0 ≤ c.2.2.1 ∧ c.2.2.1 ≤ 3) ∧ ((0 ≤ c.2.2.2.1 ∧ c.2.2.2.1 ≤ 99) ∧ (c.2.2.2.2.length + p ≤ c.2.1 ∧ ((∀ x, x ∈ c.2.2.2.2 → vcd x) ∧ (c.2.2.1 ≠ 3 → dpL c.2.2.2.2 0 = some 1))))))
theorem GC_fail {fed p q : Nat} {a : Int × (Int × List Int)} (h : p ≤ q ∧ q ≤ fed) : GC fed p (false, q, a) := ⟨h, fun z => absurd (show false = true from z) (by decide)⟩
theorem GC_ok {t : Nat → Int} {fed p : Nat} (h : TXT t fed) (hp : p ≤ fed) : GC fed p (pCl t p) := by
  have w := pW_ok h hp
  unfold pCl
  split
  · exact GC_fail w.1
  · next e1 =>
    split
    · next e2 =>
      have l2 := h.lt (p := (pW t p).2) (by rw [e2]; decide)
      have n := pNum_ok h (p := (pW t p).2 + 1) (by omega)
      split
      · exact GC_fail ⟨by omega, n.1.2⟩
      · next e3 =>
        split
        · next e4 =>
          exact ⟨⟨by dsimp only; omega, n.1.2⟩, fun _ => ⟨by dsimp only; omega, ⟨by dsimp only; omega, by dsimp only; omega⟩, ⟨by dsimp only; omega, by dsimp only; omega⟩, by show 0 + p ≤ (pNum t ((pW t p).2 + 1)).2; omega, fun x hx => (by cases hx), fun z => absurd rfl z⟩⟩
        · next e4 =>
          split
          · next e5 =>
            have l5 := h.lt (p := (pNum t ((pW t p).2 + 1)).2) (by rw [e5]; decide)
            have g := GP_eith h (fun q hq => GP_one h 4 q hq) (p := (pNum t ((pW t p).2 + 1)).2 + 1) (by omega)
            refine ⟨⟨by dsimp only; have := g.1; omega, g.1.2⟩, fun z => ?_⟩
            obtain ⟨g2, g3, g4, g5⟩ := g.2 z
            refine ⟨by dsimp only; omega, ⟨by dsimp only; omega, by dsimp only; omega⟩, ⟨by dsimp only; omega, by dsimp only; omega⟩, by dsimp only; omega, g4, fun _ => g5 0 (by omega)⟩
          · exact GC_fail ⟨by omega, n.1.2⟩
    · exact GC_fail w.1
abbrev CL : Type := List (Int × (Int × Nat))
abbrev PH : Type := Bool × (Nat × (CL × List Int))
def pH (t : Nat → Int) (fed : Nat) : Nat → Nat → CL → List Int → PH
  | 0, p, cl, T => if fed ≤ p then (true, p, cl, T) else (false, p, [], [])
  | f + 1, p, cl, T => if fed ≤ p then (true, p, cl, T) else if t p = 59 then (if (pCl t (p + 1)).1 = true then pH t fed f (pCl t (p + 1)).2.1 (cl ++ [((pCl t (p + 1)).2.2.1, (pCl t (p + 1)).2.2.2.1, (T ++ (pCl t (p + 1)).2.2.2.2).length)]) (T ++ (pCl t (p + 1)).2.2.2.2) else (false, (pCl t (p + 1)).2.1, [], [])) else (false, p, [], [])
def pHall (t : Nat → Int) (fed : Nat) : PH := if (pCl t 0).1 = true then pH t fed 9 (pCl t 0).2.1 [((pCl t 0).2.2.1, (pCl t 0).2.2.2.1, (pCl t 0).2.2.2.2.length)] (pCl t 0).2.2.2.2 else (false, (pCl t 0).2.1, [], [])
/-! the class: words -/
theorem e46v {d : Nat} {a0 a1 : Int} {I L : Fn} (h1 : 0 ≤ a0) (h2 : a0 < a1) : CallD (d + 1) 46 [vi a0, vi a1, vo] (S I L) = some (some (vi a0), S I L) :=
  Eq.trans (Call_eq rfl (ls := [vi a0, vi a1, vo]) rfl) (Eq.trans (Run_blk (pc' := 1) (ls' := [vi a0, vi a1, vo]) (st' := [vi a0]) (σ' := S I L) k46_0_1 (rfl)) (Eq.trans (p_ifn f46_1 (decide_eq_false (Int.not_lt.mpr h1))) (Eq.trans (Run_blk (pc' := 6) (ls' := [vi a0, vi a1, vo]) (st' := [vi a1, vi a0]) (σ' := S I L) k46_4_2 (rfl)) (Eq.trans (p_ic f46_6 (decide_eq_true h2)) (Eq.trans (Run_blk (pc' := 17) (ls' := [vi a0, vi a1, vo]) (st' := [vi a0]) (σ' := S I L) k46_16_1 (rfl)) (p_ri f46_17 rfl))))))
section TEXT
variable {I L : Fn} {h : Nat}
theorem c_charAt {d w i : Nat} {J : Fn} (hc : CS J) (hw : w < 4) (hi : i < 4) : CallD (d + 4) 42 [vr 2, vi ((w : Int) * 4 + i)] (S J L) = some (some (vi (lw w i)), S J L) := by
  obtain ⟨g1, _, _⟩ := c_str (d := d + 2) (L := L) hc
  have e := (hc.2.2.1 (w * 4 + i) (by omega)).1
  obtain ⟨z1, z2, z3, z4⟩ := lw_nz w hw i hi
  have ix : ((w : Int) * 4 + i).toNat = w * 4 + i := by omega
  have i45 : CallD (d + 2) 45 [vi ((w : Int) * 4 + i), vi 16] (S J L) = some (none, S J L) := (e45_1 (e46v (by omega) (by omega)))
  have i44 : CallD (d + 3) 44 [vr 5, vi ((w : Int) * 4 + i)] (S J L) = some (some (vi (lw w i)), S J L) := (e44s5_1 (nk0 := 5) i45 (by omega) (show J 5 _ = lw w i from by rw [ix]; exact e) z2 z3 z4)
  exact (e42s2_1 g1 (by decide) i44 z4)
theorem c_al {d w : Nat} {J : Fn} {p : Nat} (hT : TX I) (hS : CS J) (hh : 45 ≤ h) (hc : CFx h I J) (hp : J 36 2 = p) (hp2 : p ≤ (I 36 1).toNat) (hw : w < 4) : ∀ n i : Nat, i + n = 4 → y41_2 (CallD (d + 4)) w i J L = some (some (vi (alF (txt I) p w n i : Nat)), S J L)
  | 0, i, hi => by
    have : i = 4 := by omega
    subst this
    exact (y41_2_1 (by omega))
  | n + 1, i, hi => by
    have tt := txt_TXT hT
    have f100 := tt.2.2
    have e1 : J 36 1 = I 36 1 := hc 36 1 (by omega) (by omega)
    have hT1 := hT.1
    unfold rng at hT1
    have ih := c_al (d := d) hT hS hh hc hp hp2 hw n (i + 1) (by omega)
    rw [show ((i + 1 : Nat) : Int) = (i : Int) + 1 by omega] at ih
    have ch := c_charAt (d := d) (L := L) (w := w) (i := i) hS hw (by omega)
    by_cases q : p + i < (I 36 1).toNat
    · have eb : J 37 (p + i) = txt I (p + i) := by
        rw [hc 37 (p + i) (by omega) (by omega)]
        exact (if_pos (by omega)).symm
      have eb2 : J 37 ((p : Int) + i).toNat = txt I (p + i) := by
        rw [show ((p : Int) + i).toNat = p + i by omega]
        exact eb
      by_cases e : txt I (p + i) = lw w i
      · rw [show alF (txt I) p w (n + 1) i = alF (txt I) p w n (i + 1) from if_pos e]
        refine Eq.trans (y41_2_3 (by omega) hp (w32_id (by omega) (by omega)) e1 (by omega) (w32_id (by omega) (by omega)) (by omega) eb2 (w32_id (by omega) (by omega)) (w32_id (by omega) (by omega)) ch e (w32_id (by omega) (by omega))) ?_
        exact ih
      · rw [show alF (txt I) p w (n + 1) i = i from if_neg e]
        exact (y41_2_4 (by omega) hp (w32_id (by omega) (by omega)) e1 (by omega) (w32_id (by omega) (by omega)) (by omega) eb2 (w32_id (by omega) (by omega)) (w32_id (by omega) (by omega)) ch e)
    · have z : txt I (p + i) = 0 := tt.2.1 _ (by omega)
      have nz := (lw_nz w hw i (by omega)).1
      rw [show alF (txt I) p w (n + 1) i = i from if_neg (fun e => nz (e.symm.trans z))]
      exact (y41_2_2 (by omega) hp (w32_id (by omega) (by omega)) e1 (by omega))
theorem c_word {d : Nat} {J : Fn} {p : Nat} (hT : TX I) (hS : CS J) (hh : 45 ≤ h) (hc : CFx h I J) (hp : J 36 2 = p) (hp2 : p ≤ (I 36 1).toNat) : CallD (d + 6) 40 [vr 36] (S J L) = some (some (vi (pW (txt I) p).1), S (up J 36 2 ((pW (txt I) p).2 : Nat)) L) := by
  have tt := txt_TXT hT
  have f100 := tt.2.2
  have A : ∀ w : Nat, w < 4 → CallD (d + 5) 41 [vr 36, vi w] (S J L) = some (some (vi (alF (txt I) p w 4 0 : Nat)), S J L) := fun w hw => by
    refine Eq.trans (e41_1) ?_
    exact c_al (d := d) hT hS hh hc hp hp2 hw 4 0 (by omega)
  have A0 := A 0 (by omega)
  have A1 := A 1 (by omega)
  have A2 := A 2 (by omega)
  have A3 := A 3 (by omega)
  have cs := hwd_cases (txt I) p
  have b0 := alF_4 (txt I) p 0
  have b1 := alF_4 (txt I) p 1
  have b2 := alF_4 (txt I) p 2
  have b3 := alF_4 (txt I) p 3
  unfold pW
  refine Eq.trans (e40_1) ?_
  rcases cs with ⟨hw, x0, x2, x3⟩ | ⟨hw, x0, x1, x3⟩ | ⟨hw, x0, x3, x1, x2⟩ | ⟨hw, x3, x0, x1, x2⟩ <;> rw [hw] <;> generalize alF (txt I) p 0 4 0 = a0 at * <;> generalize alF (txt I) p 1 4 0 = a1 at * <;> generalize alF (txt I) p 2 4 0 = a2 at * <;> generalize alF (txt I) p 3 4 0 = a3 at *
  · by_cases e : a1 = 4
    · rw [if_pos e]
      have m0 : (if (0 : Int) < (a0 : Nat) then (a0 : Int) else 0) = 0 := by split <;> omega
      refine Eq.trans (y40_4_2 (by omega) A0 (by omega) m0 (w32_id (by omega) (by omega))) ?_
      exact (y40_4_3 (by omega) A1 (by omega) hp (show _ = ((p + 4 : Nat) : Int) from by rw [show ((p + 4 : Nat) : Int) = (p : Int) + 4 by omega]; exact w32_id (by omega) (by omega)))
    · rw [if_neg e]
      have m0 : (if (0 : Int) < (a0 : Nat) then (a0 : Int) else 0) = 0 := by split <;> omega
      have m1 : (if (0 : Int) < (a1 : Nat) then (a1 : Int) else 0) = a1 := by split <;> omega
      have m2 : (if (a1 : Int) < (a2 : Nat) then (a2 : Int) else a1) = a1 := by split <;> omega
      have m3 : (if (a1 : Int) < (a3 : Nat) then (a3 : Int) else a1) = a1 := by split <;> omega
      refine Eq.trans (y40_4_2 (by omega) A0 (by omega) m0 (w32_id (by omega) (by omega))) ?_
      refine Eq.trans (y40_4_2 (by omega) A1 (by omega) m1 (w32_id (by omega) (by omega))) ?_
      refine Eq.trans (y40_4_2 (by omega) A2 (by omega) m2 (w32_id (by omega) (by omega))) ?_
      refine Eq.trans (y40_4_2 (by omega) A3 (by omega) m3 (w32_id (by omega) (by omega))) ?_
      exact (y40_4_1 (by omega) hp (show _ = ((p + a1 : Nat) : Int) from by rw [show ((p + a1 : Nat) : Int) = (p : Int) + a1 by omega]; exact w32_id (by omega) (by omega)))
  · have m0 : (if (0 : Int) < (a0 : Nat) then (a0 : Int) else 0) = 0 := by split <;> omega
    have m1 : (if (0 : Int) < (a1 : Nat) then (a1 : Int) else 0) = 0 := by split <;> omega
    by_cases e : a2 = 4
    · rw [if_pos e]
      refine Eq.trans (y40_4_2 (by omega) A0 (by omega) m0 (w32_id (by omega) (by omega))) ?_
      refine Eq.trans (y40_4_2 (by omega) A1 (by omega) m1 (w32_id (by omega) (by omega))) ?_
      exact (y40_4_3 (by omega) A2 (by omega) hp (show _ = ((p + 4 : Nat) : Int) from by rw [show ((p + 4 : Nat) : Int) = (p : Int) + 4 by omega]; exact w32_id (by omega) (by omega)))
    · rw [if_neg e]
      have m2 : (if (0 : Int) < (a2 : Nat) then (a2 : Int) else 0) = a2 := by split <;> omega
      have m3 : (if (a2 : Int) < (a3 : Nat) then (a3 : Int) else a2) = a2 := by split <;> omega
      refine Eq.trans (y40_4_2 (by omega) A0 (by omega) m0 (w32_id (by omega) (by omega))) ?_
      refine Eq.trans (y40_4_2 (by omega) A1 (by omega) m1 (w32_id (by omega) (by omega))) ?_
      refine Eq.trans (y40_4_2 (by omega) A2 (by omega) m2 (w32_id (by omega) (by omega))) ?_
      refine Eq.trans (y40_4_2 (by omega) A3 (by omega) m3 (w32_id (by omega) (by omega))) ?_
      exact (y40_4_1 (by omega) hp (show _ = ((p + a2 : Nat) : Int) from by rw [show ((p + a2 : Nat) : Int) = (p : Int) + a2 by omega]; exact w32_id (by omega) (by omega)))
  · have m0 : (if (0 : Int) < (a0 : Nat) then (a0 : Int) else 0) = a0 := by split <;> omega
    have m1 : (if (a0 : Int) < (a1 : Nat) then (a1 : Int) else a0) = a0 := by split <;> omega
    have m2 : (if (a0 : Int) < (a2 : Nat) then (a2 : Int) else a0) = a0 := by split <;> omega
    by_cases e : a3 = 4
    · rw [if_pos e]
      refine Eq.trans (y40_4_2 (by omega) A0 (by omega) m0 (w32_id (by omega) (by omega))) ?_
      refine Eq.trans (y40_4_2 (by omega) A1 (by omega) m1 (w32_id (by omega) (by omega))) ?_
      refine Eq.trans (y40_4_2 (by omega) A2 (by omega) m2 (w32_id (by omega) (by omega))) ?_
      exact (y40_4_3 (by omega) A3 (by omega) hp (show _ = ((p + 4 : Nat) : Int) from by rw [show ((p + 4 : Nat) : Int) = (p : Int) + 4 by omega]; exact w32_id (by omega) (by omega)))
    · rw [if_neg e]
      have m3 : (if (a0 : Int) < (a3 : Nat) then (a3 : Int) else a0) = a3 := by split <;> omega
      refine Eq.trans (y40_4_2 (by omega) A0 (by omega) m0 (w32_id (by omega) (by omega))) ?_
      refine Eq.trans (y40_4_2 (by omega) A1 (by omega) m1 (w32_id (by omega) (by omega))) ?_
      refine Eq.trans (y40_4_2 (by omega) A2 (by omega) m2 (w32_id (by omega) (by omega))) ?_
      refine Eq.trans (y40_4_2 (by omega) A3 (by omega) m3 (w32_id (by omega) (by omega))) ?_
      exact (y40_4_1 (by omega) hp (show _ = ((p + a3 : Nat) : Int) from by rw [show ((p + a3 : Nat) : Int) = (p : Int) + a3 by omega]; exact w32_id (by omega) (by omega)))
  · by_cases e : a0 = 4
    · rw [if_pos e]
      exact (y40_4_3 (by omega) A0 (by omega) hp (show _ = ((p + 4 : Nat) : Int) from by rw [show ((p + 4 : Nat) : Int) = (p : Int) + 4 by omega]; exact w32_id (by omega) (by omega)))
    · rw [if_neg e]
      have m0 : (if (0 : Int) < (a0 : Nat) then (a0 : Int) else 0) = a0 := by split <;> omega
      have m1 : (if (a0 : Int) < (a1 : Nat) then (a1 : Int) else a0) = a0 := by split <;> omega
      have m2 : (if (a0 : Int) < (a2 : Nat) then (a2 : Int) else a0) = a0 := by split <;> omega
      have m3 : (if (a0 : Int) < (a3 : Nat) then (a3 : Int) else a0) = a0 := by split <;> omega
      refine Eq.trans (y40_4_2 (by omega) A0 (by omega) m0 (w32_id (by omega) (by omega))) ?_
      refine Eq.trans (y40_4_2 (by omega) A1 (by omega) m1 (w32_id (by omega) (by omega))) ?_
      refine Eq.trans (y40_4_2 (by omega) A2 (by omega) m2 (w32_id (by omega) (by omega))) ?_
      refine Eq.trans (y40_4_2 (by omega) A3 (by omega) m3 (w32_id (by omega) (by omega))) ?_
      exact (y40_4_1 (by omega) hp (show _ = ((p + a0 : Nat) : Int) from by rw [show ((p + a0 : Nat) : Int) = (p : Int) + a0 by omega]; exact w32_id (by omega) (by omega)))
end TEXT
