/-! THE TEXT: the reference's E -/
section TEXT
variable {I L : Fn} {f fed : Nat} {t : Nat → Int} {A : Nat → Nat → Prop}
theorem m_test {d p o : Nat} {T W : List Int} {J : Fn} (hT : TXM I t fed) (hf : f < 6) (hc : MX f A I J) (h : MS f p T W o J) (hp : p ≤ fed) (hl : T.length + W.length ≤ p) (ho : (who W).1.length ≤ o ∧ o ≤ 1000) : ((pTest t p).1 = true → ∃ J', CallD (d + 4) 163 [vr 92] (S J L) = some (some (vi 1), S J' L) ∧ (MX f A I J' ∧ MS f (pTest t p).2.1 ((T ++ (pTest t p).2.2) ++ (who W).1) (who W).2 (o - (who W).1.length) J')) ∧ ((pTest t p).1 = false → ∃ J', CallD (d + 4) 163 [vr 92] (S J L) = some (some (vi 0), S J' L) ∧ (MX f A I J' ∧ J' 92 18 = (pTest t p).2.1)) := by
  have tt := hT.1
  have f100 := tt.2.2
  have s0 := m_next (d := d + 2) (L := L) hT hc h.1
  have l0 := m_place (d := d + 2) (J := J) (L := L) (x := nx t fed p)
  rw [nx_lix hT.1] at l0
  have lr := lix_rng (t p)
  unfold pTest
  by_cases e1 : lix (t p) < 0
  · rw [if_pos e1]
    refine ⟨fun z => absurd (show false = true from z) (by decide), fun _ => ⟨J, ?_, hc, h.1⟩⟩
    exact (e163_4 s0 l0 (by omega))
  rw [if_neg e1]
  have hl1 := tt.lt (lix_nz e1)
  have c1 : MX f A I (up J 92 18 ((p + 1 : Nat) : Int)) := hc.reg (j := 18) _ (by omega)
  have s1 := m_next (d := d + 2) (L := L) (p := p + 1) hT c1 (upx _ _ _ _)
  have sr := six_rng (t (p + 1))
  by_cases e2 : six (t (p + 1)) < 0
  · rw [if_pos e2]
    have nin : ¬ (60 ≤ nx t fed (p + 1) ∧ nx t fed (p + 1) ≤ 62) := fun z => by
      have := (nx_rng hT.1 (p := p + 1) (a := 60) (b := 62) (by decide)).mp z
      unfold six at e2
      split at e2
      · omega
      · split at e2
        · omega
        · split at e2
          · omega
          · omega
    refine ⟨fun z => absurd (show false = true from z) (by decide), fun _ => ⟨_, ?_, c1, upx _ _ _ _⟩⟩
    exact (e163_3 s0 l0 (by omega) h.1 (w32_s (by omega)) s1 (mI0 nin) rfl)
  rw [if_neg e2]
  have hl2 := tt.lt (six_nz e2)
  have sx : six (t (p + 1)) = t (p + 1) - 60 ∧ (60 ≤ t (p + 1) ∧ t (p + 1) ≤ 62) := by
    unfold six at e2 ⊢
    split
    · omega
    · split
      · omega
      · split
        · omega
        · next a b c => rw [if_neg a, if_neg b, if_neg c] at e2; omega
  have n1 := nx_pos hT.1 (p := p + 1) (by omega)
  rw [n1] at s1
  have c2 : MX f A I (up (up J 92 18 ((p + 1 : Nat) : Int)) 92 18 ((p + 2 : Nat) : Int)) := c1.reg (j := 18) _ (by omega)
  have h2 := (h.at (p + 1)).at (p + 2)
  have in1 := mI1 (d := d + 2) (I := up J 92 18 ((p + 1 : Nat) : Int)) (L := L) sx.2
  by_cases e3 : (pNum t (p + 2)).1 < 0
  · rw [if_pos e3]
    obtain ⟨g1, g2⟩ := m_num0 (d := d) (L := L) (p := p + 2) hT c2 (upx _ _ _ _) e3
    refine ⟨fun z => absurd (show false = true from z) (by decide), fun _ => ⟨_, ?_, c2, ?_⟩⟩
    · exact (e163_2 s0 l0 (by omega) h.1 (w32_s (by omega)) s1 in1 (by decide) (upx _ _ _ _) (w32_s (p := p + 1) (by omega)) g1 rfl)
    · show _ = (((pNum t (p + 2)).2 : Nat) : Int)
      rw [g2]
      exact upx _ _ _ _
  rw [if_neg e3]
  have pn := pNum_ok tt (p := p + 2) (by omega)
  obtain ⟨J3, g1, g2, g3, g4, _, g5⟩ := m_num1 (d := d) (L := L) (p := p + 2) hT c2 (upx _ _ _ _) (by omega) e3
  have h3 := g5 _ _ _ _ _ h2
  obtain ⟨J4, q1, q2, q3⟩ := m_put (d := d + 2) (L := L) (c := (lix (t p) * 3 + six (t (p + 1))) * 100 + (pNum t (p + 2)).1) hf g4 h3 (by omega)
  have wl := who_len W
  obtain ⟨J5, z1, z2, z3⟩ := m_whole (d := d + 1) (L := L) hf q2 q3 (by rw [List.length_append]; show T.length + 1 + W.length ≤ 100; omega) ho
  refine ⟨fun _ => ⟨J5, ?_, z2, z3⟩, fun z => absurd (show true = false from z) (by decide)⟩
  have hm : mt ((lix (t p) * 3 + six (t (p + 1))) * 100 + (pNum t (p + 2)).1) = 1000 * lix (t p) + 100 * (t (p + 1) - 60) + (pNum t (p + 2)).1 := by
    unfold mt
    rw [if_neg (by omega), if_neg (by omega), if_neg (by omega)]
    omega
  rw [hm] at q1
  exact (e163_1 s0 l0 (by omega) h.1 (w32_s (by omega)) s1 in1 (by decide) (upx _ _ _ _) (w32_s (p := p + 1) (by omega)) g1 (by decide) (w32_id (by omega) (by omega)) (w32_id (by omega) (by omega)) (w32_id (by omega) (by omega)) (w32_id (by omega) (by omega)) g2 (w32_id (by omega) (by omega)) q1 z1)
/-- as the class's readOne -/
def MOne (t : Nat → Int) (fed : Nat) (I L : Fn) (f : Nat) (A : Nat → Nat → Prop) (c r : Nat) : Prop := ∀ (d p o : Nat) (T W : List Int) (J : Fn), MX f A I J → MS f p T W o J → p ≤ fed → T.length + W.length ≤ p → (who W).1.length ≤ o → o + r = 4 → ((pOne t r p).1 = true → ∃ J', y162_22 (CallD (d + 4)) c 1 J L = y162_22 (CallD (d + 4)) c 0 J' L ∧ (MX f A I J' ∧ MS f (pOne t r p).2.1 ((T ++ (pOne t r p).2.2) ++ (who W).1) (who W).2 (o - (who W).1.length) J')) ∧ ((pOne t r p).1 = false → ∃ J', y162_22 (CallD (d + 4)) c 1 J L = some (some (vi 0), S J' L) ∧ (MX f A I J' ∧ J' 92 18 = (pOne t r p).2.1))
def andL (b : Bool) : List Int := bif b then [-2] else []
def oS (o : Bool) : List Int := bif o then [124] else []
def aS (b : Bool) : List Int := bif b then [38] else []
/-- where an operator may begin: nothing, or an open ( -/
def Wb (W : List Int) : Prop := W = [] ∨ ∃ r, W = 40 :: r
theorem sett_b {s : Int} {W : List Int} (h : Wb W) : sett s W = ([], W) := by
  rcases h with h | ⟨r, h⟩
  · subst h; rfl
  · subst h
    show (if (40 : Int) = 38 then _ else if (40 : Int) = 124 ∧ s ≠ 38 then _ else _) = _
    rw [if_neg (by decide), if_neg (by intro z; exact absurd z.1 (by decide))]
theorem sett_and {W : List Int} (h : Wb W) (a o : Bool) : sett 38 (aS a ++ (oS o ++ W)) = (andL a, oS o ++ W) := by
  have h0 : sett 38 (oS o ++ W) = ([], oS o ++ W) := by
    cases o
    · exact sett_b h
    · show (if (124 : Int) = 38 then _ else if (124 : Int) = 124 ∧ (38 : Int) ≠ 38 then _ else _) = _
      rw [if_neg (by decide), if_neg (by intro z; exact z.2 rfl)]
      rfl
  cases a
  · exact h0
  · show (if (38 : Int) = 38 then _ else _) = _
    rw [if_pos rfl]
    show (-2 :: (sett 38 (oS o ++ W)).1, (sett 38 (oS o ++ W)).2) = _
    rw [h0]
    rfl
theorem sett_or {W : List Int} (h : Wb W) (a o : Bool) : sett 124 (aS a ++ (oS o ++ W)) = (andL a ++ orL o, W) := by
  have h0 : sett 124 (oS o ++ W) = (orL o, W) := by
    cases o
    · exact sett_b h
    · show (if (124 : Int) = 38 then _ else if (124 : Int) = 124 ∧ (124 : Int) ≠ 38 then _ else _) = _
      rw [if_neg (by decide), if_pos ⟨rfl, by decide⟩]
      show (-3 :: (sett 124 W).1, (sett 124 W).2) = _
      rw [sett_b h]
      rfl
  cases a
  · exact h0
  · show (if (38 : Int) = 38 then _ else _) = _
    rw [if_pos rfl]
    show (-2 :: (sett 124 (oS o ++ W)).1, (sett 124 (oS o ++ W)).2) = _
    rw [h0]
    rfl
theorem aS_len (a o : Bool) (W : List Int) : (aS a ++ (oS o ++ W)).length = (bif a then 1 else 0) + (bif o then 1 else 0) + W.length := by
  cases a <;> cases o <;> simp [aS, oS] <;> omega
/-- the loop of the class's readEither, over an operand -/
theorem m_loop {c r d p0 : Nat} {W : List Int} {op : Nat} {T : List Int} (hT : TXM I t fed) (hf : f < 6) (hW : Wb W) (h1 : MOne t fed I L f A c r) (hg : ∀ p, p ≤ fed → GP fed p (pOne t r p)) (hr : op + r = 4) (hT0 : T.length + W.length ≤ p0) : ∀ (n p : Nat) (o a : Bool) (cm : List Int) (J : Fn), 101 ≤ n + p → MX f A I J → MS f p (T ++ cm) (aS a ++ (oS o ++ W)) op J → LPO fed p0 p o (cm ++ andL a) → ((pLoop (pOne t r) t n p o (cm ++ andL a)).1 = true → ∃ (J' : Fn) (o' a' : Bool) (cm' : List Int), y162_22 (CallD (d + 4)) c 0 J L = y162_22 (CallD (d + 4)) c 0 J' L ∧ (MX f A I J' ∧ (MS f (pLoop (pOne t r) t n p o (cm ++ andL a)).2.1 (T ++ cm') (aS a' ++ (oS o' ++ W)) op J' ∧ ((cm' ++ andL a') ++ orL o' = (pLoop (pOne t r) t n p o (cm ++ andL a)).2.2 ∧ (t (pLoop (pOne t r) t n p o (cm ++ andL a)).2.1 ≠ 38 ∧ t (pLoop (pOne t r) t n p o (cm ++ andL a)).2.1 ≠ 124))))) ∧ ((pLoop (pOne t r) t n p o (cm ++ andL a)).1 = false → ∃ J', y162_22 (CallD (d + 4)) c 0 J L = some (some (vi 0), S J' L) ∧ (MX f A I J' ∧ J' 92 18 = (pLoop (pOne t r) t n p o (cm ++ andL a)).2.1))
  | 0, p, o, a, cm, J, hn, hc, h, hl => by
    have := (hT.1).2.2
    have := hl.1
    omega
  | n + 1, p, o, a, cm, J, hn, hc, h, hl => by
    have tt := hT.1
    have f100 := tt.2.2
    have hl1 := hl.1
    have hl2 := hl.2.1
    rw [List.length_append] at hl2
    have wl := aS_len a o W
    have sg := m_next (d := d + 3) (L := L) hT hc h.1
    have abnd : ((andL a).length : Int) = bif a then 1 else 0 := by cases a <;> rfl
    have total : (T ++ cm).length + (aS a ++ (oS o ++ W)).length ≤ p := by
      rw [List.length_append, wl]
      have hla : (andL a).length = bif a then 1 else 0 := by cases a <;> rfl
      rw [hla] at hl2
      omega
    unfold pLoop
    by_cases e38 : t p = 38
    · rw [if_pos e38]
      have hlt := tt.lt (p := p) (by rw [e38]; decide)
      have n38 : nx t fed p = 38 := (nx_eq hT.1 (by decide)).mpr e38
      rw [n38] at sg
      obtain ⟨J1, s1, s2, s3⟩ := m_settle (d := d + 2) (L := L) (s := 38) hf hc h (by omega)
      rw [sett_and hW] at s3
      have s4 := (s3.push 38).at (p + 1)
      have c4 : MX f A I (up (up (up J1 113 (oS o ++ W).length 38) 92 29 (((oS o ++ W).length + 1 : Nat) : Int)) 92 18 ((p + 1 : Nat) : Int)) := ((s2.stk (j := (oS o ++ W).length) 38).reg (j := 29) _ (by omega)).reg (j := 18) _ (by omega)
      have w0 : who (38 :: (oS o ++ W)) = ([], 38 :: (oS o ++ W)) := if_neg (by decide)
      have ol : (oS o ++ W).length = (bif o then 1 else 0) + W.length := by cases o <;> simp [oS] <;> omega
      have one := h1 d (p + 1) op ((T ++ cm) ++ andL a) (38 :: (oS o ++ W)) _ c4 s4 (by omega) (by
        simp only [List.length_append, List.length_cons] at ol ⊢
        omega) (by rw [w0]; exact Nat.zero_le _) hr
      rw [w0] at one
      have start : y162_22 (CallD (d + 4)) c 0 J L = y162_22 (CallD (d + 4)) c 1 (up (up (up J1 113 (oS o ++ W).length 38) 92 29 (((oS o ++ W).length + 1 : Nat) : Int)) 92 18 ((p + 1 : Nat) : Int)) L := by
        have i1 : J1 92 29 = ((oS o ++ W).length : Nat) := s3.2.2.2.1
        have wlen : (oS o ++ W).length ≤ 100 := by rw [ol]; omega
        exact (y162_22_1 sg rfl rfl s1 i1 (by omega) (show _ = (((oS o ++ W).length + 1 : Nat) : Int) from by rw [show (((oS o ++ W).length + 1 : Nat) : Int) = ((oS o ++ W).length : Int) + 1 by omega]; exact w32_id (by omega) (by omega)) s3.1 (w32_s (by omega)))
      have g := hg (p + 1) (by omega)
      cases ho : (pOne t r (p + 1)).1 with
      | true =>
        rw [if_pos rfl]
        obtain ⟨J2, f1, f2, f3⟩ := one.1 ho
        have f4 : MS f (pOne t r (p + 1)).2.1 (T ++ ((cm ++ andL a) ++ (pOne t r (p + 1)).2.2)) (aS true ++ (oS o ++ W)) op J2 := by
          have : (((T ++ cm) ++ andL a) ++ (pOne t r (p + 1)).2.2) ++ [] = T ++ ((cm ++ andL a) ++ (pOne t r (p + 1)).2.2) := by
            simp only [List.append_nil, List.append_assoc]
          rw [← this]
          exact f3
        have L2 := LP_and hl g ho
        have gg := (g.2 ho).1
        have ih := m_loop (d := d) hT hf hW h1 hg hr hT0 n (pOne t r (p + 1)).2.1 o true ((cm ++ andL a) ++ (pOne t r (p + 1)).2.2) J2 (by omega) f2 f4 L2
        refine ⟨fun z => ?_, fun z => ?_⟩
        · obtain ⟨J', o', a', cm', z1, z2⟩ := ih.1 z
          exact ⟨J', o', a', cm', start.trans (f1.trans z1), z2⟩
        · obtain ⟨J', z1, z2⟩ := ih.2 z
          exact ⟨J', start.trans (f1.trans z1), z2⟩
      | false =>
        rw [if_neg (by decide)]
        obtain ⟨J2, f1, f2, f3⟩ := one.2 ho
        exact ⟨fun z => absurd (show false = true from z) (by decide), fun _ => ⟨J2, start.trans f1, f2, f3⟩⟩
    rw [if_neg e38]
    by_cases e124 : t p = 124
    · rw [if_pos e124]
      have hlt := tt.lt (p := p) (by rw [e124]; decide)
      have n124 : nx t fed p = 124 := (nx_eq hT.1 (by decide)).mpr e124
      rw [n124] at sg
      obtain ⟨J1, s1, s2, s3⟩ := m_settle (d := d + 2) (L := L) (s := 124) hf hc h (by omega)
      rw [sett_or hW] at s3
      have s4 := (s3.push 124).at (p + 1)
      have c4 : MX f A I (up (up (up J1 113 W.length 124) 92 29 ((W.length + 1 : Nat) : Int)) 92 18 ((p + 1 : Nat) : Int)) := ((s2.stk (j := W.length) 124).reg (j := 29) _ (by omega)).reg (j := 18) _ (by omega)
      have w0 : who (124 :: W) = ([], 124 :: W) := if_neg (by decide)
      have E1 := (LP_end hl).2 rfl
      have El : ((cm ++ andL a) ++ orL o).length + p0 ≤ p := E1.2.1
      have one := h1 d (p + 1) op ((T ++ cm) ++ (andL a ++ orL o)) (124 :: W) _ c4 s4 (by omega) (by
        simp only [List.length_append, List.length_cons] at El ⊢
        omega) (by rw [w0]; exact Nat.zero_le _) hr
      rw [w0] at one
      have start : y162_22 (CallD (d + 4)) c 0 J L = y162_22 (CallD (d + 4)) c 1 (up (up (up J1 113 W.length 124) 92 29 ((W.length + 1 : Nat) : Int)) 92 18 ((p + 1 : Nat) : Int)) L := by
        have i1 : J1 92 29 = (W.length : Nat) := s3.2.2.2.1
        exact (y162_22_5 sg rfl (by decide) rfl s1 i1 (by omega) (show _ = ((W.length + 1 : Nat) : Int) from by rw [show ((W.length + 1 : Nat) : Int) = (W.length : Int) + 1 by omega]; exact w32_id (by omega) (by omega)) s3.1 (w32_s (by omega)))
      have g := hg (p + 1) (by omega)
      cases ho : (pOne t r (p + 1)).1 with
      | true =>
        rw [if_pos rfl]
        obtain ⟨J2, f1, f2, f3⟩ := one.1 ho
        have f4 : MS f (pOne t r (p + 1)).2.1 (T ++ (((cm ++ andL a) ++ orL o) ++ (pOne t r (p + 1)).2.2)) (aS false ++ (oS true ++ W)) op J2 := by
          have : (((T ++ cm) ++ (andL a ++ orL o)) ++ (pOne t r (p + 1)).2.2) ++ [] = T ++ (((cm ++ andL a) ++ orL o) ++ (pOne t r (p + 1)).2.2) := by
            simp only [List.append_nil, List.append_assoc]
          rw [← this]
          exact f3
        have L2 := LP_or hl g ho
        have gg := (g.2 ho).1
        have ih := m_loop (d := d) hT hf hW h1 hg hr hT0 n (pOne t r (p + 1)).2.1 true false (((cm ++ andL a) ++ orL o) ++ (pOne t r (p + 1)).2.2) J2 (by omega) f2 f4 (by
          rw [show (((cm ++ andL a) ++ orL o) ++ (pOne t r (p + 1)).2.2) ++ andL false = ((cm ++ andL a) ++ orL o) ++ (pOne t r (p + 1)).2.2 from List.append_nil _]
          exact L2)
        rw [show (((cm ++ andL a) ++ orL o) ++ (pOne t r (p + 1)).2.2) ++ andL false = ((cm ++ andL a) ++ orL o) ++ (pOne t r (p + 1)).2.2 from List.append_nil _] at ih
        refine ⟨fun z => ?_, fun z => ?_⟩
        · obtain ⟨J', o', a', cm', z1, z2⟩ := ih.1 z
          exact ⟨J', o', a', cm', start.trans (f1.trans z1), z2⟩
        · obtain ⟨J', z1, z2⟩ := ih.2 z
          exact ⟨J', start.trans (f1.trans z1), z2⟩
      | false =>
        rw [if_neg (by decide)]
        obtain ⟨J2, f1, f2, f3⟩ := one.2 ho
        exact ⟨fun z => absurd (show false = true from z) (by decide), fun _ => ⟨J2, start.trans f1, f2, f3⟩⟩
    · rw [if_neg e124]
      exact ⟨fun _ => ⟨J, o, a, cm, rfl, hc, h, rfl, e38, e124⟩, fun z => absurd (show true = false from z) (by decide)⟩
end TEXT
