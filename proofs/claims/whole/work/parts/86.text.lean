/-! THE TEXT: the reference's E, whole -/
section TEXT
variable {I L : Fn} {f fed : Nat} {t : Nat → Int} {A : Nat → Nat → Prop}
/-- what ends the loop -/
theorem m_end {c d p o : Nat} {a b : Bool} {W T cm : List Int} {J : Fn} (hT : TXM I t fed) (hf : f < 6) (hc10 : c < 60) (hA : A 111 c) (hW : Wb W) (hc : MX f A I J) (h : MS f p (T ++ cm) (aS a ++ (oS b ++ W)) o J) (hl : (T ++ cm).length + (aS a ++ (oS b ++ W)).length ≤ 100) (h38 : t p ≠ 38) (h124 : t p ≠ 124) : ∃ J1, CallD (d + 4) 167 [vr 92, vi 124] (S J L) = some (none, S J1 L) ∧ (MX f A I (up J1 111 c (100 * f + ((T ++ ((cm ++ andL a) ++ orL b)).length : Nat) : Int)) ∧ (MS f p (T ++ ((cm ++ andL a) ++ orL b)) W o J1 ∧ MX f A I J1)) := by
  obtain ⟨J1, s1, s2, s3⟩ := m_settle (d := d + 2) (L := L) (s := 124) hf hc h hl
  rw [sett_or hW] at s3
  refine ⟨J1, s1, s2.cla _ (by omega) hA, ?_, s2⟩
  have : (T ++ cm) ++ (andL a ++ orL b) = T ++ ((cm ++ andL a) ++ orL b) := by simp only [List.append_assoc]
  rw [← this]
  exact s3
theorem m_one {c : Nat} (hT : TXM I t fed) (hf : f < 6) (hc10 : c < 60) (hA : A 111 c) : ∀ r : Nat, r ≤ 4 → MOne t fed I L f A c r
  | 0, _ => by
    intro d p o T W J hc h hp hl ho hr
    have sg := m_next (d := d + 3) (L := L) hT hc h.1
    have f100 := hT.1.2.2
    unfold pOne
    by_cases e33 : t p = 33
    · rw [if_pos e33]
      rw [(nx_eq hT.1 (by decide)).mpr e33] at sg
      refine ⟨fun z => absurd (show false = true from z) (by decide), fun _ => ⟨J, ?_, hc, h.1⟩⟩
      exact (y162_22_7 sg (by decide) rfl h.2.2.2.2.2 (by omega))
    rw [if_neg e33]
    by_cases e40 : t p = 40
    · rw [if_pos e40]
      rw [(nx_eq hT.1 (by decide)).mpr e40] at sg
      refine ⟨fun z => absurd (show false = true from z) (by decide), fun _ => ⟨J, ?_, hc, h.1⟩⟩
      exact (y162_22_11 sg (by decide) (by decide) rfl h.2.2.2.2.2 (by omega))
    rw [if_neg e40]
    have n33 : ¬ nx t fed p = 33 := fun z => e33 ((nx_eq hT.1 (by decide)).mp z)
    have n40 : ¬ nx t fed p = 40 := fun z => e40 ((nx_eq hT.1 (by decide)).mp z)
    obtain ⟨q1, q2⟩ := m_test (d := d) (L := L) hT hf hc h hp hl ⟨ho, by omega⟩
    refine ⟨fun z => ?_, fun z => ?_⟩
    · obtain ⟨J', z1, z2⟩ := q1 z
      refine ⟨J', ?_, z2⟩
      exact (y162_22_9 sg (by decide) n33 n40 z1 (by decide))
    · obtain ⟨J', z1, z2⟩ := q2 z
      refine ⟨J', ?_, z2⟩
      exact (y162_22_8 sg (by decide) n33 n40 z1 rfl)
  | r + 1, hr4 => by
    have ihr := m_one hT hf hc10 hA r (by omega)
    intro d p o T W J hc h hp hl ho hr
    have sg := m_next (d := d + 3) (L := L) hT hc h.1
    have f100 := hT.1.2.2
    have h4 := h.2.2.2.1
    have h6 := h.2.2.2.2.2
    have tt := hT.1
    have push : ∀ x : Int, MX f A I (up (up (up (up J 92 30 ((o + 1 : Nat) : Int)) 113 W.length x) 92 29 ((W.length + 1 : Nat) : Int)) 92 18 ((p + 1 : Nat) : Int)) ∧ MS f (p + 1) T (x :: W) (o + 1) (up (up (up (up J 92 30 ((o + 1 : Nat) : Int)) 113 W.length x) 92 29 ((W.length + 1 : Nat) : Int)) 92 18 ((p + 1 : Nat) : Int)) := fun x => ⟨(((hc.reg (j := 30) _ (by omega)).stk (j := W.length) x).reg (j := 29) _ (by omega)).reg (j := 18) _ (by omega), ((h.opn (o + 1)).push x).at (p + 1)⟩
    have r29 : (up J 92 30 ((o + 1 : Nat) : Int)) 92 29 = (W.length : Nat) := by rw [up_nj (by decide)]; exact h4
    unfold pOne
    by_cases e33 : t p = 33
    · rw [if_pos e33]
      have hlt := tt.lt (p := p) (by rw [e33]; decide)
      rw [(nx_eq hT.1 (by decide)).mpr e33] at sg
      have r18 : (up (up (up J 92 30 ((o + 1 : Nat) : Int)) 113 W.length 33) 92 29 ((W.length + 1 : Nat) : Int)) 92 18 = p := by rw [up_nj (by decide), up_ne (by decide), up_nj (by decide)]; exact h.1
      obtain ⟨c1, s1⟩ := push 33
      have start : y162_22 (CallD (d + 4)) c 1 J L = y162_22 (CallD (d + 4)) c 1 (up (up (up (up J 92 30 ((o + 1 : Nat) : Int)) 113 W.length 33) 92 29 ((W.length + 1 : Nat) : Int)) 92 18 ((p + 1 : Nat) : Int)) L := by
        exact (y162_22_6 sg (by decide) rfl h6 (by omega) (w32_s (p := o) (by omega)) r29 (by omega) (w32_s (by omega)) r18 (w32_s (by omega)))
      have w0 : who (33 :: W) = (-1 :: (who W).1, (who W).2) := if_pos rfl
      have one := ihr d (p + 1) (o + 1) T (33 :: W) _ c1 s1 (by omega) (by simp only [List.length_cons]; omega) (by rw [w0]; simp only [List.length_cons]; omega) (by omega)
      rw [w0] at one
      cases hox : (pOne t r (p + 1)).1 with
      | true =>
        rw [if_pos rfl]
        refine ⟨fun _ => ?_, fun z => absurd (show true = false from z) (by decide)⟩
        obtain ⟨J', z1, z2, z3⟩ := one.1 hox
        refine ⟨J', start.trans z1, z2, ?_⟩
        simp only [List.length_cons] at z3
        rw [show o + 1 - ((who W).1.length + 1) = o - (who W).1.length by omega] at z3
        have e : (T ++ (pOne t r (p + 1)).2.2) ++ (-1 :: (who W).1) = (T ++ ((pOne t r (p + 1)).2.2 ++ [-1])) ++ (who W).1 := by simp only [List.append_assoc, List.singleton_append]
        rw [← e]
        exact z3
      | false =>
        rw [if_neg (by decide)]
        refine ⟨fun z => absurd (show false = true from z) (by decide), fun _ => ?_⟩
        obtain ⟨J', z1, z2⟩ := one.2 hox
        exact ⟨J', start.trans z1, z2⟩
    rw [if_neg e33]
    by_cases e40 : t p = 40
    · rw [if_pos e40]
      have hlt := tt.lt (p := p) (by rw [e40]; decide)
      rw [(nx_eq hT.1 (by decide)).mpr e40] at sg
      have r18 : (up (up (up J 92 30 ((o + 1 : Nat) : Int)) 113 W.length 40) 92 29 ((W.length + 1 : Nat) : Int)) 92 18 = p := by rw [up_nj (by decide), up_ne (by decide), up_nj (by decide)]; exact h.1
      obtain ⟨c1, s1⟩ := push 40
      have start : y162_22 (CallD (d + 4)) c 1 J L = y162_22 (CallD (d + 4)) c 1 (up (up (up (up J 92 30 ((o + 1 : Nat) : Int)) 113 W.length 40) 92 29 ((W.length + 1 : Nat) : Int)) 92 18 ((p + 1 : Nat) : Int)) L := by
        exact (y162_22_10 sg (by decide) (by decide) rfl h6 (by omega) (w32_s (p := o) (by omega)) r29 (by omega) (w32_s (by omega)) r18 (w32_s (by omega)))
      have w0 : who (40 :: W) = ([], 40 :: W) := if_neg (by decide)
      have one := ihr d (p + 1) (o + 1) T (40 :: W) _ c1 s1 (by omega) (by simp only [List.length_cons]; omega) (by rw [w0]; exact Nat.zero_le _) (by omega)
      rw [w0] at one
      have hg : ∀ q, q ≤ fed → GP fed q (pOne t r q) := fun q hq => GP_one tt r q hq
      have gE := GP_eith tt hg (p := p + 1) (by omega)
      cases hox : (pOne t r (p + 1)).1 with
      | false =>
        have pe : pEith (pOne t r) t (p + 1) = (false, (pOne t r (p + 1)).2.1, []) := if_neg (by rw [hox]; decide)
        rw [pe, if_neg (fun z => absurd (show false = true from z) (by decide))]
        refine ⟨fun z => absurd (show false = true from z) (by decide), fun _ => ?_⟩
        obtain ⟨J', z1, z2⟩ := one.2 hox
        exact ⟨J', start.trans z1, z2⟩
      | true =>
        have pe : pEith (pOne t r) t (p + 1) = pLoop (pOne t r) t 100 (pOne t r (p + 1)).2.1 false (pOne t r (p + 1)).2.2 := if_pos hox
        rw [pe] at gE ⊢
        obtain ⟨J1, f1, f2, f3⟩ := one.1 hox
        have g := hg (p + 1) (by omega)
        have gg := g.2 hox
        have L0 := LP_start g hox
        have f4 : MS f (pOne t r (p + 1)).2.1 (T ++ (pOne t r (p + 1)).2.2) (aS false ++ (oS false ++ (40 :: W))) (o + 1) J1 := by
          rw [List.append_nil] at f3
          exact f3
        have lp := m_loop (d := d) (p0 := p + 1) (W := 40 :: W) (op := o + 1) (T := T) hT hf (.inr ⟨W, rfl⟩) ihr hg (by omega) (by simp only [List.length_cons]; omega) 100 (pOne t r (p + 1)).2.1 false false (pOne t r (p + 1)).2.2 J1 (by omega) f2 f4 (by
          rw [show (pOne t r (p + 1)).2.2 ++ andL false = (pOne t r (p + 1)).2.2 from List.append_nil _]
          exact L0)
        rw [show (pOne t r (p + 1)).2.2 ++ andL false = (pOne t r (p + 1)).2.2 from List.append_nil _] at lp
        generalize hx : pLoop (pOne t r) t 100 (pOne t r (p + 1)).2.1 false (pOne t r (p + 1)).2.2 = x at *
        cases hxo : x.1 with
        | false =>
          rw [if_neg (by decide)]
          refine ⟨fun z => absurd (show false = true from z) (by decide), fun _ => ?_⟩
          obtain ⟨J', z1, z2⟩ := lp.2 hxo
          exact ⟨J', start.trans (f1.trans z1), z2⟩
        | true =>
          rw [if_pos rfl]
          obtain ⟨J2, o', a', cm', z1, z2, z3, z4, z5, z6⟩ := lp.1 hxo
          obtain ⟨x1, x2, x3, x4⟩ := gE.2 hxo
          have xl := congrArg List.length z4
          simp only [List.length_append] at xl
          have al : (andL a').length = bif a' then 1 else 0 := by cases a' <;> rfl
          have ol : (orL o').length = bif o' then 1 else 0 := by cases o' <;> rfl
          have wl := aS_len a' o' (40 :: W)
          simp only [List.length_cons] at wl
          obtain ⟨J3, e1, e2, e3, e4⟩ := m_end (d := d) (c := c) (L := L) hT hf hc10 hA (.inr ⟨W, rfl⟩) z2 z3 (by rw [List.length_append, wl]; have := gE.1; omega) z5 z6
          rw [z4] at e2 e3
          have sg2 := m_next (d := d + 3) (L := L) hT z2 z3.1
          have n38 : ¬ nx t fed x.2.1 = 38 := fun z => z5 ((nx_eq hT.1 (by decide)).mp z)
          have n124 : ¬ nx t fed x.2.1 = 124 := fun z => z6 ((nx_eq hT.1 (by decide)).mp z)
          have i28 := e3.2.1
          have i29 : J3 92 29 = ((W.length + 1 : Nat) : Int) := e3.2.2.2.1
          have i30 := e3.2.2.2.2.2
          have i18 := e3.1
          have ci : ((c : Nat) : Int).toNat = c := Int.toNat_natCast c
          by_cases e41 : t x.2.1 = 41
          · rw [if_pos e41]
            refine ⟨fun _ => ?_, fun z => absurd (show true = false from z) (by decide)⟩
            have hlt2 := tt.lt (p := x.2.1) (by rw [e41]; decide)
            rw [(nx_eq hT.1 (by decide)).mpr e41] at sg2
            -- the ( is passed
            have s5 : MS f x.2.1 (T ++ x.2.2) W (o + 1) (up (up J3 111 c (100 * f + ((T ++ x.2.2).length : Nat) : Int)) 92 29 (W.length : Nat)) := (e3.upk ⟨by decide, by decide, by decide⟩ _).pop
            have s6 := (s5.opn o).at (x.2.1 + 1)
            have c6 : MX f A I (up (up (up (up J3 111 c (100 * f + ((T ++ x.2.2).length : Nat) : Int)) 92 29 (W.length : Nat)) 92 30 (o : Nat)) 92 18 ((x.2.1 + 1 : Nat) : Int)) := ((e2.reg (j := 29) _ (by omega)).reg (j := 30) _ (by omega)).reg (j := 18) _ (by omega)
            obtain ⟨J4, w1, w2, w3⟩ := m_whole (d := d + 2) (L := L) hf c6 s6 (by rw [List.length_append]; omega) ⟨ho, by omega⟩
            refine ⟨J4, start.trans (f1.trans (z1.trans ?_)), w2, w3⟩
            exact (y162_22_2 sg2 rfl (by decide) (by decide) e1 i28 (by omega) i29 (by omega) rfl (show _ = ((W.length : Nat) : Int) from by rw [show ((W.length + 1 : Nat) : Int) - 1 = (W.length : Int) by omega]; exact w32_id (by omega) (by omega)) i30 (show _ = ((o : Nat) : Int) from by rw [show ((o + 1 : Nat) : Int) - 1 = (o : Int) by omega]; exact w32_id (by omega) (by omega)) i18 (w32_s (by omega)) w1)
          · rw [if_neg e41]
            refine ⟨fun z => absurd (show false = true from z) (by decide), fun _ => ?_⟩
            have n41 : ¬ nx t fed x.2.1 = 41 := fun z => e41 ((nx_eq hT.1 (by decide)).mp z)
            refine ⟨_, start.trans (f1.trans (z1.trans ?_)), e2, (up_ne (by decide)).trans i18⟩
            exact (y162_22_3 sg2 rfl n38 n124 e1 i28 (by omega) i29 (by omega) n41)
    rw [if_neg e40]
    have n33 : ¬ nx t fed p = 33 := fun z => e33 ((nx_eq hT.1 (by decide)).mp z)
    have n40 : ¬ nx t fed p = 40 := fun z => e40 ((nx_eq hT.1 (by decide)).mp z)
    obtain ⟨q1, q2⟩ := m_test (d := d) (L := L) hT hf hc h hp hl ⟨ho, by omega⟩
    refine ⟨fun z => ?_, fun z => ?_⟩
    · obtain ⟨J', z1, z2⟩ := q1 z
      refine ⟨J', ?_, z2⟩
      exact (y162_22_9 sg (by decide) n33 n40 z1 (by decide))
    · obtain ⟨J', z1, z2⟩ := q2 z
      refine ⟨J', ?_, z2⟩
      exact (y162_22_8 sg (by decide) n33 n40 z1 rfl)
/-- signs so far, without the stack -/
def MTx (f p : Nat) (T : List Int) (J : Fn) : Prop := J 92 18 = p ∧ (J 92 28 = 100 * f + T.length ∧ ∀ i, i < T.length → J 112 (100 * f + i) = mt (T.getD i 0))
theorem MS.mt {p o : Nat} {T W : List Int} {J : Fn} (h : MS f p T W o J) : MTx f p T J := ⟨h.1, h.2.1, h.2.2.1⟩
/-- takesE -/
theorem m_takesE {c d p : Nat} {T : List Int} {J : Fn} (hT : TXM I t fed) (hf : f < 6) (hc10 : c < 60) (hA : A 110 c ∧ A 111 c) (hc : MX f A I J) (h : MTx f p T J) (hp : p ≤ fed) (hl : T.length ≤ p) : ((pEith (pOne t 4) t p).1 = true → ∃ J', CallD (d + 5) 162 [vr 92, vi c] (S J L) = some (some (vi 1), S J' L) ∧ (MX f A I J' ∧ (MTx f (pEith (pOne t 4) t p).2.1 (T ++ (pEith (pOne t 4) t p).2.2) J' ∧ (J' 110 c = 100 * f + (T.length : Nat) ∧ (J' 111 c = 100 * f + ((T ++ (pEith (pOne t 4) t p).2.2).length : Nat) ∧ ∀ k j, (107 ≤ k ∧ k ≤ 111) → j ≠ c ∨ k < 110 → J' k j = J k j))))) ∧ ((pEith (pOne t 4) t p).1 = false → ∃ J', CallD (d + 5) 162 [vr 92, vi c] (S J L) = some (some (vi 0), S J' L) ∧ (MX f A I J' ∧ J' 92 18 = (pEith (pOne t 4) t p).2.1)) := by
  have tt := hT.1
  have f100 := tt.2.2
  have c0 : MX f A I (up (up (up J 92 29 0) 92 30 0) 110 c (100 * f + (T.length : Nat))) := ((hc.reg (j := 29) 0 (by omega)).reg (j := 30) 0 (by omega)).cla _ (by omega) hA.1
  have h0 : MS f p T [] 0 (up (up (up J 92 29 0) 92 30 0) 110 c (100 * f + (T.length : Nat))) := by
    obtain ⟨h1, h2, h3⟩ := h
    refine ⟨?_, ?_, fun i hi => ?_, ?_, trivial, ?_⟩
    · rw [up_ne (by decide), up_nj (by decide), up_nj (by decide)]; exact h1
    · rw [up_ne (by decide), up_nj (by decide), up_nj (by decide)]; exact h2
    · rw [up_ne (by decide), up_ne (by decide), up_ne (by decide)]; exact h3 i hi
    · rw [up_ne (by decide), up_nj (by decide)]; exact upx _ _ _ _
    · rw [up_ne (by decide)]; exact upx _ _ _ _
  have start : CallD (d + 5) 162 [vr 92, vi c] (S J L) = y162_22 (CallD (d + 4)) c 1 (up (up (up J 92 29 0) 92 30 0) 110 c (100 * f + (T.length : Nat))) L := by
    exact (e162_1 h.2.1 (by omega))
  -- a narrower frame, from the state at which the reading begins
  have tm : TXM (up (up (up J 92 29 0) 92 30 0) 110 c (100 * f + (T.length : Nat))) t fed := ⟨tt, (c0.out (k := 92) (j := 17) (by omega)).trans hT.2.1, fun q hq => (c0.out (k := 106) (j := q) (by omega)).trans (hT.2.2 q hq)⟩
  generalize hJ0 : (up (up (up J 92 29 0) 92 30 0) 110 c (100 * f + (T.length : Nat))) = J0 at *
  have cA : ∀ {K : Fn}, MX f (fun k j => k = 111 ∧ j = c) J0 K → MX f A I K := fun hK => c0.trans hK (fun k j z => by rw [z.1, z.2]; exact hA.2)
  have one4 := m_one (A := fun k j => k = 111 ∧ j = c) (c := c) (L := L) tm hf hc10 ⟨rfl, rfl⟩ 4 (Nat.le_refl _)
  have cells : ∀ {K : Fn}, MX f (fun k j => k = 111 ∧ j = c) J0 K → K 110 c = 100 * f + (T.length : Nat) ∧ ∀ k j, (107 ≤ k ∧ k ≤ 111) → j ≠ c ∨ k < 110 → K k j = J k j := by
    intro K hK
    refine ⟨?_, fun k j h1 h2 => ?_⟩
    · rw [hK 110 c (by omega) (by omega) (fun z => by have := z.2.1; omega) (by omega), ← hJ0]
      exact upx _ _ _ _
    · rw [hK k j (by omega) (by omega) (fun z => by have := z.2; omega) (by omega), ← hJ0, up_eq, if_neg (by omega), up_ne (by omega), up_ne (by omega)]
  have one := one4 d p 0 T [] J0 (MX.refl _ _ _) h0 hp (by simp only [List.length_nil]; omega) (Nat.zero_le _) (by omega)
  have hg : ∀ q, q ≤ fed → GP fed q (pOne t 4 q) := fun q hq => GP_one tt 4 q hq
  have gE := GP_eith tt hg hp
  cases hox : (pOne t 4 p).1 with
  | false =>
    have pe : pEith (pOne t 4) t p = (false, (pOne t 4 p).2.1, []) := if_neg (by rw [hox]; decide)
    rw [pe]
    refine ⟨fun z => absurd (show false = true from z) (by decide), fun _ => ?_⟩
    obtain ⟨J', z1, z2, z3⟩ := one.2 hox
    exact ⟨J', start.trans z1, cA z2, z3⟩
  | true =>
    have pe : pEith (pOne t 4) t p = pLoop (pOne t 4) t 100 (pOne t 4 p).2.1 false (pOne t 4 p).2.2 := if_pos hox
    rw [pe] at gE ⊢
    obtain ⟨J1, f1, f2, f3⟩ := one.1 hox
    have g := hg p hp
    have gg := g.2 hox
    have L0 := LP_start g hox
    have f4 : MS f (pOne t 4 p).2.1 (T ++ (pOne t 4 p).2.2) (aS false ++ (oS false ++ [])) 0 J1 := by
      have f3' : MS f (pOne t 4 p).2.1 ((T ++ (pOne t 4 p).2.2) ++ []) [] 0 J1 := f3
      rw [List.append_nil] at f3'
      exact f3'
    have lp := m_loop (d := d) (p0 := p) (W := []) (op := 0) (T := T) tm hf (.inl rfl) one4 hg (by omega) (by simp only [List.length_nil]; omega) 100 (pOne t 4 p).2.1 false false (pOne t 4 p).2.2 J1 (by omega) f2 f4 (by
      rw [show (pOne t 4 p).2.2 ++ andL false = (pOne t 4 p).2.2 from List.append_nil _]
      exact L0)
    rw [show (pOne t 4 p).2.2 ++ andL false = (pOne t 4 p).2.2 from List.append_nil _] at lp
    generalize hx : pLoop (pOne t 4) t 100 (pOne t 4 p).2.1 false (pOne t 4 p).2.2 = x at *
    refine ⟨fun hxo => ?_, fun hxo => ?_⟩
    · obtain ⟨J2, o', a', cm', z1, z2, z3, z4, z5, z6⟩ := lp.1 hxo
      obtain ⟨x1, x2, x3, x4⟩ := gE.2 hxo
      have xl := congrArg List.length z4
      simp only [List.length_append] at xl
      have al : (andL a').length = bif a' then 1 else 0 := by cases a' <;> rfl
      have ol : (orL o').length = bif o' then 1 else 0 := by cases o' <;> rfl
      have wl := aS_len a' o' []
      simp only [List.length_nil] at wl
      obtain ⟨J3, e1, e2, e3, e4⟩ := m_end (d := d) (c := c) (A := fun k j => k = 111 ∧ j = c) (L := L) tm hf hc10 ⟨rfl, rfl⟩ (.inl rfl) z2 z3 (by rw [List.length_append, wl]; have := gE.1; omega) z5 z6
      rw [z4] at e2 e3
      have sg2 := m_next (d := d + 3) (L := L) tm z2 z3.1
      have n38 : ¬ nx t fed x.2.1 = 38 := fun z => z5 ((nx_eq tt (by decide)).mp z)
      have n124 : ¬ nx t fed x.2.1 = 124 := fun z => z6 ((nx_eq tt (by decide)).mp z)
      obtain ⟨k1, k2⟩ := cells e2
      have e5 : MS f x.2.1 (T ++ x.2.2) [] 0 (up J3 111 c (100 * f + ((T ++ x.2.2).length : Nat) : Int)) := e3.upk ⟨by decide, by decide, by decide⟩ _
      refine ⟨_, start.trans (f1.trans (z1.trans ?_)), cA e2, e5.mt, k1, upx _ _ _ _, k2⟩
      exact (y162_22_4 sg2 rfl n38 n124 e1 e3.2.1 (by omega) e3.2.2.2.1 rfl)
    · obtain ⟨J', z1, z2, z3⟩ := lp.2 hxo
      exact ⟨J', start.trans (f1.trans z1), cA z2, z3⟩
end TEXT
