/-! THE TEXT: how the reference reads it -/
def nx (t : Nat → Int) (fed p : Nat) : Int := if p < fed then t p else -1
theorem nx_eq {t : Nat → Int} {fed p : Nat} {c : Int} (hT : TXT t fed) (hc : 1 ≤ c) : nx t fed p = c ↔ t p = c := by
  unfold nx
  split
  · exact Iff.rfl
  · have := hT.2.1 p (by omega)
    omega
theorem nx_rng {t : Nat → Int} {fed p : Nat} {a b : Int} (hT : TXT t fed) (ha : 1 ≤ a) : (a ≤ nx t fed p ∧ nx t fed p ≤ b) ↔ (a ≤ t p ∧ t p ≤ b) := by
  unfold nx
  split
  · exact Iff.rfl
  · have := hT.2.1 p (by omega)
    omega
theorem nx_pos {t : Nat → Int} {fed p : Nat} (hT : TXT t fed) (h : 1 ≤ t p) : nx t fed p = t p := by
  have := hT.lt (p := p) (by omega)
  exact if_pos this
theorem nx_lix {t : Nat → Int} {fed p : Nat} (hT : TXT t fed) : lix (nx t fed p) = lix (t p) := by
  unfold nx
  split
  · rfl
  · rw [hT.2.1 p (by omega)]; rfl
/-- the text in the reference's cells -/
def TXM (I : Fn) (t : Nat → Int) (fed : Nat) : Prop := TXT t fed ∧ (I 92 17 = fed ∧ ∀ p, p < fed → I 106 p = t p)
/-- what the reading of hall f may change; A: which cells of clauses -/
def MX (f : Nat) (A : Nat → Nat → Prop) (I J : Fn) : Prop := ∀ k j, ¬ (k = 92 ∧ (j = 18 ∨ (j = 19 ∨ (j = 28 ∨ (j = 29 ∨ j = 30))))) → k ≠ 113 → ¬ ((107 ≤ k ∧ k ≤ 111) ∧ A k j) → ¬ (k = 112 ∧ (100 * f ≤ j ∧ j < 100 * f + 100)) → J k j = I k j
theorem MX.refl (f : Nat) (A : Nat → Nat → Prop) (I : Fn) : MX f A I I := fun _ _ _ _ _ _ => rfl
theorem MX.out {f : Nat} {A : Nat → Nat → Prop} {I J : Fn} (h : MX f A I J) {k j : Nat} (hk : (k < 107 ∨ 113 < k) ∧ (k ≠ 92 ∨ j ≤ 17 ∨ 31 ≤ j)) : J k j = I k j := h k j (by omega) (by omega) (fun z => by have := z.1; omega) (by omega)
theorem MX.upk {f : Nat} {A : Nat → Nat → Prop} {I J : Fn} (h : MX f A I J) {k j : Nat} (v : Int) (hk : (k = 92 ∧ (j = 18 ∨ (j = 19 ∨ (j = 28 ∨ (j = 29 ∨ j = 30))))) ∨ (k = 113 ∨ (((107 ≤ k ∧ k ≤ 111) ∧ A k j) ∨ (k = 112 ∧ (100 * f ≤ j ∧ j < 100 * f + 100))))) : MX f A I (up J k j v) := by
  intro a b h1 h2 h3 h4
  rw [up_eq]
  by_cases z : a = k ∧ b = j
  · obtain ⟨z1, z2⟩ := z
    subst z1; subst z2
    rcases hk with q | q | q | q
    · exact absurd q h1
    · exact absurd q h2
    · exact absurd q h3
    · exact absurd q h4
  · rw [if_neg z]
    exact h a b h1 h2 h3 h4
theorem MX.reg {f : Nat} {A : Nat → Nat → Prop} {I J : Fn} (h : MX f A I J) {j : Nat} (v : Int) (hj : j = 18 ∨ (j = 19 ∨ (j = 28 ∨ (j = 29 ∨ j = 30)))) : MX f A I (up J 92 j v) := h.upk v (.inl ⟨rfl, hj⟩)
theorem MX.stk {f : Nat} {A : Nat → Nat → Prop} {I J : Fn} (h : MX f A I J) {j : Nat} (v : Int) : MX f A I (up J 113 j v) := h.upk v (.inr (.inl rfl))
theorem MX.cla {f : Nat} {A : Nat → Nat → Prop} {I J : Fn} (h : MX f A I J) {k j : Nat} (v : Int) (hk : 107 ≤ k ∧ k ≤ 111) (ha : A k j) : MX f A I (up J k j v) := h.upk v (.inr (.inr (.inl ⟨hk, ha⟩)))
theorem MX.sgn {f : Nat} {A : Nat → Nat → Prop} {I J : Fn} (h : MX f A I J) {j : Nat} (v : Int) (hj : 100 * f ≤ j ∧ j < 100 * f + 100) : MX f A I (up J 112 j v) := h.upk v (.inr (.inr (.inr ⟨rfl, hj⟩)))
theorem MX.trans {f : Nat} {A B : Nat → Nat → Prop} {I J K : Fn} (h : MX f B I J) (g : MX f A J K) (hAB : ∀ k j, A k j → B k j) : MX f B I K := fun k j h1 h2 h3 h4 => (g k j h1 h2 (fun z => h3 ⟨z.1, hAB k j z.2⟩) h4).trans (h k j h1 h2 h3 h4)
/-- the stack of what waits, the top first -/
def stkc (J : Fn) : List Int → Prop
  | [] => True
  | x :: r => J 113 r.length = x ∧ stkc J r
theorem stkc_up {J : Fn} {v : Int} {j : Nat} : ∀ {r : List Int}, stkc J r → r.length ≤ j → stkc (up J 113 j v) r
  | [], _, _ => trivial
  | x :: r, h, hj => by
    simp only [List.length_cons] at hj
    exact ⟨by rw [up_nj (by omega)]; exact h.1, stkc_up h.2 (by omega)⟩
theorem stkc_ne {J : Fn} {v : Int} {k j : Nat} (hk : k ≠ 113) : ∀ {r : List Int}, stkc J r → stkc (up J k j v) r
  | [], _ => trivial
  | x :: r, h => ⟨by rw [up_ne (by omega)]; exact h.1, stkc_ne hk h.2⟩
/-- the reference's sign for a code -/
def mt (x : Int) : Int := if x = -1 then -33 else if x = -2 then -38 else if x = -3 then -124 else 1000 * (x / 300) + 100 * (x / 100 % 3) + x % 100
theorem mt_tok {x : Int} (h : vcd x) : TokR x (mt x) := by
  unfold mt
  rcases h with (h | h | h) | h
  · subst h; exact .inl ⟨rfl, rfl⟩
  · subst h; exact .inr (.inl ⟨rfl, rfl⟩)
  · subst h; exact .inr (.inr (.inl ⟨rfl, rfl⟩))
  · rw [if_neg (by omega), if_neg (by omega), if_neg (by omega)]
    exact .inr (.inr (.inr ⟨x / 300, x / 100 % 3, x % 100, ⟨by omega, by omega, by omega⟩, by omega, rfl⟩))
def MS (f p : Nat) (T W : List Int) (o : Nat) (J : Fn) : Prop := J 92 18 = p ∧ (J 92 28 = 100 * f + T.length ∧ ((∀ i, i < T.length → J 112 (100 * f + i) = mt (T.getD i 0)) ∧ (J 92 29 = W.length ∧ (stkc J W ∧ J 92 30 = o))))
theorem MS.upk {f p o k j : Nat} {T W : List Int} {J : Fn} (h : MS f p T W o J) (hk : k ≠ 92 ∧ (k ≠ 112 ∧ k ≠ 113)) (v : Int) : MS f p T W o (up J k j v) := by
  obtain ⟨h1, h2, h3, h4, h5, h6⟩ := h
  refine ⟨?_, ?_, fun i hi => ?_, ?_, stkc_ne hk.2.2 h5, ?_⟩
  · rw [up_ne (by omega)]; exact h1
  · rw [up_ne (by omega)]; exact h2
  · rw [up_ne (by omega)]; exact h3 i hi
  · rw [up_ne (by omega)]; exact h4
  · rw [up_ne (by omega)]; exact h6
theorem MS.num {f p o : Nat} {T W : List Int} {J : Fn} (h : MS f p T W o J) (v : Int) : MS f p T W o (up J 92 19 v) := by
  obtain ⟨h1, h2, h3, h4, h5, h6⟩ := h
  refine ⟨?_, ?_, fun i hi => ?_, ?_, stkc_ne (by decide) h5, ?_⟩
  · rw [up_nj (by decide)]; exact h1
  · rw [up_nj (by decide)]; exact h2
  · rw [up_ne (by decide)]; exact h3 i hi
  · rw [up_nj (by decide)]; exact h4
  · rw [up_nj (by decide)]; exact h6
theorem MS.at {f p o : Nat} {T W : List Int} {J : Fn} (h : MS f p T W o J) (q : Nat) : MS f q T W o (up J 92 18 (q : Nat)) := by
  obtain ⟨h1, h2, h3, h4, h5, h6⟩ := h
  refine ⟨upx _ _ _ _, ?_, fun i hi => ?_, ?_, stkc_ne (by decide) h5, ?_⟩
  · rw [up_nj (by decide)]; exact h2
  · rw [up_ne (by decide)]; exact h3 i hi
  · rw [up_nj (by decide)]; exact h4
  · rw [up_nj (by decide)]; exact h6
theorem MS.opn {f p o : Nat} {T W : List Int} {J : Fn} (h : MS f p T W o J) (q : Nat) : MS f p T W q (up J 92 30 (q : Nat)) := by
  obtain ⟨h1, h2, h3, h4, h5, h6⟩ := h
  refine ⟨?_, ?_, fun i hi => ?_, ?_, stkc_ne (by decide) h5, upx _ _ _ _⟩
  · rw [up_nj (by decide)]; exact h1
  · rw [up_nj (by decide)]; exact h2
  · rw [up_ne (by decide)]; exact h3 i hi
  · rw [up_nj (by decide)]; exact h4
theorem MS.pop {f p o : Nat} {x : Int} {T W : List Int} {J : Fn} (h : MS f p T (x :: W) o J) : MS f p T W o (up J 92 29 (W.length : Nat)) := by
  obtain ⟨h1, h2, h3, h4, h5, h6⟩ := h
  refine ⟨?_, ?_, fun i hi => ?_, upx _ _ _ _, stkc_ne (by decide) h5.2, ?_⟩
  · rw [up_nj (by decide)]; exact h1
  · rw [up_nj (by decide)]; exact h2
  · rw [up_ne (by decide)]; exact h3 i hi
  · rw [up_nj (by decide)]; exact h6
theorem MS.push {f p o : Nat} {T W : List Int} {J : Fn} (h : MS f p T W o J) (x : Int) : MS f p T (x :: W) o (up (up J 113 W.length x) 92 29 ((W.length + 1 : Nat) : Int)) := by
  obtain ⟨h1, h2, h3, h4, h5, h6⟩ := h
  refine ⟨?_, ?_, fun i hi => ?_, upx _ _ _ _, ⟨?_, stkc_ne (by decide) (stkc_up h5 (Nat.le_refl _))⟩, ?_⟩
  · rw [up_nj (by decide), up_ne (by decide)]; exact h1
  · rw [up_nj (by decide), up_ne (by decide)]; exact h2
  · rw [up_ne (by decide), up_ne (by decide)]; exact h3 i hi
  · rw [up_ne (by decide)]; exact upx _ _ _ _
  · rw [up_nj (by decide), up_ne (by decide)]; exact h6
section TEXT
variable {I L : Fn} {f fed : Nat} {t : Nat → Int} {A : Nat → Nat → Prop}
theorem m_next {d : Nat} {J : Fn} {p : Nat} (hT : TXM I t fed) (hc : MX f A I J) (hp : J 92 18 = p) : CallD (d + 1) 157 [vr 92] (S J L) = some (some (vi (nx t fed p)), S J L) := by
  obtain ⟨h1, h2, h3⟩ := hT
  have h100 := h1.2.2
  have e1 : J 92 17 = fed := (hc.out (k := 92) (j := 17) (by omega)).trans h2
  unfold nx
  by_cases q : p < fed
  · rw [if_pos q]
    have e2 : J 106 p = t p := (hc.out (k := 106) (j := p) (by omega)).trans (h3 p q)
    exact (e157_2 hp e1 (by omega) (by omega) (show J 106 _ = t p from e2))
  · rw [if_neg q]
    exact (e157_1 hp e1 (by omega))
theorem m_takes1 {d : Nat} {J : Fn} {p : Nat} {x : Int} (hT : TXM I t fed) (hc : MX f A I J) (hp : J 92 18 = p) (hp2 : p ≤ 1000) (hx : nx t fed p = x) : CallD (d + 2) 159 [vr 92, vi x] (S J L) = some (some (vi 1), S (up J 92 18 ((p + 1 : Nat) : Int)) L) := by
  have s := m_next (d := d) (L := L) hT hc hp
  rw [show ((p + 1 : Nat) : Int) = (p : Int) + 1 by omega]
  exact (e159_1 s hx hp (w32_id (by omega) (by omega)))
theorem m_takes0 {d : Nat} {J : Fn} {p : Nat} {x : Int} (hT : TXM I t fed) (hc : MX f A I J) (hp : J 92 18 = p) (hx : ¬ nx t fed p = x) : CallD (d + 2) 159 [vr 92, vi x] (S J L) = some (some (vi 0), S J L) := by
  have s := m_next (d := d) (L := L) hT hc hp
  exact (e159_2 s hx)
theorem m_isDigit {d : Nat} {J : Fn} {p : Nat} (hT : TXM I t fed) (hc : MX f A I J) (hp : J 92 18 = p) : CallD (d + 2) 161 [vr 92] (S J L) = some (some (vi (if 48 ≤ t p ∧ t p ≤ 57 then 1 else 0)), S J L) := by
  have s := m_next (d := d) (L := L) hT hc hp
  by_cases q : 48 ≤ t p ∧ t p ≤ 57
  · rw [if_pos q]
    exact (e161_1 s (mI1 ((nx_rng hT.1 (by decide)).mpr q)) (by decide))
  · rw [if_neg q]
    exact (e161_1 s (mI0 (fun z => q ((nx_rng hT.1 (by decide)).mp z))) (by decide))
/-- the reference's number -/
theorem m_num0 {d : Nat} {J : Fn} {p : Nat} (hT : TXM I t fed) (hc : MX f A I J) (hp : J 92 18 = p) (hn : (pNum t p).1 < 0) : CallD (d + 3) 160 [vr 92] (S J L) = some (some (vi 0), S J L) ∧ (pNum t p).2 = p := by
  have s := m_isDigit (d := d) (L := L) hT hc hp
  unfold pNum at hn ⊢
  by_cases q : 48 ≤ t p ∧ t p ≤ 57
  · rw [if_pos q] at hn
    split at hn
    · dsimp only at hn; omega
    · dsimp only at hn; omega
  · rw [if_neg q] at s ⊢
    exact ⟨(e160_2 s rfl), rfl⟩
theorem m_num1 {d : Nat} {J : Fn} {p : Nat} (hT : TXM I t fed) (hc : MX f A I J) (hp : J 92 18 = p) (hp2 : p ≤ 999) (hn : ¬ (pNum t p).1 < 0) : ∃ J', CallD (d + 3) 160 [vr 92] (S J L) = some (some (vi 1), S J' L) ∧ (J' 92 19 = (pNum t p).1 ∧ (J' 92 18 = (pNum t p).2 ∧ (MX f A I J' ∧ ((∀ k j, ¬ (k = 92 ∧ (j = 18 ∨ j = 19)) → J' k j = J k j) ∧ ∀ g q T W o, MS g q T W o J → MS g (pNum t p).2 T W o J')))) := by
  have s := m_isDigit (d := d) (L := L) hT hc hp
  have nx0 := m_next (d := d + 1) (L := L) hT (hc.reg (j := 19) 0 (by omega)) (p := p) (by rw [up_nj (by decide)]; exact hp)
  have s0 := m_isDigit (d := d) (L := L) hT (hc.reg (j := 19) 0 (by omega)) (p := p) (by rw [up_nj (by decide)]; exact hp)
  unfold pNum at hn ⊢
  by_cases q : 48 ≤ t p ∧ t p ≤ 57
  · rw [if_pos q] at s s0 hn ⊢
    have e0 := nx_pos hT.1 (p := p) (by omega)
    rw [e0] at nx0
    have c1 : MX f A I (up (up (up J 92 19 0) 92 19 (t p - 48)) 92 18 ((p + 1 : Nat) : Int)) := ((hc.reg (j := 19) 0 (by omega)).reg (j := 19) _ (by omega)).reg (j := 18) _ (by omega)
    have s1 := m_isDigit (d := d) (L := L) (p := p + 1) hT c1 (upx _ _ _ _)
    have n1 := m_next (d := d + 1) (L := L) (p := p + 1) hT c1 (upx _ _ _ _)
    have hp' : (up J 92 19 0) 92 18 = p := by rw [up_nj (by decide)]; exact hp
    by_cases q1 : 48 ≤ t (p + 1) ∧ t (p + 1) ≤ 57
    · rw [if_pos q1] at s1 ⊢
      have e1 := nx_pos hT.1 (p := p + 1) (by omega)
      rw [e1] at n1
      have r19 : (up (up (up J 92 19 0) 92 19 (t p - 48)) 92 18 ((p + 1 : Nat) : Int)) 92 19 = t p - 48 := by rw [up_nj (by decide)]; exact upx _ _ _ _
      refine ⟨up (up (up (up (up J 92 19 0) 92 19 (t p - 48)) 92 18 ((p + 1 : Nat) : Int)) 92 19 (10 * (t p - 48) + (t (p + 1) - 48))) 92 18 ((p + 2 : Nat) : Int), ?_, by rw [up_nj (by decide)]; exact upx _ _ _ _, upx _ _ _ _, (c1.reg (j := 19) _ (by omega)).reg (j := 18) _ (by omega), fun k j z => (by simp only [up_eq]; repeat rw [if_neg (by omega)]), fun g q T W o h => (((((h.num 0).num _).at (p + 1)).num _).at (p + 2))⟩
      refine Eq.trans (e160_1 s (by decide)) ?_
      refine Eq.trans (y160_16_3 (by omega) s0 (by decide) (upx _ _ _ _) (show _ = (0 : Int) from rfl) nx0 (show _ = t p from by rw [Int.zero_add]; exact w32_id (by omega) (by omega)) (w32_id (by omega) (by omega)) hp' (w32_s (by omega)) (w32_id (by omega) (by omega))) ?_
      refine Eq.trans (y160_16_3 (by omega) s1 (by decide) r19 (w32_id (by omega) (by omega)) n1 (w32_id (by omega) (by omega)) (show _ = 10 * (t p - 48) + (t (p + 1) - 48) from by rw [show 10 * (t p - 48) + t (p + 1) - 48 = 10 * (t p - 48) + (t (p + 1) - 48) by omega]; exact w32_id (by omega) (by omega)) (upx _ _ _ _) (w32_s (p := p + 1) (by omega)) (w32_id (by omega) (by omega))) ?_
      exact (y160_16_1 (by omega))
    · rw [if_neg q1] at s1 ⊢
      refine ⟨up (up (up J 92 19 0) 92 19 (t p - 48)) 92 18 ((p + 1 : Nat) : Int), ?_, by rw [up_nj (by decide)]; exact upx _ _ _ _, upx _ _ _ _, c1, fun k j z => (by simp only [up_eq]; repeat rw [if_neg (by omega)]), fun g q T W o h => (((h.num 0).num _).at (p + 1))⟩
      refine Eq.trans (e160_1 s (by decide)) ?_
      refine Eq.trans (y160_16_3 (by omega) s0 (by decide) (upx _ _ _ _) (show _ = (0 : Int) from rfl) nx0 (show _ = t p from by rw [Int.zero_add]; exact w32_id (by omega) (by omega)) (w32_id (by omega) (by omega)) hp' (w32_s (by omega)) (w32_id (by omega) (by omega))) ?_
      exact (y160_16_2 (by omega) s1 rfl)
  · rw [if_neg q] at hn
    exact absurd (show (-1 : Int) < 0 by decide) hn
theorem m_place {d : Nat} {J : Fn} {x : Int} : CallD (d + 1) 164 [vr 92, vi x] (S J L) = some (some (vi (lix x)), S J L) := by
  unfold lix
  by_cases q0 : x = 98
  · rw [if_pos q0]
    exact (e164_1 (by omega))
  rw [if_neg q0]
  by_cases q1 : x = 100
  · rw [if_pos q1]
    exact (e164_3 (by omega))
  rw [if_neg q1]
  by_cases q2 : x = 107
  · rw [if_pos q2]
    exact (e164_10 (by omega))
  rw [if_neg q2]
  by_cases q3 : x = 116
  · rw [if_pos q3]
    exact (e164_19 (by omega))
  rw [if_neg q3]
  by_cases q4 : x = 103
  · rw [if_pos q4]
    exact (e164_6 (by omega))
  rw [if_neg q4]
  by_cases q5 : x = 99
  · rw [if_pos q5]
    exact (e164_2 (by omega))
  rw [if_neg q5]
  by_cases a1 : x = 101
  · exact (e164_4 (by omega))
  by_cases a2 : x = 102
  · exact (e164_5 (by omega))
  by_cases a3 : x = 104
  · exact (e164_7 (by omega))
  by_cases a4 : x = 105
  · exact (e164_8 (by omega))
  by_cases a5 : x = 106
  · exact (e164_9 (by omega))
  by_cases a6 : x = 108
  · exact (e164_11 (by omega))
  by_cases a7 : x = 109
  · exact (e164_12 (by omega))
  by_cases a8 : x = 110
  · exact (e164_13 (by omega))
  by_cases a9 : x = 111
  · exact (e164_14 (by omega))
  by_cases b1 : x = 112
  · exact (e164_15 (by omega))
  by_cases b2 : x = 113
  · exact (e164_16 (by omega))
  by_cases b3 : x = 114
  · exact (e164_17 (by omega))
  by_cases b4 : x = 115
  · exact (e164_18 (by omega))
  exact (e164_20 (by omega) (by omega) (by omega) (by omega) (by omega) (by omega) (by omega) (by omega) (by omega) (by omega) (by omega) (by omega) (by omega) (by omega) (by omega) (by omega) (by omega) (by omega) (by omega))
/-- put -/
theorem m_put {d p o : Nat} {J : Fn} {T W : List Int} {c : Int} (hf : f < 6) (hc : MX f A I J) (h : MS f p T W o J) (hT : T.length < 100) : ∃ J', CallD (d + 1) 165 [vr 92, vi (mt c)] (S J L) = some (none, S J' L) ∧ (MX f A I J' ∧ MS f p (T ++ [c]) W o J') := by
  obtain ⟨h1, h2, h3, h4, h5, h6⟩ := h
  refine ⟨up (up J 112 (100 * f + T.length) (mt c)) 92 28 ((100 * f + T.length + 1 : Nat) : Int), ?_, (hc.sgn (j := 100 * f + T.length) _ (by omega)).reg (j := 28) _ (by omega), ?_, ?_, fun i hi => ?_, ?_, stkc_ne (by decide) (stkc_ne (by decide) h5), ?_⟩
  · have ei : ((100 * f : Int) + (T.length : Nat)).toNat = 100 * f + T.length := by omega
    rw [← ei]
    exact (e165_1 h2 (by omega) (show _ = ((((100 * f : Int) + (T.length : Nat)).toNat + 1 : Nat) : Int) from by rw [ei, show ((100 * f + T.length + 1 : Nat) : Int) = (100 * f : Int) + (T.length : Nat) + 1 by omega]; exact w32_id (by omega) (by omega)))
  · rw [up_nj (by decide), up_ne (by decide)]; exact h1
  · rw [upx, List.length_append]
    show ((100 * f + T.length + 1 : Nat) : Int) = 100 * (f : Int) + ((T.length + 1 : Nat) : Int)
    omega
  · rw [List.length_append] at hi
    have hi' : i < T.length + 1 := hi
    rw [up_ne (by decide), up_eq]
    by_cases q : i < T.length
    · rw [if_neg (by omega), gD_l q]; exact h3 i q
    · have : i = T.length := by omega
      subst this
      rw [if_pos ⟨rfl, rfl⟩, gD_r (Nat.le_refl _), Nat.sub_self]
      rfl
  · rw [up_nj (by decide), up_ne (by decide)]; exact h4
  · rw [up_nj (by decide), up_ne (by decide)]; exact h6
/-- the !s on top -/
def who : List Int → List Int × List Int
  | [] => ([], [])
  | x :: r => if x = 33 then (-1 :: (who r).1, (who r).2) else ([], x :: r)
theorem who_len : ∀ W : List Int, (who W).1.length + (who W).2.length = W.length
  | [] => rfl
  | x :: r => by
    unfold who
    split
    · have := who_len r
      simp only [List.length_cons]
      omega
    · simp only [List.length_nil, List.length_cons]
      omega
theorem m_wh {d : Nat} (hf : f < 6) : ∀ (W : List Int) (p o : Nat) (T : List Int) (J : Fn), MX f A I J → MS f p T W o J → T.length + W.length ≤ 100 → (who W).1.length ≤ o ∧ o ≤ 1000 → ∃ J', y166_0 (CallD (d + 1)) J L = some (none, S J' L) ∧ (MX f A I J' ∧ MS f p (T ++ (who W).1) (who W).2 (o - (who W).1.length) J')
  | [], p, o, T, J, hc, h, hl, ho => by
    refine ⟨J, ?_, hc, ?_⟩
    · exact (y166_0_1 h.2.2.2.1 (by show ((0 : Nat) : Int) ≤ 0; decide))
    · show MS f p (T ++ []) [] (o - 0) J
      rw [List.append_nil]
      exact h
  | x :: r, p, o, T, J, hc, h, hl, ho => by
    simp only [List.length_cons] at hl
    have h4 := h.2.2.2.1
    simp only [List.length_cons] at h4
    have h5 := h.2.2.2.2.1.1
    have h6 := h.2.2.2.2.2
    have w1 : w32 (((r.length + 1 : Nat) : Int) - 1) = (r.length : Nat) := by rw [show ((r.length + 1 : Nat) : Int) - 1 = (r.length : Int) by omega]; exact w32_id (by omega) (by omega)
    by_cases e : x = 33
    · have ew : who (x :: r) = (-1 :: (who r).1, (who r).2) := if_pos e
      rw [ew] at ho ⊢
      simp only [List.length_cons] at ho
      obtain ⟨J1, g1, g2, g3⟩ := m_put (d := d) (L := L) (c := -1) hf hc h (by omega)
      rw [show mt (-1) = -33 from rfl] at g1
      have k1 := g3.pop
      have k2 := k1.opn (o - 1)
      obtain ⟨J', z1, z2, z3⟩ := m_wh (d := d) hf r p (o - 1) (T ++ [-1]) _ ((g2.reg (j := 29) _ (by omega)).reg (j := 30) _ (by omega)) k2 (by rw [List.length_append]; show T.length + 1 + r.length ≤ 100; omega) (by omega)
      refine ⟨J', ?_, z2, ?_⟩
      · have n4 := g3.2.2.2.1
        simp only [List.length_cons] at n4
        have n6 := g3.2.2.2.2.2
        refine Eq.trans (y166_0_3 h4 (by omega) w1 (by omega) h5 e g1 n4 w1 n6 (show _ = ((o - 1 : Nat) : Int) from by rw [show ((o - 1 : Nat) : Int) = (o : Int) - 1 by omega]; exact w32_id (by omega) (by omega))) ?_
        exact z1
      · rw [List.append_assoc] at z3
        simp only [List.length_cons]
        rw [show o - ((who r).1.length + 1) = o - 1 - (who r).1.length by omega]
        exact z3
    · have ew : who (x :: r) = ([], x :: r) := if_neg e
      rw [ew]
      refine ⟨J, ?_, hc, ?_⟩
      · exact (y166_0_2 h4 (by omega) w1 (by omega) h5 e)
      · show MS f p (T ++ []) (x :: r) (o - 0) J
        rw [List.append_nil]
        exact h
theorem m_whole {d p o : Nat} {T W : List Int} {J : Fn} (hf : f < 6) (hc : MX f A I J) (h : MS f p T W o J) (hl : T.length + W.length ≤ 100) (ho : (who W).1.length ≤ o ∧ o ≤ 1000) : ∃ J', CallD (d + 2) 166 [vr 92] (S J L) = some (none, S J' L) ∧ (MX f A I J' ∧ MS f p (T ++ (who W).1) (who W).2 (o - (who W).1.length) J') := by
  obtain ⟨J', z1, z2⟩ := m_wh (d := d) (L := L) hf W p o T J hc h hl ho
  refine ⟨J', ?_, z2⟩
  refine Eq.trans (e166_1) ?_
  exact z1
/-- what settles -/
def sett (s : Int) : List Int → List Int × List Int
  | [] => ([], [])
  | x :: r => if x = 38 then (-2 :: (sett s r).1, (sett s r).2) else if x = 124 ∧ s ≠ 38 then (-3 :: (sett s r).1, (sett s r).2) else ([], x :: r)
theorem m_st {d : Nat} {s : Int} (hf : f < 6) : ∀ (W : List Int) (p o : Nat) (T : List Int) (J : Fn), MX f A I J → MS f p T W o J → T.length + W.length ≤ 100 → ∃ J', y167_0 (CallD (d + 1)) s J L = some (none, S J' L) ∧ (MX f A I J' ∧ MS f p (T ++ (sett s W).1) (sett s W).2 o J')
  | [], p, o, T, J, hc, h, hl => by
    refine ⟨J, ?_, hc, ?_⟩
    · exact (y167_0_1 h.2.2.2.1 (by show ((0 : Nat) : Int) ≤ 0; decide))
    · show MS f p (T ++ []) [] o J
      rw [List.append_nil]
      exact h
  | x :: r, p, o, T, J, hc, h, hl => by
    simp only [List.length_cons] at hl
    have h4 := h.2.2.2.1
    simp only [List.length_cons] at h4
    have h5 := h.2.2.2.2.1.1
    have w1 : w32 (((r.length + 1 : Nat) : Int) - 1) = (r.length : Nat) := by rw [show ((r.length + 1 : Nat) : Int) - 1 = (r.length : Int) by omega]; exact w32_id (by omega) (by omega)
    have step : ∀ c : Int, (x = 38 ∧ c = -2) ∨ (x = 124 ∧ (s ≠ 38 ∧ c = -3)) → ∃ J', y167_0 (CallD (d + 1)) s J L = some (none, S J' L) ∧ (MX f A I J' ∧ MS f p (T ++ (c :: (sett s r).1)) (sett s r).2 o J') := by
      intro c hcx
      obtain ⟨J1, g1, g2, g3⟩ := m_put (d := d) (L := L) (c := c) hf (hc.reg (j := 29) (r.length : Nat) (by omega)) h.pop (by omega)
      obtain ⟨J', z1, z2, z3⟩ := m_st (d := d) (s := s) hf r p o (T ++ [c]) J1 g2 g3 (by rw [List.length_append]; show T.length + 1 + r.length ≤ 100; omega)
      refine ⟨J', ?_, z2, ?_⟩
      · rcases hcx with ⟨e1, e2⟩ | ⟨e1, e2, e3⟩
        · have g1' := g1
          rw [e2, show mt (-2) = -38 from rfl] at g1'
          refine Eq.trans (y167_0_2 h4 (by omega) w1 (by omega) h5 e1 w1 (by omega) h5 (show _ = (-38 : Int) from by rw [e1]; rfl) g1') ?_
          exact z1
        · have g1' := g1
          rw [e3, show mt (-3) = -124 from rfl] at g1'
          refine Eq.trans (y167_0_5 h4 (by omega) w1 (by omega) h5 (by omega) w1 (by omega) h5 e1 e2 w1 (by omega) h5 (show _ = (-124 : Int) from by rw [e1]; rfl) g1') ?_
          exact z1
      · rw [List.append_assoc] at z3
        exact z3
    by_cases e : x = 38
    · rw [show sett s (x :: r) = (-2 :: (sett s r).1, (sett s r).2) from if_pos e]
      exact step (-2) (.inl ⟨e, rfl⟩)
    · by_cases e2 : x = 124 ∧ s ≠ 38
      · rw [show sett s (x :: r) = (-3 :: (sett s r).1, (sett s r).2) from (if_neg e).trans (if_pos e2)]
        exact step (-3) (.inr ⟨e2.1, e2.2, rfl⟩)
      · rw [show sett s (x :: r) = ([], x :: r) from (if_neg e).trans (if_neg e2)]
        refine ⟨J, ?_, hc, ?_⟩
        · by_cases e3 : x = 124
          · exact (y167_0_4 h4 (by omega) w1 (by omega) h5 e w1 (by omega) h5 e3 (by omega))
          · exact (y167_0_3 h4 (by omega) w1 (by omega) h5 e w1 (by omega) h5 e3)
        · show MS f p (T ++ []) (x :: r) o J
          rw [List.append_nil]
          exact h
theorem m_settle {d p o : Nat} {s : Int} {T W : List Int} {J : Fn} (hf : f < 6) (hc : MX f A I J) (h : MS f p T W o J) (hl : T.length + W.length ≤ 100) : ∃ J', CallD (d + 2) 167 [vr 92, vi s] (S J L) = some (none, S J' L) ∧ (MX f A I J' ∧ MS f p (T ++ (sett s W).1) (sett s W).2 o J') := by
  obtain ⟨J', z1, z2⟩ := m_st (d := d) (L := L) (s := s) hf W p o T J hc h hl
  refine ⟨J', ?_, z2⟩
  refine Eq.trans (e167_1) ?_
  exact z1
end TEXT
