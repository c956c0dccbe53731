/-! HALL -/
/-- what a hall call may change -/
def HF (f : Nat) (I M : Fn) : Prop := ∀ k j, ¬ (k = 36 ∧ (j = 1 ∨ j = 2)) → ¬ (45 + 5 * f ≤ k ∧ k ≤ 49 + 5 * f) → ¬ (k = 10 ∧ j = 9) → ¬ (k = 38 ∧ j = 1) → ¬ (k = 92 ∧ (15 ≤ j ∧ j ≤ 19 ∨ (28 ≤ j ∧ j ≤ 30))) → k ≠ 113 → ¬ ((107 ≤ k ∧ k ≤ 111) ∧ AH f k j) → ¬ (k = 112 ∧ (100 * f ≤ j ∧ j < 100 * f + 100)) → M k j = I k j
abbrev XH : List Nat := [3001, 3002, 2009, 38, 1015, 1016, 1017, 1018, 1019, 1028, 1029, 1030, 107, 108, 109, 110, 111, 112, 113, 45, 46, 47, 48, 49, 50, 51, 52, 53, 54, 55, 56, 57, 58, 59, 60, 61, 62, 63, 64, 65, 66, 67, 68, 69, 70, 71, 72, 73, 74]
theorem XH_in : ∀ k, k < 120 → (45 ≤ k ∧ k ≤ 74) ∨ ((107 ≤ k ∧ k ≤ 113) ∨ k = 38) → XH.elem k = true := by decide
theorem XH_r : ∀ j, 15 ≤ j ∧ j ≤ 19 ∨ (28 ≤ j ∧ j ≤ 30) → XH.elem (1000 + j) = true := by
  intro j hj
  rcases (by omega : j = 15 ∨ j = 16 ∨ j = 17 ∨ j = 18 ∨ j = 19 ∨ j = 28 ∨ j = 29 ∨ j = 30) with z | z | z | z | z | z | z | z <;> subst z <;> rfl
theorem ky_id {k j : Nat} (h : k ≠ 92 ∧ (k ≠ 10 ∧ k ≠ 36)) : ky k j = k := by
  unfold ky
  have b1 : Nat.beq k 92 = false := by
    cases z : Nat.beq k 92 with
    | false => rfl
    | true => have := Nat.eq_of_beq_eq_true z; omega
  have b2 : Nat.beq k 10 = false := by
    cases z : Nat.beq k 10 with
    | false => rfl
    | true => have := Nat.eq_of_beq_eq_true z; omega
  have b3 : Nat.beq k 36 = false := by
    cases z : Nat.beq k 36 with
    | false => rfl
    | true => have := Nat.eq_of_beq_eq_true z; omega
  rw [b1, b2, b3]; rfl
theorem HF.fr {f : Nat} {I M : Fn} (hf : f < 6) (h : HF f I M) : Fr XH I M := by
  intro k j e
  have low : ∀ k, (45 ≤ k ∧ k ≤ 74) ∨ ((107 ≤ k ∧ k ≤ 113) ∨ k = 38) → XH.elem (ky k j) = true := fun k hk => by
    rw [ky_id (by omega)]
    exact XH_in k (by omega) hk
  refine h k j (fun z => ?_) (fun z => ?_) (fun z => ?_) (fun z => ?_) (fun z => ?_) (fun z => ?_) (fun z => ?_) (fun z => ?_)
  · rcases z with ⟨z1, z2 | z2⟩ <;> rw [z1, z2] at e <;> exact absurd e (by decide)
  · rw [low k (by omega)] at e; cases e
  · rw [z.1, z.2] at e; exact absurd e (by decide)
  · rw [low k (by omega)] at e; cases e
  · rw [z.1] at e
    have : XH.elem (1000 + j) = false := e
    rw [XH_r j z.2] at this; cases this
  · rw [low k (by omega)] at e; cases e
  · rw [low k (by have := z.1; omega)] at e; cases e
  · rw [low k (by omega)] at e; cases e
theorem WC.mono {a b : Int} {I : Fn} (h : WC a I) (hab : a ≤ b) : WC b I := by
  obtain ⟨h1, h2, h3, h4, h5, h6⟩ := h
  unfold rng at h5
  exact ⟨h1, h2, h3, h4, by unfold rng; omega, h6⟩
theorem IM.mono {a b : Int} {I : Fn} (h : IM a I) (hab : a ≤ b) : IM b I := by
  obtain ⟨h1, h2, h3, h4⟩ := h
  exact ⟨h1, h2, h3, fun z => ⟨(h4 z).1.mono hab, (h4 z).2⟩⟩
/-- the halls that were there -/
theorem HallR_old {f g : Nat} {I M : Fn} (hg : g < f) (hf : f < 6) (h : HF f I M) (r : HallR I (45 + 5 * g) g) : HallR M (45 + 5 * g) g := by
  have lo : ∀ k, 45 + 5 * g ≤ k → k ≤ 49 + 5 * g → ∀ j, M k j = I k j := fun k h1 h2 j => h k j (by omega) (by omega) (by omega) (by omega) (by omega) (by omega) (fun z => by have := z.1; omega) (by omega)
  have hi : ∀ k i, 108 ≤ k → k ≤ 111 → i < 10 → M k (10 * g + i) = I k (10 * g + i) := fun k i h1 h2 h3 => h k _ (by omega) (by omega) (by omega) (by omega) (by omega) (by omega) (fun z => by
    rcases z.2 with q | q
    · omega
    · omega) (by omega)
  obtain ⟨r1, r2, r3⟩ := r
  have e0 := lo (45 + 5 * g) (by omega) (by omega) 0
  have e107 : M 107 g = I 107 g := h 107 g (by omega) (by omega) (by omega) (by omega) (by omega) (by omega) (fun z => by
    rcases z.2 with q | q
    · omega
    · omega) (by omega)
  unfold rng at r1
  refine ⟨by rw [e0]; exact r1, by rw [e107, e0]; exact r2, fun i hi' => ?_⟩
  rw [e0] at hi'
  have ef : frm M (45 + 5 * g) i = frm I (45 + 5 * g) i := by
    cases i with
    | zero => rfl
    | succ i => exact lo _ (by omega) (by omega) i
  have c := r3 i hi'
  rw [ef]
  unfold ClR at c ⊢
  have f4 : (fun k => M (45 + 5 * g + 4) ((frm I (45 + 5 * g) i).toNat + k)) = fun k => I (45 + 5 * g + 4) ((frm I (45 + 5 * g) i).toNat + k) := by
    funext k
    exact lo _ (by omega) (by omega) _
  rw [lo (45 + 5 * g + 1) (by omega) (by omega), lo (45 + 5 * g + 2) (by omega) (by omega), lo (45 + 5 * g + 3) (by omega) (by omega), hi 108 i (by omega) (by omega) (by omega), hi 109 i (by omega) (by omega) (by omega), hi 110 i (by omega) (by omega) (by omega), hi 111 i (by omega) (by omega) (by omega), f4]
  obtain ⟨c1, c2, c3, c4⟩ := c
  refine ⟨c1, c2, c3, fun z => ?_⟩
  obtain ⟨d1, d2, d3⟩ := c4 z
  refine ⟨d1, fun k hk => ?_, d3⟩
  have := d2 k hk
  rw [lo (45 + 5 * g + 4) (by omega) (by omega), h 112 _ (by omega) (by omega) (by omega) (by omega) (by omega) (by omega) (fun z => by have := z.1; omega) (by omega)]
  exact this
theorem Rel.halled {I M L : Fn} {f : Nat} (h : Rel I L) (hI : I 38 1 = f) (hf : f < 6) (hF : HF f I M) (t1 : M 36 1 = 0) (t2 : M 92 17 = 0) (hn : (M 38 1 = f ∧ (M 92 15 = f ∧ (M 10 9 = I 10 9 ∧ M 92 16 = I 10 9))) ∨ ((M 38 1 = ((f + 1 : Nat) : Int) ∧ (M 92 15 = ((f + 1 : Nat) : Int) ∧ (M 10 9 = f ∧ M 92 16 = f))) ∧ HallR M (45 + 5 * f) f)) : Rel M L := by
  have hf' := hF.fr hf
  obtain ⟨h1, h2, h3, h4, h5, h6, h7, h8⟩ := h
  have cb : ∀ k j, (11 ≤ k ∧ k ≤ 35) ∨ (93 ≤ k ∧ k ≤ 104) ∨ k = 123 → M k j = I k j := fun k j hk => hF k j (by omega) (by omega) (by omega) (by omega) (by omega) (by omega) (fun z => by have := z.1; omega) (by omega)
  have n38 : I 38 1 ≤ M 38 1 := by rcases hn with q | q <;> omega
  have r9 := h1.2.2.2.2.1
  unfold rng at r9
  refine ⟨⟨?_, ?_, ?_, ?_, ?_, ?_, ?_, ?_⟩, ⟨?_, ?_, ?_, ?_, ?_, ?_, ?_, ?_⟩, (IM_fr h3 hf' (by decide)).mono n38, ⟨?_, ?_, ?_⟩, ⟨?_, ?_, ?_, ?_⟩, AC_fr h6 hf' (by decide), TP_fr h7 hf' (by decide) (Fr.refl [] L) (by decide), CS_fr h8 hf' (by decide)⟩
  · intro b hb
    rw [cb 11 b (by omega), cb 12 b (by omega)]
    exact h1.1 b hb
  · rw [hf' 10 3 rfl]; exact h1.2.1
  · rw [hf' 10 6 rfl]; exact h1.2.2.1
  · rw [hf' 10 8 rfl]; exact h1.2.2.2.1
  · unfold rng
    rcases hn with q | q <;> omega
  · exact Al6.of (fun c hc => (h1.2.2.2.2.2.1.at hc).fr (fun j => cb _ j (by omega)))
  · intro o ho
    rw [cb 14 o (by omega), cb 15 o (by omega)]
    exact h1.2.2.2.2.2.2.1 o ho
  · intro k hk
    rw [cb 16 k (by omega)]
    exact h1.2.2.2.2.2.2.2 k hk
  · intro b hb
    rw [cb 11 b (by omega), cb 12 b (by omega), cb 93 b (by omega), cb 94 b (by omega)]
    exact h2.1 b hb
  · rw [hf' 92 2 rfl, hf' 10 3 rfl]; exact h2.2.1
  · rw [hf' 92 3 rfl, hf' 10 6 rfl]; exact h2.2.2.1
  · rw [hf' 92 41 rfl, hf' 10 8 rfl]; exact h2.2.2.2.1
  · rcases hn with q | q <;> omega
  · exact Al6.of (fun c hc => (h2.2.2.2.2.2.1.at hc).fr (fun j => cb _ j (by omega)) (fun k hk1 hk2 => cb k c (by omega)))
  · intro o ho
    rw [cb 103 o (by omega), cb 104 o (by omega), cb 14 o (by omega), cb 15 o (by omega)]
    exact h2.2.2.2.2.2.2.1 o ho
  · intro k hk
    rw [cb 123 k (by omega), cb 16 k (by omega)]
    exact h2.2.2.2.2.2.2.2 k hk
  · rw [t1]; unfold rng; omega
  · rw [t1, t2]
  · intro k hk
    rw [hf' 37 k rfl, hf' 106 k rfl]
    exact h4.2.2 k hk
  · unfold rng
    rcases hn with q | q <;> omega
  · rcases hn with q | q <;> omega
  · rw [hf' 40 0 rfl]; exact h5.2.2.1
  · refine Al6.of (fun g hg hlt => ?_)
    by_cases z : g < f
    · exact HallR_old z hf hF (h5.2.2.2.at hg (by omega))
    · rcases hn with q | ⟨q, r⟩
      · omega
      · have : g = f := by omega
        subst this
        exact r
theorem R0hall {f : Nat} (h : f < 6) : R0 39 f = some (45 + 5 * f) := by
  match f, h with
  | 0, _ => rfl
  | 1, _ => rfl
  | 2, _ => rfl
  | 3, _ => rfl
  | 4, _ => rfl
  | 5, _ => rfl
  | n + 6, h => omega
theorem k_hall {I L : Fn} (h : Rel I L) : SameI 36 152 [] I L := by
  have hH := h.2.2.2.2.1
  have h15 := hH.2.1
  have hr := hH.1
  unfold rng at hr
  by_cases e6 : I 38 1 = 6
  · exact ⟨_, _, _, _, _, (e36_3 e6 (by omega)), (e152_3 (h15.trans e6) (by omega)), h⟩
  obtain ⟨f, hI⟩ : ∃ f : Nat, I 38 1 = f := ⟨(I 38 1).toNat, by omega⟩
  have hf : f < 6 := by omega
  have hT := h.2.2.2.1
  have hS := h.2.2.2.2.2.2.2
  have tt := txt_TXT hT
  have f100 := tt.2.2
  have isf : isH (45 + 5 * f) := .inr ⟨f, hf, rfl⟩
  obtain ⟨J1, c1, c2, c3⟩ := c_readInto (d := 42) (L := L) hT hS isf (by omega)
  have wh := WH_all tt
  have hR : R0 39 ((f : Nat) : Int).toNat = some (45 + 5 * f) := R0hall hf
  have j38 : J1 38 1 = f := (c2 38 1 (by omega) (by omega)).trans hI
  have hT2 := hT.2.1
  have fedI : I 36 1 = ((I 36 1).toNat : Nat) := by
    have := hT.1
    unfold rng at this
    omega
  -- the reference begins when the class is through: its text is as it was
  have tm : ∀ K : Fn, (∀ k j, 92 ≤ k → K k j = I k j) → TXM K (txt I) (I 36 1).toNat := fun K hK => ⟨tt, (hK 92 17 (by omega)).trans (hT2.trans fedI), fun p hp => by
    rw [hK 106 p (by omega), (hT.2.2 p (by omega)).2]
    exact (if_pos (by omega)).symm⟩
  have ks : ∀ K : Fn, (∀ k j, 92 ≤ k → K k j = I k j) → ∀ j, j < 16 → K 114 j = lwL.getD j 0 := fun K hK j hj => by
    rw [hK 114 j (by omega), (hS.2.2.1 j hj).2]
    exact (hS.2.2.1 j hj).1
  cases ho : (pHall (txt I) (I 36 1).toNat).1 with
  | true =>
    have v1 : hrv (pHall (txt I) (I 36 1).toNat) = -1 := if_pos ho
    rw [v1] at c1
    have hK : ∀ k j, 92 ≤ k → (up (up (up J1 36 1 0) 10 9 f) 38 1 ((f + 1 : Nat) : Int)) k j = I k j := fun k j hk => by
      rw [up_ne (by omega), up_ne (by omega), up_ne (by omega)]
      exact c2 k j (by omega) (by omega)
    obtain ⟨g1, _⟩ := m_goes (d := 52) (L := L) (tm _ hK) (ks _ hK) hf
    obtain ⟨J2, m1, m2, m3, m4, m5⟩ := g1 ho
    have k15 : (up (up (up J1 36 1 0) 10 9 f) 38 1 ((f + 1 : Nat) : Int)) 92 15 = f := (hK 92 15 (by omega)).trans (h15.trans hI)
    have j15 : J2 92 15 = f := (m2.out (k := 92) (j := 15) (by omega)).trans k15
    have wf : w32 ((f : Int) + 1) = ((f + 1 : Nat) : Int) := w32_s (by omega)
    have cN := c3 ho
    obtain ⟨w1, w2, w3⟩ := wh.2 ho
    have cl : CallD 60 36 [vr 9] (S I L) = some (some (vi f), S (up (up (up J1 36 1 0) 10 9 f) 38 1 ((f + 1 : Nat) : Int)) L) := by
      clear wf
      exact (e36_1 hI (by omega) (by omega) hR c1 (by decide) j38 (w32_s (by omega)))
    have cm : CallD 60 152 [vr 92] (S (up (up (up J1 36 1 0) 10 9 f) 38 1 ((f + 1 : Nat) : Int)) L) = some (some (vi f), S (up (up (up J2 92 17 0) 92 16 f) 92 15 ((f + 1 : Nat) : Int)) L) := by
      clear wf
      exact (e152_1 k15 (by omega) m1 (by decide) j15 (w32_s (by omega)))
    refine ⟨_, _, _, _, _, cl, cm, ?_⟩
    clear wf
    have lowc : ∀ k j, k < 92 → (up (up (up J2 92 17 0) 92 16 f) 92 15 ((f + 1 : Nat) : Int)) k j = (up (up (up J1 36 1 0) 10 9 f) 38 1 ((f + 1 : Nat) : Int)) k j := fun k j hk => by
      rw [up_ne (by omega), up_ne (by omega), up_ne (by omega)]
      exact m2.out (by omega)
    have cE : CEx (45 + 5 * f) (pHall (txt I) (I 36 1).toNat).2.2.1 (pHall (txt I) (I 36 1).toNat).2.2.2 (up (up (up J2 92 17 0) 92 16 f) 92 15 ((f + 1 : Nat) : Int)) := by
      obtain ⟨a1, a2, a3, a4⟩ := cN
      have lc : ∀ k j, 45 + 5 * f ≤ k → k ≤ 49 + 5 * f → (up (up (up J2 92 17 0) 92 16 f) 92 15 ((f + 1 : Nat) : Int)) k j = J1 k j := fun k j q1 q2 => by
        rw [lowc k j (by omega), up_ne (by omega), up_ne (by omega), up_ne (by omega)]
      refine ⟨?_, ?_, fun i hi => ?_, fun i hi => ?_⟩
      · rw [lc _ _ (by omega) (by omega)]; exact a1
      · rw [lc _ _ (by omega) (by omega)]; exact a2
      · rw [lc _ _ (by omega) (by omega), lc _ _ (by omega) (by omega), lc _ _ (by omega) (by omega)]; exact a3 i hi
      · rw [lc _ _ (by omega) (by omega)]; exact a4 i hi
    have mE : MEc f (pHall (txt I) (I 36 1).toNat).2.2.1 (up (up (up J2 92 17 0) 92 16 f) 92 15 ((f + 1 : Nat) : Int)) := fun i hi => by
      simp (disch := decide) only [up_ne]
      exact m4 i hi
    have mT : MTx f (pHall (txt I) (I 36 1).toNat).2.1 (pHall (txt I) (I 36 1).toNat).2.2.2 (up (up (up J2 92 17 0) 92 16 f) 92 15 ((f + 1 : Nat) : Int)) := by
      obtain ⟨q1, q2, q3⟩ := m5
      refine ⟨?_, ?_, fun i hi => ?_⟩
      · rw [up_nj (by decide), up_nj (by decide), up_nj (by decide)]; exact q1
      · rw [up_nj (by decide), up_nj (by decide), up_nj (by decide)]; exact q2
      · rw [up_ne (by decide), up_ne (by decide), up_ne (by decide)]; exact q3 i hi
    refine h.halled hI hf (fun k j z1 z2 z3 z4 z5 z6 z7 z8 => ?_) ?_ ?_ (.inr ⟨⟨?_, ?_, ?_, ?_⟩, HallR_new (fed := 0) cE mE mT ?_ w1 (by omega) w3⟩)
    · by_cases q : k < 92
      · rw [lowc k j q, up_eq, if_neg z4, up_eq, if_neg z3, up_eq, if_neg (by omega)]
        exact c2 k j (by omega) (by omega)
      · rw [up_eq, if_neg (by omega), up_eq, if_neg (by omega), up_eq, if_neg (by omega), m2 k j (by omega) z6 z7 z8]
        exact hK k j (by omega)
    · rw [lowc 36 1 (by omega), up_ne (by decide), up_ne (by decide)]; exact upx _ _ _ _
    · rw [up_nj (by decide), up_nj (by decide)]; exact upx _ _ _ _
    · rw [lowc 38 1 (by omega)]; exact upx _ _ _ _
    · exact upx _ _ _ _
    · rw [lowc 10 9 (by omega), up_ne (by decide)]; exact upx _ _ _ _
    · rw [up_nj (by decide)]; exact upx _ _ _ _
    · rw [up_ne (by decide), up_ne (by decide), up_ne (by decide)]; exact m3
  | false =>
    have v1 : hrv (pHall (txt I) (I 36 1).toNat) = ((pHall (txt I) (I 36 1).toNat).2.1 : Nat) := if_neg (by rw [ho]; decide)
    rw [v1] at c1
    have whl := wh.1
    generalize hp : (pHall (txt I) (I 36 1).toNat).2.1 = q at *
    have hK : ∀ k j, 92 ≤ k → (up J1 36 1 0) k j = I k j := fun k j hk => by
      rw [up_ne (by omega)]
      exact c2 k j (by omega) (by omega)
    obtain ⟨_, g1⟩ := m_goes (d := 52) (L := L) (tm _ hK) (ks _ hK) hf
    obtain ⟨J2, m1, m2, m3⟩ := g1 ho
    rw [hp] at m3
    have k15 : (up J1 36 1 0) 92 15 = f := (hK 92 15 (by omega)).trans (h15.trans hI)
    refine ⟨_, _, _, _, _, (e36_2 hI (by omega) (by omega) hR c1 (by omega) (w32_id (by omega) (by omega))), (e152_2 k15 (by omega) m1 rfl m3 (w32_id (by omega) (by omega))), ?_⟩
    have lowc : ∀ k j, k < 92 → (up J2 92 17 0) k j = (up J1 36 1 0) k j := fun k j hk => by
      rw [up_ne (by omega)]
      exact m2.out (by omega)
    have i16 : I 92 16 = I 10 9 := h.2.1.2.2.2.2.1
    refine h.halled hI hf (fun k j z1 z2 z3 z4 z5 z6 z7 z8 => ?_) ?_ ?_ (.inl ⟨?_, ?_, ?_, ?_⟩)
    · by_cases y : k < 92
      · rw [lowc k j y, up_eq, if_neg (by omega)]
        exact c2 k j (by omega) (by omega)
      · rw [up_eq, if_neg (by omega), m2 k j (by omega) z6 z7 z8]
        exact hK k j (by omega)
    · rw [lowc 36 1 (by omega)]; exact upx _ _ _ _
    · exact upx _ _ _ _
    · rw [lowc 38 1 (by omega), up_ne (by decide)]; exact j38
    · rw [up_nj (by decide), m2.out (by omega)]; exact k15
    · rw [lowc 10 9 (by omega), up_ne (by decide)]
      exact c2 10 9 (by omega) (by omega)
    · rw [up_nj (by decide), m2.out (by omega), hK 92 16 (by omega)]
      exact i16
