/-! the reference's pile -/
def pileR (J : Fn) : List Bool → Prop
  | [] => True
  | b :: r => J 115 r.length = bI b ∧ pileR J r
theorem pileR_up {J : Fn} {v : Int} {j : Nat} : ∀ {r : List Bool}, pileR J r → r.length ≤ j → pileR (up J 115 j v) r
  | [], _, _ => trivial
  | b :: r, h, hj => by
    simp only [List.length_cons] at hj
    exact ⟨by rw [up_nj (by omega)]; exact h.1, pileR_up h.2 (by omega)⟩
theorem pileR_set {J : Fn} {b : Bool} {r : List Bool} {j : Nat} {v : Int} (h : pileR J r) (hj : j = r.length) (hv : v = bI b) : pileR (up J 115 j v) (b :: r) := by
  subst hj; subst hv
  exact ⟨upx _ _ _ _, pileR_up h (Nat.le_refl _)⟩
theorem m_ho {d : Nat} {I0 I L : Fn} {ci c b g : Int} {f : Nat → Int} {A N : Nat} (hM : WM I0 I) (hc : 0 ≤ c ∧ c < 6) (hci : 0 ≤ ci ∧ ci < 60) (hto : I 111 ci.toNat = (A + N : Nat)) (hA : A + N ≤ 600) (hN : dep f N = some 1) (hT : ∀ k : Nat, k < N → TokR (f k) (I 112 (A + k))) : ∀ (r k : Nat) (J : Fn), k + r = N → Fr [115] I J → pileR J (evS f (tvx I0 c.toNat b g) k) → ∃ J', y174_11 (CallD (d + 1)) ci c b g ((evS f (tvx I0 c.toNat b g) k).length : Nat) ((A + k : Nat) : Int) J L = some (some (vi (bI (soB (evS f (tvx I0 c.toNat b g) N)))), S J' L) ∧ Fr [115] I J'
  | 0, k, J, hk, hF, hp => by
    have : k = N := by omega
    subst this
    obtain ⟨l1, _⟩ := evS_len (tv := tvx I0 c.toNat b g) hN
    refine ⟨J, ?_, hF⟩
    have h111 : J 111 ci.toNat = (A + k : Nat) := (hF 111 _ rfl).trans hto
    cases hst : evS f (tvx I0 c.toNat b g) k with
    | nil => rw [hst] at l1; cases l1
    | cons x r =>
      rw [hst] at l1 hp
      cases r with
      | cons y r => simp only [List.length_cons] at l1; omega
      | nil =>
        have h115 : J 115 0 = bI x := hp.1
        cases x
        · exact (y174_11_1 (by omega) h111 (by omega) h115 (by decide))
        · exact (y174_11_1 (by omega) h111 (by omega) h115 (by decide))
  | r + 1, k, J, hk, hF, hp => by
    have h111 : J 111 ci.toNat = (A + N : Nat) := (hF 111 _ rfl).trans hto
    obtain ⟨q1, hq1⟩ := dep_some (f := f) (m := r) (k := k + 1) (n := 1) (by rw [show k + 1 + r = N by omega]; exact hN)
    obtain ⟨m, hm, hcs⟩ := dep_pre hq1
    obtain ⟨l1, l2⟩ := evS_len (tv := tvx I0 c.toNat b g) hm
    have e8 : ((A + k : Nat) : Int).toNat = A + k := by omega
    have h112 : J 112 ((A + k : Nat) : Int).toNat = I 112 (A + k) := by rw [e8]; exact hF 112 _ rfl
    have ih := fun J' (h1 : Fr [115] I J') h2 => m_ho (d := d) (L := L) (b := b) (g := g) hM hc hci hto hA hN hT r (k + 1) J' (by omega) h1 h2
    rw [evS_succ] at ih
    rw [show ((A + (k + 1) : Nat) : Int) = ((A + k : Nat) : Int) + 1 by omega] at ih
    have hy := hT k (by omega)
    generalize hx : f k = x at *
    have wi : ∀ {z : Int}, -100 ≤ z ∧ z ≤ 1000 → w32 z = z := fun h => w32_id (by omega) (by omega)
    rcases hy with ⟨z, y⟩ | ⟨z, y⟩ | ⟨z, y⟩ | ⟨l, s, n, ⟨hl, hs, hn⟩, z, y⟩
    · simp only [if_neg (show ¬ 0 ≤ x by omega), if_pos z] at ih hcs
      cases hst : evS f (tvx I0 c.toNat b g) k with
      | nil => rw [hst] at l1; simp only [List.length_nil] at l1; omega
      | cons t st =>
        rw [hst] at l1 hp
        simp only [hst] at ih
        simp only [List.length_cons] at l1
        have hlen : (((t :: st).length : Nat) : Int) - 1 = (st.length : Nat) := by simp only [List.length_cons]; omega
        have w1 : w32 ((((t :: st).length : Nat) : Int) - 1) = (st.length : Nat) := by rw [hlen]; exact wi (by omega)
        have rd : J 115 ((st.length : Nat) : Int).toNat = bI t := hp.1
        cases t
        · obtain ⟨J', g1, g2⟩ := ih (up J 115 ((st.length : Nat) : Int).toNat 1) (hF.up rfl) (pileR_set hp.2 rfl rfl)
          refine ⟨J', ?_, g2⟩
          refine Eq.trans (y174_11_15 (by omega) h111 (by omega) (by omega) (h112.trans y) (by omega) w1 w1 (by omega) rd rfl (by omega) (w32_id (by omega) (by omega))) ?_
          exact g1
        · obtain ⟨J', g1, g2⟩ := ih (up J 115 ((st.length : Nat) : Int).toNat 0) (hF.up rfl) (pileR_set hp.2 rfl rfl)
          refine ⟨J', ?_, g2⟩
          refine Eq.trans (y174_11_14 (by omega) h111 (by omega) (by omega) (h112.trans y) (by omega) w1 w1 (by omega) rd (by decide) (by omega) (w32_id (by omega) (by omega))) ?_
          exact g1
    · simp only [if_neg (show ¬ 0 ≤ x by omega), if_neg (show ¬ x = -1 by omega), if_pos z] at ih hcs
      cases hst : evS f (tvx I0 c.toNat b g) k with
      | nil => rw [hst] at l1; simp only [List.length_nil] at l1; omega
      | cons t st =>
        cases st with
        | nil => rw [hst] at l1; simp only [List.length_cons, List.length_nil] at l1; omega
        | cons u st =>
          rw [hst] at l1 hp
          simp only [hst] at ih
          simp only [List.length_cons] at l1
          have w3 : w32 ((((t :: u :: st).length : Nat) : Int) + (-1)) = ((u :: st).length : Nat) := by
            rw [show (((t :: u :: st).length : Nat) : Int) + (-1) = ((u :: st).length : Nat) by simp only [List.length_cons]; omega]; exact wi (by simp only [List.length_cons]; omega)
          have w4 : w32 ((((u :: st).length : Nat) : Int) - 1) = (st.length : Nat) := by
            rw [show (((u :: st).length : Nat) : Int) - 1 = (st.length : Nat) by simp only [List.length_cons]; omega]; exact wi (by omega)
          have rt : J 115 (((u :: st).length : Nat) : Int).toNat = bI t := hp.1
          have ru : J 115 ((st.length : Nat) : Int).toNat = bI u := hp.2.1
          have bd : 0 ≤ (((u :: st).length : Nat) : Int) ∧ (((u :: st).length : Nat) : Int) < 100 := by simp only [List.length_cons]; omega
          cases u
          · obtain ⟨J', g1, g2⟩ := ih (up J 115 ((st.length : Nat) : Int).toNat 0) (hF.up rfl) (pileR_set hp.2.2 rfl rfl)
            refine ⟨J', ?_, g2⟩
            refine Eq.trans (y174_11_11 (by omega) h111 (by omega) (by omega) (h112.trans y) (by omega) (by omega) w3 w4 rfl w4 (by omega) ru rfl (by omega) (w32_id (by omega) (by omega))) ?_
            exact g1
          · cases t
            · obtain ⟨J', g1, g2⟩ := ih (up J 115 ((st.length : Nat) : Int).toNat 0) (hF.up rfl) (pileR_set hp.2.2 rfl rfl)
              refine ⟨J', ?_, g2⟩
              refine Eq.trans (y174_11_12 (by omega) h111 (by omega) (by omega) (h112.trans y) (by omega) (by omega) w3 w4 rfl w4 (by omega) ru (by decide) bd rt rfl (by omega) (w32_id (by omega) (by omega))) ?_
              exact g1
            · obtain ⟨J', g1, g2⟩ := ih (up J 115 ((st.length : Nat) : Int).toNat 1) (hF.up rfl) (pileR_set hp.2.2 rfl rfl)
              refine ⟨J', ?_, g2⟩
              refine Eq.trans (y174_11_13 (by omega) h111 (by omega) (by omega) (h112.trans y) (by omega) (by omega) w3 w4 rfl w4 (by omega) ru (by decide) bd rt (by decide) (by omega) (w32_id (by omega) (by omega))) ?_
              exact g1
    · simp only [if_neg (show ¬ 0 ≤ x by omega), if_neg (show ¬ x = -1 by omega), if_neg (show ¬ x = -2 by omega)] at ih hcs
      cases hst : evS f (tvx I0 c.toNat b g) k with
      | nil => rw [hst] at l1; simp only [List.length_nil] at l1; omega
      | cons t st =>
        cases st with
        | nil => rw [hst] at l1; simp only [List.length_cons, List.length_nil] at l1; omega
        | cons u st =>
          rw [hst] at l1 hp
          simp only [hst] at ih
          simp only [List.length_cons] at l1
          have w3 : w32 ((((t :: u :: st).length : Nat) : Int) + (-1)) = ((u :: st).length : Nat) := by
            rw [show (((t :: u :: st).length : Nat) : Int) + (-1) = ((u :: st).length : Nat) by simp only [List.length_cons]; omega]; exact wi (by simp only [List.length_cons]; omega)
          have w4 : w32 ((((u :: st).length : Nat) : Int) - 1) = (st.length : Nat) := by
            rw [show (((u :: st).length : Nat) : Int) - 1 = (st.length : Nat) by simp only [List.length_cons]; omega]; exact wi (by omega)
          have rt : J 115 (((u :: st).length : Nat) : Int).toNat = bI t := hp.1
          have ru : J 115 ((st.length : Nat) : Int).toNat = bI u := hp.2.1
          have bd : 0 ≤ (((u :: st).length : Nat) : Int) ∧ (((u :: st).length : Nat) : Int) < 100 := by simp only [List.length_cons]; omega
          cases u
          · cases t
            · obtain ⟨J', g1, g2⟩ := ih (up J 115 ((st.length : Nat) : Int).toNat 0) (hF.up rfl) (pileR_set hp.2.2 rfl rfl)
              refine ⟨J', ?_, g2⟩
              refine Eq.trans (y174_11_9 (by omega) h111 (by omega) (by omega) (h112.trans y) (by omega) (by omega) w3 w4 (by omega) w4 (by omega) ru rfl bd rt rfl (by omega) (w32_id (by omega) (by omega))) ?_
              exact g1
            · obtain ⟨J', g1, g2⟩ := ih (up J 115 ((st.length : Nat) : Int).toNat 1) (hF.up rfl) (pileR_set hp.2.2 rfl rfl)
              refine ⟨J', ?_, g2⟩
              refine Eq.trans (y174_11_10 (by omega) h111 (by omega) (by omega) (h112.trans y) (by omega) (by omega) w3 w4 (by omega) w4 (by omega) ru rfl bd rt (by decide) (by omega) (w32_id (by omega) (by omega))) ?_
              exact g1
          · obtain ⟨J', g1, g2⟩ := ih (up J 115 ((st.length : Nat) : Int).toNat 1) (hF.up rfl) (pileR_set hp.2.2 rfl rfl)
            refine ⟨J', ?_, g2⟩
            refine Eq.trans (y174_11_8 (by omega) h111 (by omega) (by omega) (h112.trans y) (by omega) (by omega) w3 w4 (by omega) w4 (by omega) ru (by decide) (by omega) (w32_id (by omega) (by omega))) ?_
            exact g1
    · simp only [if_pos (show 0 ≤ x by omega)] at ih hcs
      have hF' := WM_fr hM hF (by decide)
      have fa := m_factOf_ok (d := d) (L := L) (b := b) (g := g) (l := l) hF' hc
      have d1 : div32 (1000 * l + 100 * s + n) 1000 = l := by rw [dvp (by omega) (by omega)]; omega
      have d2 : div32 (1000 * l + 100 * s + n) 100 = 10 * l + s := by rw [dvp (by omega) (by omega)]; omega
      have m1 : Int.tmod (10 * l + s) 10 = s := by rw [mdp (by omega)]; omega
      have m2 : Int.tmod (1000 * l + 100 * s + n) 100 = n := by rw [mdp (by omega)]; omega
      have ht2 : tvx I0 c.toNat b g x = tst (fct I0 c.toNat b g l) s n := by
        unfold tvx
        rw [show x / 300 = l by omega, show x / 100 % 3 = s by omega, show x % 100 = n by omega]
      have hlt : (evS f (tvx I0 c.toNat b g) k).length < 60 := by omega
      obtain ⟨J1, g1, g2⟩ := ih (up J 115 (((evS f (tvx I0 c.toNat b g) k).length : Nat) : Int).toNat (bI (tvx I0 c.toNat b g x))) (hF.up rfl) (pileR_set hp rfl rfl)
      refine ⟨J1, ?_, g2⟩
      simp only [List.length_cons] at g1
      rw [show (((evS f (tvx I0 c.toNat b g) k).length + 1 : Nat) : Int) = (((evS f (tvx I0 c.toNat b g) k).length : Nat) : Int) + 1 by omega] at g1
      unfold tst at ht2
      rcases (by omega : s = 0 ∨ s = 1 ∨ s = 2) with y' | y' | y' <;> subst y'
      · replace ht2 : tvx I0 c.toNat b g x = decide (fct I0 c.toNat b g l < n) := ht2
        by_cases q : fct I0 c.toNat b g l < n
        · rw [decide_eq_true q] at ht2
          rw [ht2] at g1
          refine Eq.trans (y174_11_7 (by omega) h111 (by omega) (by omega) (h112.trans y) (by omega) (by omega) d1 fa d2 m1 rfl m2 (by omega) (by omega) (w32_id (by omega) (by omega)) (w32_id (by omega) (by omega))) ?_
          exact g1
        · rw [decide_eq_false q] at ht2
          rw [ht2] at g1
          refine Eq.trans (y174_11_6 (by omega) h111 (by omega) (by omega) (h112.trans y) (by omega) (by omega) d1 fa d2 m1 rfl m2 (by omega) (by omega) (w32_id (by omega) (by omega)) (w32_id (by omega) (by omega))) ?_
          exact g1
      · replace ht2 : tvx I0 c.toNat b g x = decide (fct I0 c.toNat b g l = n) := ht2
        by_cases q : fct I0 c.toNat b g l = n
        · rw [decide_eq_true q] at ht2
          rw [ht2] at g1
          refine Eq.trans (y174_11_5 (by omega) h111 (by omega) (by omega) (h112.trans y) (by omega) (by omega) d1 fa d2 m1 (by decide) rfl m2 (by omega) (by omega) (w32_id (by omega) (by omega)) (w32_id (by omega) (by omega))) ?_
          exact g1
        · rw [decide_eq_false q] at ht2
          rw [ht2] at g1
          refine Eq.trans (y174_11_4 (by omega) h111 (by omega) (by omega) (h112.trans y) (by omega) (by omega) d1 fa d2 m1 (by decide) rfl m2 (by omega) (by omega) (w32_id (by omega) (by omega)) (w32_id (by omega) (by omega))) ?_
          exact g1
      · replace ht2 : tvx I0 c.toNat b g x = decide (n < fct I0 c.toNat b g l) := ht2
        by_cases q : n < fct I0 c.toNat b g l
        · rw [decide_eq_true q] at ht2
          rw [ht2] at g1
          refine Eq.trans (y174_11_3 (by omega) h111 (by omega) (by omega) (h112.trans y) (by omega) (by omega) d1 fa d2 m1 (by decide) (by decide) m2 (by omega) (by omega) (w32_id (by omega) (by omega)) (w32_id (by omega) (by omega))) ?_
          exact g1
        · rw [decide_eq_false q] at ht2
          rw [ht2] at g1
          refine Eq.trans (y174_11_2 (by omega) h111 (by omega) (by omega) (h112.trans y) (by omega) (by omega) d1 fa d2 m1 (by decide) (by decide) m2 (by omega) (by omega) (w32_id (by omega) (by omega)) (w32_id (by omega) (by omega))) ?_
          exact g1
