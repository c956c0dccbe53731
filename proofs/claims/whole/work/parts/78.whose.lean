/-! WHOSE: the reference -/
def RSr (r : Nat → Nat) (J : Fn) : Prop := ∀ o, o < 6 → J 120 o = r o
theorem m_sr {d : Nat} {I J L : Fn} {N P : Nat} {r : Nat → Nat} (hM : WM I J) (hN : I 10 3 = N) (hP : I 10 6 = P) (hN6 : N ≤ 6) (hP6 : P ≤ 6) (hr : RSr r J) (hrN : ∀ o, o < P → r o ≤ N) : ∀ (n o U : Nat) (s : Int), o + n = P → U < 64 → 0 ≤ s ∧ s ≤ 4 * o → y199_6 (CallD (d + 2)) U s o J L = some (some (vi (svR (fitf I) N r n o U s)), S J L)
  | 0, o, U, s, ho, hU, hs => by
    have p := hM.2.2.1.trans hP
    show _ = some (some (vi s), _)
    exact (y199_6_1 p (by omega))
  | n + 1, o, U, s, ho, hU, hs => by
    have p := hM.2.2.1.trans hP
    have nn := hM.2.1.trans hN
    have ro := hr o (by omega)
    have rN := hrN o (by omega)
    have ih := fun U' s' => m_sr (d := d) (L := L) hM hN hP hN6 hP6 hr hrN n (o + 1) U' s' (by omega)
    rw [show ((o + 1 : Nat) : Int) = (o : Int) + 1 by omega] at ih
    by_cases z : r o = N
    · rw [show svR (fitf I) N r (n + 1) o U s = svR (fitf I) N r n (o + 1) U s from if_pos z]
      refine Eq.trans (y199_6_4 p (by omega) (by omega) (show J 120 _ = (r o : Int) from ro) nn (by omega) (w32_id (by omega) (by omega))) ?_
      exact ih U s hU (by omega)
    · cases ht : U.testBit (r o) with
      | true =>
        rw [show svR (fitf I) N r (n + 1) o U s = -1 from (if_neg z).trans (if_pos ht)]
        exact (y199_6_3 p (by omega) (by omega) (show J 120 _ = (r o : Int) from ro) nn (by omega) (m_has1 (by omega) (by omega) ht) (by decide))
      | false =>
        rw [show svR (fitf I) N r (n + 1) o U s = svR (fitf I) N r n (o + 1) (U ||| 2 ^ r o) (s + fitf I o (r o)) from (if_neg z).trans (if_neg (by rw [ht]; decide))]
        have p6 : 2 ^ r o < 64 := Nat.pow_lt_pow_right (a := 2) (by decide) (m := r o) (n := 6) (by omega)
        have p7 : U ||| 2 ^ r o < 64 := Nat.or_lt_two_pow (n := 6) hU p6
        have fo := m_fitOf_ok (d := d) (L := L) (o := (o : Int)) (c := (r o : Int)) hM (by omega) (by omega)
        rw [Int.toNat_natCast, Int.toNat_natCast] at fo
        have fr := fitf_rng I o (r o)
        have fe : fitv I o (r o) = fitf I o (r o) := rfl
        rw [fe] at fo
        refine Eq.trans (y199_6_2 p (by omega) (by omega) (show J 120 _ = (r o : Int) from ro) nn (by omega) (m_has0 (by omega) (by omega) ht) rfl (show J 120 _ = (r o : Int) from ro) (shl1_all _ (by omega)) (or32_nat (by omega) (by omega)) fo (w32_id (by omega) (by omega)) (w32_id (by omega) (by omega))) ?_
        exact ih _ _ p7 (by omega)
theorem m_sumOfRow {d : Nat} {I J L : Fn} {N P : Nat} {r : Nat → Nat} (hM : WM I J) (hN : I 10 3 = N) (hP : I 10 6 = P) (hN6 : N ≤ 6) (hP6 : P ≤ 6) (hr : RSr r J) (hrN : ∀ o, o < P → r o ≤ N) : CallD (d + 3) 199 [vr 92] (S J L) = some (some (vi (svR (fitf I) N r P 0 0 0)), S J L) := by
  refine Eq.trans (e199_1) ?_
  exact m_sr (d := d) (L := L) hM hN hP hN6 hP6 hr hrN P 0 0 0 (by omega) (by omega) (by omega)
/-- nextRow: digit k goes up, those behind it begin again -/
theorem m_nr {F : Cal} {J0 L : Fn} {N P k : Nat} {r : Nat → Nat} (hN : J0 92 2 = N) (hP6 : P ≤ 6) (hN6 : N ≤ 6) (hk : k < P) (hrk : r k < N) (hrs : ∀ o, k < o → o < P → r o = N) : ∀ (m : Nat) (J : Fn), k + 1 ≤ m → m ≤ P → Fr [120] J0 J → RSr (fun o => if m ≤ o ∧ o < P then 0 else r o) J → ∃ J', y200_7 F ((m : Int) - 1) J L = some (some (vi 1), S J' L) ∧ (Fr [120] J0 J' ∧ RSr (fun o => if o = k then r k + 1 else if k < o ∧ o < P then 0 else r o) J')
  | 0, J, h1, h2, hf, hm => by omega
  | m + 1, J, h1, h2, hf, hm => by
    have nn : J 92 2 = N := (hf 92 2 rfl).trans hN
    have rm : J 120 m = r m := by
      rw [hm m (by omega)]
      show (((if m + 1 ≤ m ∧ m < P then 0 else r m : Nat)) : Int) = _
      rw [if_neg (by omega)]
    rw [show ((m + 1 : Nat) : Int) - 1 = (m : Int) by omega]
    by_cases e : m = k
    · subst e
      refine ⟨up J 120 m (r m + 1), ?_, hf.up rfl, fun o ho => ?_⟩
      · exact (y200_7_3 (by omega) (by omega) (show J 120 _ = (r m : Int) from rm) nn (by omega) (show _ = (r m : Int) + 1 from w32_id (by omega) (by omega)))
      · rw [up_eq]
        dsimp only
        by_cases z : o = m
        · rw [if_pos ⟨rfl, z⟩, if_pos z]; omega
        · rw [if_neg (fun y => z y.2), if_neg z, hm o ho]
          dsimp only
          by_cases q : m + 1 ≤ o ∧ o < P
          · rw [if_pos q, if_pos (by omega)]
          · rw [if_neg q, if_neg (by omega)]
    · have rN := hrs m (by omega) (by omega)
      obtain ⟨J', g1, g2⟩ := m_nr (F := F) (L := L) hN hP6 hN6 hk hrk hrs m (up J 120 m 0) (by omega) (by omega) (hf.up rfl) (fun o ho => by
        rw [up_eq]
        dsimp only
        by_cases z : o = m
        · rw [if_pos ⟨rfl, z⟩, if_pos (by omega)]; rfl
        · rw [if_neg (fun y => z y.2), hm o ho]
          dsimp only
          by_cases q : m + 1 ≤ o ∧ o < P
          · rw [if_pos q, if_pos (by omega)]
          · rw [if_neg q, if_neg (by omega)])
      refine ⟨J', ?_, g2⟩
      rw [show (m : Int) - 1 = (m : Int) + -1 by omega] at g1
      refine Eq.trans (y200_7_2 (by omega) (by omega) (show J 120 _ = (r m : Int) from rm) nn (by omega) (w32_id (by omega) (by omega))) ?_
      exact g1
theorem m_nrEnd {F : Cal} {J0 L : Fn} {N P : Nat} {r : Nat → Nat} (hN : J0 92 2 = N) (hP6 : P ≤ 6) (hN6 : N ≤ 6) (hrs : ∀ o, o < P → r o = N) : ∀ (m : Nat) (J : Fn), m ≤ P → Fr [120] J0 J → RSr (fun o => if m ≤ o ∧ o < P then 0 else r o) J → ∃ J', y200_7 F ((m : Int) - 1) J L = some (some (vi 0), S J' L) ∧ Fr [120] J0 J'
  | 0, J, h2, hf, hm => by
    refine ⟨J, ?_, hf⟩
    exact (y200_7_1 (by omega))
  | m + 1, J, h2, hf, hm => by
    have nn : J 92 2 = N := (hf 92 2 rfl).trans hN
    have rm : J 120 m = r m := by
      rw [hm m (by omega)]
      show (((if m + 1 ≤ m ∧ m < P then 0 else r m : Nat)) : Int) = _
      rw [if_neg (by omega)]
    have rN := hrs m (by omega)
    obtain ⟨J', g1, g2⟩ := m_nrEnd (F := F) (L := L) hN hP6 hN6 hrs m (up J 120 m 0) (by omega) (hf.up rfl) (fun o ho => by
      rw [up_eq]
      dsimp only
      by_cases z : o = m
      · rw [if_pos ⟨rfl, z⟩, if_pos (by omega)]; rfl
      · rw [if_neg (fun y => z y.2), hm o ho]
        dsimp only
        by_cases q : m + 1 ≤ o ∧ o < P
        · rw [if_pos q, if_pos (by omega)]
        · rw [if_neg q, if_neg (by omega)])
    refine ⟨J', ?_, g2⟩
    rw [show ((m + 1 : Nat) : Int) - 1 = (m : Int) by omega]
    rw [show (m : Int) - 1 = (m : Int) + -1 by omega] at g1
    refine Eq.trans (y200_7_2 (by omega) (by omega) (show J 120 _ = (r m : Int) from rm) nn (by omega) (w32_id (by omega) (by omega))) ?_
    exact g1
theorem m_nextRow {d : Nat} {J L : Fn} {N P k : Nat} {r : Nat → Nat} (hN : J 92 2 = N) (hP : J 92 3 = P) (hP6 : P ≤ 6) (hN6 : N ≤ 6) (hk : k < P) (hrk : r k < N) (hrs : ∀ o, k < o → o < P → r o = N) (hr : RSr r J) : ∃ J', CallD (d + 1) 200 [vr 92] (S J L) = some (some (vi 1), S J' L) ∧ (Fr [120] J J' ∧ RSr (fun o => if o = k then r k + 1 else if k < o ∧ o < P then 0 else r o) J') := by
  obtain ⟨J', g1, g2⟩ := m_nr (F := CallD d) (L := L) hN hP6 hN6 hk hrk hrs P J (by omega) (Nat.le_refl _) (Fr.refl _ _) (fun o ho => by
    dsimp only
    rw [if_neg (by omega)]; exact hr o ho)
  refine ⟨J', ?_, g2⟩
  refine Eq.trans (e200_1 hP (w32_id (by omega) (by omega))) ?_
  exact g1
theorem m_nextEnd {d : Nat} {J L : Fn} {N P : Nat} {r : Nat → Nat} (hN : J 92 2 = N) (hP : J 92 3 = P) (hP6 : P ≤ 6) (hN6 : N ≤ 6) (hrs : ∀ o, o < P → r o = N) (hr : RSr r J) : ∃ J', CallD (d + 1) 200 [vr 92] (S J L) = some (some (vi 0), S J' L) ∧ Fr [120] J J' := by
  obtain ⟨J', g1, g2⟩ := m_nrEnd (F := CallD d) (L := L) hN hP6 hN6 hrs P J (Nat.le_refl _) (Fr.refl _ _) (fun o ho => by
    dsimp only
    rw [if_neg (by omega)]; exact hr o ho)
  refine ⟨J', ?_, g2⟩
  refine Eq.trans (e200_1 hP (w32_id (by omega) (by omega))) ?_
  exact g1
/-- the best row is kept -/
theorem m_cpb {d : Nat} {J0 L : Fn} {x : Int} : ∀ (q o : Nat) (J : Fn), o + q = 6 → Fr [121] J0 J → (∀ j, j < o → J 121 j = J0 120 j) → ∃ J', (Fr [121] J0 J' ∧ ∀ j, j < 6 → J' 121 j = J0 120 j) ∧ ∀ v4 J3, CallD d 200 [vr 92] (S J' L) = some (some (vi v4), S J3 L) → y198_44 (CallD d) x o J L = y198_25 (CallD d) x v4 J3 L
  | 0, o, J, ho, hf, hm => by
    have : o = 6 := by omega
    subst this
    refine ⟨J, ⟨hf, hm⟩, fun v4 J3 hv => ?_⟩
    exact (y198_44_1 (by omega) hv)
  | q + 1, o, J, ho, hf, hm => by
    have e := hf 120 o rfl
    obtain ⟨J', g1, g2⟩ := m_cpb (d := d) (L := L) (x := x) q (o + 1) (up J 121 o (J0 120 o)) (by omega) (hf.up rfl) (fun j hj => by
      rw [up_eq]
      by_cases z : j = o
      · rw [if_pos ⟨rfl, z⟩, z]
      · rw [if_neg (fun y => z y.2)]; exact hm j (by omega))
    refine ⟨J', g1, fun v4 J3 hv => ?_⟩
    have := g2 v4 J3 hv
    rw [show ((o + 1 : Nat) : Int) = (o : Int) + 1 by omega] at this
    refine Eq.trans (y198_44_2 (by omega) (by omega) (show J 120 _ = J0 120 o from e) (w32_id (by omega) (by omega))) ?_
    exact this
def BSr (x : MB) (J : Fn) : Prop := 0 ≤ x.1 → ∀ o, o < 6 → J 121 o = x.2 o
theorem m_suf {d : Nat} {I K L : Fn} {N P : Nat} (hM : WM I K) (hN : I 10 3 = N) (hP : I 10 6 = P) (hN6 : N ≤ 6) (hP6 : P ≤ 6) : ∀ (n k : Nat) (r : Nat → Nat) (J : Fn) (x : MB), k + n = P → Fr [120, 121] K J → RSr r J → BSr x J → (∀ o, o < P → r o ≤ N) → (∀ o, k ≤ o → o < P → r o = 0) → -1 ≤ x.1 → ∃ J', (Fr [120, 121] K J' ∧ (RSr (fun o => if k ≤ o ∧ o < P then N else r o) J' ∧ (BSr (en (fitf I) N P n k r x) J' ∧ -1 ≤ (en (fitf I) N P n k r x).1))) ∧ ∀ v4 J3, CallD (d + 3) 200 [vr 92] (S J' L) = some (some (vi v4), S J3 L) → y198_25 (CallD (d + 3)) x.1 1 J L = y198_25 (CallD (d + 3)) (en (fitf I) N P n k r x).1 v4 J3 L
  | 0, k, r, J, x, hk, hf, hr, hb, hrN, hr0, hx => by
    have hMJ := WM_fr hM hf (by decide)
    have sr := m_sumOfRow (d := d) (L := L) hMJ hN hP hN6 hP6 hr hrN
    have er : (fun o => if k ≤ o ∧ o < P then N else r o) = r := by
      funext o
      exact if_neg (by omega)
    rw [er]
    have een : en (fitf I) N P 0 k r x = if x.1 < svR (fitf I) N r P 0 0 0 then (svR (fitf I) N r P 0 0 0, r) else x := rfl
    rw [een]
    by_cases q : x.1 < svR (fitf I) N r P 0 0 0
    · rw [if_pos q]
      obtain ⟨J', ⟨g1, g2⟩, g3⟩ := m_cpb (d := d + 3) (J0 := J) (L := L) (x := svR (fitf I) N r P 0 0 0) 6 0 J (by omega) (Fr.refl _ _) (fun j hj => by omega)
      refine ⟨J', ⟨hf.trans (g1.mono (by decide)), fun o ho => (g1 120 o rfl).trans (hr o ho), fun _ o ho => (g2 o ho).trans (hr o ho), by dsimp only; omega⟩, fun v4 J3 hv => ?_⟩
      refine Eq.trans (y198_25_3 (by decide) sr (by omega)) ?_
      exact g3 v4 J3 hv
    · rw [if_neg q]
      refine ⟨J, ⟨hf, hr, hb, hx⟩, fun v4 J3 hv => ?_⟩
      exact (y198_25_2 (by decide) sr (by omega) hv)
  | n + 1, k, r, J, x, hk, hf, hr, hb, hrN, hr0, hx => by
    have dig : ∀ (c d' : Nat) (J : Fn) (x : MB), d' + c = N → Fr [120, 121] K J → RSr (rowS r k d') J → BSr x J → -1 ≤ x.1 → ∃ J', (Fr [120, 121] K J' ∧ (RSr (fun o => if k ≤ o ∧ o < P then N else r o) J' ∧ (BSr (enD (fun e y => en (fitf I) N P n (k + 1) (rowS r k e) y) c d' x) J' ∧ -1 ≤ (enD (fun e y => en (fitf I) N P n (k + 1) (rowS r k e) y) c d' x).1))) ∧ ∀ v4 J3, CallD (d + 3) 200 [vr 92] (S J' L) = some (some (vi v4), S J3 L) → y198_25 (CallD (d + 3)) x.1 1 J L = y198_25 (CallD (d + 3)) (enD (fun e y => en (fitf I) N P n (k + 1) (rowS r k e) y) c d' x).1 v4 J3 L := by
      intro c
      induction c with
      | zero =>
        intro d' J x hd hf hr hb hx
        have hdN : d' = N := by omega
        obtain ⟨J', ⟨g1, g2, g3, g4⟩, g5⟩ := m_suf (d := d) (L := L) hM hN hP hN6 hP6 n (k + 1) (rowS r k d') J x (by omega) hf hr hb (fun o ho => by
          unfold rowS
          split
          · omega
          · exact hrN o ho) (fun o h1 h2 => by
          unfold rowS
          rw [if_neg (by omega)]
          exact hr0 o (by omega) h2) hx
        refine ⟨J', ⟨g1, fun o ho => ?_, g3, g4⟩, g5⟩
        rw [g2 o ho]
        dsimp only
        unfold rowS
        by_cases z : o = k
        · rw [if_neg (by omega), if_pos z, if_pos (by omega), hdN]
        · rw [if_neg z]
          by_cases q : k + 1 ≤ o ∧ o < P
          · rw [if_pos q, if_pos (by omega)]
          · rw [if_neg q, if_neg (by omega)]
      | succ c ih =>
        intro d' J x hd hf hr hb hx
        obtain ⟨J1, ⟨g1, g2, g3, g4⟩, g5⟩ := m_suf (d := d) (L := L) hM hN hP hN6 hP6 n (k + 1) (rowS r k d') J x (by omega) hf hr hb (fun o ho => by
          unfold rowS
          split
          · omega
          · exact hrN o ho) (fun o h1 h2 => by
          unfold rowS
          rw [if_neg (by omega)]
          exact hr0 o (by omega) h2) hx
        have hM1 := WM_fr hM g1 (by decide)
        have rk : (if k + 1 ≤ k ∧ k < P then N else rowS r k d' k) = d' := by
          rw [if_neg (by omega)]
          exact if_pos rfl
        obtain ⟨J2, e1, e2, e3⟩ := m_nextRow (d := d + 2) (L := L) (k := k) (hM1.2.1.trans hN) (hM1.2.2.1.trans hP) hP6 hN6 (by omega) (by rw [rk]; omega) (fun o h1 h2 => by
          rw [if_pos (by omega)]) g2
        obtain ⟨J', q1, q2⟩ := ih (d' + 1) J2 (en (fitf I) N P n (k + 1) (rowS r k d') x) (by omega) (g1.trans (e2.mono (by decide))) (fun o ho => by
          rw [e3 o ho]
          dsimp only
          unfold rowS
          by_cases z : o = k
          · rw [if_pos z, if_pos z, if_neg (by omega), if_pos rfl]
          · rw [if_neg z, if_neg z]
            by_cases q : k < o ∧ o < P
            · rw [if_pos q, hr0 o (by omega) q.2, if_neg z]
            · rw [if_neg q, if_neg (by omega), if_neg z]) (fun h o ho => (e2 121 o rfl).trans (g3 h o ho)) g4
        refine ⟨J', q1, fun v4 J3 hv => ?_⟩
        exact (g5 1 J2 e1).trans (q2 v4 J3 hv)
    have e0 : rowS r k 0 = r := by
      funext o
      unfold rowS
      by_cases z : o = k
      · rw [if_pos z, z, hr0 k (Nat.le_refl _) (by omega)]
      · rw [if_neg z]
    exact dig N 0 J x (by omega) hf (by rw [e0]; exact hr) hb hx
theorem m_b0 {F : Cal} {J0 L : Fn} : ∀ (q o : Nat) (J : Fn), o + q = 6 → Fr [120] J0 J → (∀ j, j < o → J 120 j = 0) → ∃ J', y198_4 F (-1) o J L = y198_25 F (-1) 1 J' L ∧ (Fr [120] J0 J' ∧ ∀ j, j < 6 → J' 120 j = 0)
  | 0, o, J, ho, hf, hm => by
    have : o = 6 := by omega
    subst this
    refine ⟨J, ?_, hf, hm⟩
    exact (y198_4_1 (by omega))
  | q + 1, o, J, ho, hf, hm => by
    obtain ⟨J', g1, g2⟩ := m_b0 (F := F) (J0 := J0) (L := L) q (o + 1) (up J 120 o 0) (by omega) (hf.up rfl) (fun j hj => by
      rw [up_eq]
      by_cases z : j = o
      · rw [if_pos ⟨rfl, z⟩]
      · rw [if_neg (fun y => z y.2)]; exact hm j (by omega))
    refine ⟨J', ?_, g2⟩
    rw [show ((o + 1 : Nat) : Int) = (o : Int) + 1 by omega] at g1
    refine Eq.trans (y198_4_2 (by omega) (by omega) (w32_id (by omega) (by omega))) ?_
    exact g1
theorem m_layBest_ok {d : Nat} {I K L : Fn} {N P : Nat} (hM : WM I K) (hN : I 10 3 = N) (hP : I 10 6 = P) (hN6 : N ≤ 6) (hP6 : P ≤ 6) : ∃ J, CallD (d + 4) 198 [vr 92] (S K L) = some (some (vi (BB (fitf I) N P 0 0)), S J L) ∧ (Fr [120, 121] K J ∧ ∀ o, o < P → J 121 o = gD (fitf I) N P o) := by
  obtain ⟨J1, h1, h2, h3⟩ := m_b0 (F := CallD (d + 3)) (J0 := K) (L := L) 6 0 K (by omega) (Fr.refl _ _) (fun j hj => by omega)
  obtain ⟨J2, ⟨g1, g2, g3, g4⟩, g5⟩ := m_suf (d := d) (L := L) hM hN hP hN6 hP6 P 0 (fun _ => 0) J1 (-1, fun _ => 0) (by omega) (h2.mono (by decide)) (fun o ho => h3 o ho) (fun h => absurd h (by decide)) (fun _ _ => Nat.zero_le _) (fun _ _ _ => rfl) (Int.le_refl _)
  have hM2 := WM_fr hM g1 (by decide)
  obtain ⟨J3, e1, e2⟩ := m_nextEnd (d := d + 2) (L := L) (hM2.2.1.trans hN) (hM2.2.2.1.trans hP) hP6 hN6 (fun o ho => by
    rw [if_pos (by omega)]) g2
  have hB := BB_rng (N := N) (fitf_rng I) P 0 0
  rw [en_all (fitf_rng I)] at g3 g5
  have fin := g5 0 J3 e1
  refine ⟨J3, ?_, g1.trans (e2.mono (by decide)), fun o ho => ?_⟩
  · refine Eq.trans (e198_1) ?_
    refine Eq.trans h1 ?_
    refine Eq.trans fin ?_
    exact (y198_25_1 rfl)
  · rw [e2 121 o rfl, g3 hB.1 o (by omega)]
    congr 1
    have := grB_at (fit := fitf I) (N := N) (P := P) P 0 (fun _ => 0) o (by omega)
    rw [if_pos ⟨Nat.zero_le _, ho⟩] at this
    exact this
theorem k_whose {I L : Fn} {a : Int} (h : Rel I L) : SameI 85 197 [vi a] I L := by
  have hn := h.2.1.2.1
  have hn2 := h.2.1.2.2.1
  have hr := h.bags
  have hr2 := h.1.2.2.1
  unfold rng at hr hr2
  obtain ⟨N, hN⟩ : ∃ N : Nat, I 10 3 = N := ⟨(I 10 3).toNat, by omega⟩
  obtain ⟨P, hP⟩ : ∃ P : Nat, I 10 6 = P := ⟨(I 10 6).toNat, by omega⟩
  have hN6 : N ≤ 6 := by omega
  have hP6 : P ≤ 6 := by omega
  have hB := BB_rng (N := N) (fitf_rng I) P 0 0
  obtain ⟨J, f1, f2, f3⟩ := c_weigh (d := 56) h hN hP hN6 hP6
  have hMJ := WM_fr h.2.1 f2 (by decide)
  obtain ⟨J2, g1, g2, g3⟩ := m_layBest_ok (d := 55) (L := L) hMJ hN hP hN6 hP6
  have n2 : J 92 3 = P := (f2 92 3 rfl).trans (hn2.trans hP)
  have n3 : J2 92 2 = N := (g2 92 2 rfl).trans ((f2 92 2 rfl).trans (hn.trans hN))
  have cN : J 10 3 = N := (f2 10 3 rfl).trans hN
  have hR : Rel J2 L := h.scr ((f2.mono (by decide)).trans (g2.mono (by decide))) (Fr.refl _ _)
  by_cases a1 : a = -1
  · have m0 := f3.1 0 (Nat.zero_le _) (Nat.zero_le _) 0 (Nat.pow_pos (by decide)) (by decide)
    rw [Nat.sub_zero] at m0
    exact ⟨_, _, _, _, _, (e85_2 (by omega) f1 (by omega) (e90_1 (show J 85 0 = _ from m0))), (e197_3 n2 (w32_id (by omega) (by omega)) (mI1 (by omega)) (by decide) g1 (by omega)), hR⟩
  · by_cases ha : 0 ≤ a ∧ a < P
    · have bo := c_bagOf (d := 56) (L := L) cN hN6 hP6 f3 ha
      have gv := g3 a.toNat (by omega)
      have gle : gD (fitf I) N P a.toNat ≤ N := by
        have := fsB_le (v := wB (fitf I) N (P - (a.toNat + 1)) a.toNat (gU (fitf I) N P a.toNat)) (U := gU (fitf I) N P a.toNat) (m := BB (fitf I) N (P - a.toNat) a.toNat (gU (fitf I) N P a.toNat)) (r := N) (d := 0)
        unfold gD
        omega
      by_cases q : gD (fitf I) N P a.toNat < N
      · rw [if_pos q] at bo
        exact ⟨_, _, _, _, _, (e85_3 (by omega) (isO1 (by omega)) (by decide) f1 (by omega) bo), (e197_1 n2 (w32_id (by omega) (by omega)) (mI1 (by omega)) (by decide) g1 (by omega) (by omega) gv n3 (by omega)), hR⟩
      · rw [if_neg q] at bo
        exact ⟨_, _, _, _, _, (e85_3 (by omega) (isO1 (by omega)) (by decide) f1 (by omega) bo), (e197_2 n2 (w32_id (by omega) (by omega)) (mI1 (by omega)) (by decide) g1 (by omega) (by omega) gv n3 (by omega)), hR⟩
    · exact ⟨_, _, _, _, _, (e85_5 (by omega) (isO0 (by omega)) rfl), (e197_4 (hn2.trans hP) (w32_id (by omega) (by omega)) (mI0 (by omega)) rfl), h⟩
