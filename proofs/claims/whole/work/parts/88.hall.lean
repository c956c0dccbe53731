/-! HALLS: what is read is as it should be -/
theorem dep_congr {f g : Nat → Int} : ∀ {n : Nat}, (∀ k, k < n → f k = g k) → dep f n = dep g n
  | 0, _ => rfl
  | n + 1, h => by
    have ih := dep_congr (n := n) (fun k hk => h k (by omega))
    unfold dep
    rw [ih, h n (by omega)]
theorem dep_L : ∀ (cs pre : List Int) (n v : Nat), dep (fun k => (pre ++ cs).getD k 0) pre.length = some n → dpL cs n = some v → dep (fun k => (pre ++ cs).getD k 0) (pre.length + cs.length) = some v
  | [], pre, n, v, h, hv => by
    have : n = v := by
      have h' : some n = some v := hv
      injection h'
    rw [← this]
    exact h
  | x :: r, pre, n, v, h, hv => by
    have e : pre ++ x :: r = (pre ++ [x]) ++ r := by simp only [List.append_assoc, List.singleton_append]
    have ex : (pre ++ x :: r).getD pre.length 0 = x := by
      rw [gD_r (Nat.le_refl _), Nat.sub_self]
      rfl
    have nx : ∀ m, dep (fun k => (pre ++ x :: r).getD k 0) (pre.length + 1) = some m → dpL r m = some v → dep (fun k => (pre ++ x :: r).getD k 0) (pre.length + (x :: r).length) = some v := by
      intro m h1 h2
      have := dep_L r (pre ++ [x]) m v (by rw [← e, List.length_append]; exact h1) h2
      rw [← e, List.length_append] at this
      simp only [List.length_cons, List.length_nil] at this ⊢
      rw [show pre.length + (r.length + 1) = pre.length + (0 + 1) + r.length by omega]
      exact this
    rw [dpL_cons] at hv
    have st : dep (fun k => (pre ++ x :: r).getD k 0) (pre.length + 1) = if 0 ≤ x then (if n < 60 then some (n + 1) else none) else if x = -1 then (if 1 ≤ n then some n else none) else if 2 ≤ n then some (n - 1) else none := by
      show (match dep (fun k => (pre ++ x :: r).getD k 0) pre.length with | none => none | some n => if 0 ≤ (pre ++ x :: r).getD pre.length 0 then (if n < 60 then some (n + 1) else none) else if (pre ++ x :: r).getD pre.length 0 = -1 then (if 1 ≤ n then some n else none) else if 2 ≤ n then some (n - 1) else none) = _
      rw [h, ex]
    split at hv
    · next e1 =>
      rw [if_pos e1] at st
      split at hv
      · next e2 => rw [if_pos e2] at st; exact nx _ st hv
      · cases hv
    · next e1 =>
      rw [if_neg e1] at st
      split at hv
      · next e3 =>
        rw [if_pos e3] at st
        split at hv
        · next e2 => rw [if_pos e2] at st; exact nx _ st hv
        · cases hv
      · next e3 =>
        rw [if_neg e3] at st
        split at hv
        · next e2 => rw [if_pos e2] at st; exact nx _ st hv
        · cases hv
theorem dep_dpL {cs : List Int} (h : dpL cs 0 = some 1) : dep (fun k => cs.getD k 0) cs.length = some 1 := by
  have := dep_L cs [] 0 1 rfl h
  simp only [List.nil_append, List.length_nil, Nat.zero_add] at this
  exact this
/-- good clauses -/
def WFc (cl : CL) (T : List Int) : Prop := ∀ i, i < cl.length → (0 ≤ (cl.getD i clD).1 ∧ (cl.getD i clD).1 ≤ 3) ∧ ((0 ≤ (cl.getD i clD).2.1 ∧ (cl.getD i clD).2.1 ≤ 99) ∧ ((stE cl i ≤ (cl.getD i clD).2.2 ∧ (cl.getD i clD).2.2 ≤ T.length) ∧ ((cl.getD i clD).1 ≠ 3 → (∀ k, stE cl i + k < (cl.getD i clD).2.2 → vcd (T.getD (stE cl i + k) 0)) ∧ dep (fun k => T.getD (stE cl i + k) 0) ((cl.getD i clD).2.2 - stE cl i) = some 1)))
theorem WFc_add {fed p : Nat} {cl : CL} {T : List Int} {x : PC} (h : WFc cl T) (hst : stE cl cl.length = T.length) (g : GC fed p x) (ho : x.1 = true) : WFc (cl ++ [(x.2.2.1, x.2.2.2.1, (T ++ x.2.2.2.2).length)]) (T ++ x.2.2.2.2) := by
  obtain ⟨g1, g2, g3, g4, g5, g6⟩ := g.2 ho
  intro i hi
  rw [List.length_append] at hi
  have hi' : i < cl.length + 1 := hi
  by_cases q : i < cl.length
  · rw [cD_l q, stE_l (by omega)]
    obtain ⟨a1, a2, a3, a4⟩ := h i q
    refine ⟨a1, a2, ⟨a3.1, by rw [List.length_append]; omega⟩, fun z => ?_⟩
    obtain ⟨b1, b2⟩ := a4 z
    refine ⟨fun k hk => ?_, ?_⟩
    · rw [gD_l (by omega)]
      exact b1 k hk
    · rw [← b2]
      exact dep_congr (fun k hk => gD_l (by omega))
  · have : i = cl.length := by omega
    subst this
    rw [cD_r (Nat.le_refl _), Nat.sub_self, stE_l (Nat.le_refl _), hst]
    refine ⟨g2, g3, ⟨by show T.length ≤ (T ++ x.2.2.2.2).length; rw [List.length_append]; omega, Nat.le_refl _⟩, fun z => ⟨fun k hk => ?_, ?_⟩⟩
    · have hk' : T.length + k < (T ++ x.2.2.2.2).length := hk
      rw [List.length_append] at hk'
      rw [gD_r (by omega), show T.length + k - T.length = k by omega]
      refine g5 _ ?_
      rw [List.getD_eq_getElem?_getD, List.getElem?_eq_getElem (by omega)]
      exact List.getElem_mem _
    · have d1 := dep_dpL (g6 z)
      show dep _ ((T ++ x.2.2.2.2).length - T.length) = some 1
      rw [List.length_append, show T.length + x.2.2.2.2.length - T.length = x.2.2.2.2.length by omega, ← d1]
      exact dep_congr (fun k hk => by rw [gD_r (by omega), show T.length + k - T.length = k by omega])
/-- a good reading of the whole -/
def WH (fed : Nat) (y : PH) : Prop := y.2.1 ≤ fed ∧ (y.1 = true → y.2.2.1.length ≤ 10 ∧ (y.2.2.2.length ≤ fed ∧ WFc y.2.2.1 y.2.2.2))
theorem WH_G {t : Nat → Int} {fed : Nat} (hT : TXT t fed) : ∀ (fuel n p : Nat) (cl : CL) (T : List Int), n + fuel = 9 → p ≤ fed → T.length ≤ p → cl.length = n → WFc cl T → stE cl n = T.length → WH fed (pG t fed fuel p cl T) := by
  intro fuel
  induction fuel with
  | zero =>
    intro n p cl T hn hp hl hcl hW hst
    have g := GC_ok hT hp
    unfold pG
    split
    · next ho =>
      obtain ⟨g1, g2, g3, g4, g5, g6⟩ := g.2 ho
      show WH fed (if fed ≤ (pCl t p).2.1 then _ else _)
      split
      · refine ⟨g.1.2, fun _ => ⟨?_, ?_, WFc_add hW (by rw [hcl]; exact hst) g ho⟩⟩
        · show (cl ++ [_]).length ≤ 10
          rw [List.length_append]
          show cl.length + 1 ≤ 10
          omega
        · show (T ++ (pCl t p).2.2.2.2).length ≤ fed
          rw [List.length_append]
          have := g.1
          omega
      · exact ⟨g.1.2, fun z => absurd (show false = true from z) (by decide)⟩
    · exact ⟨g.1.2, fun z => absurd (show false = true from z) (by decide)⟩
  | succ k ih =>
    intro n p cl T hn hp hl hcl hW hst
    have g := GC_ok hT hp
    unfold pG
    split
    · next ho =>
      obtain ⟨g1, g2, g3, g4, g5, g6⟩ := g.2 ho
      have W2 := WFc_add hW (by rw [hcl]; exact hst) g ho
      by_cases qf : fed ≤ (pCl t p).2.1
      · rw [show pH t fed (k + 1) (pCl t p).2.1 (cl ++ [((pCl t p).2.2.1, (pCl t p).2.2.2.1, (T ++ (pCl t p).2.2.2.2).length)]) (T ++ (pCl t p).2.2.2.2) = (true, (pCl t p).2.1, (cl ++ [((pCl t p).2.2.1, (pCl t p).2.2.2.1, (T ++ (pCl t p).2.2.2.2).length)]), (T ++ (pCl t p).2.2.2.2)) from if_pos qf]
        refine ⟨g.1.2, fun _ => ⟨?_, ?_, W2⟩⟩
        · show (cl ++ [_]).length ≤ 10
          rw [List.length_append]
          show cl.length + 1 ≤ 10
          omega
        · show (T ++ (pCl t p).2.2.2.2).length ≤ fed
          rw [List.length_append]
          have := g.1
          omega
      · by_cases e59 : t (pCl t p).2.1 = 59
        · rw [show pH t fed (k + 1) (pCl t p).2.1 (cl ++ [((pCl t p).2.2.1, (pCl t p).2.2.2.1, (T ++ (pCl t p).2.2.2.2).length)]) (T ++ (pCl t p).2.2.2.2) = pG t fed k ((pCl t p).2.1 + 1) (cl ++ [((pCl t p).2.2.1, (pCl t p).2.2.2.1, (T ++ (pCl t p).2.2.2.2).length)]) (T ++ (pCl t p).2.2.2.2) from (if_neg qf).trans (if_pos e59)]
          refine ih (n + 1) _ _ _ (by omega) (by omega) (by rw [List.length_append]; omega) (by rw [List.length_append, hcl]; rfl) W2 ?_
          show ((cl ++ [((pCl t p).2.2.1, (pCl t p).2.2.2.1, (T ++ (pCl t p).2.2.2.2).length)]).getD n clD).2.2 = _
          rw [cD_r (by omega), hcl, Nat.sub_self]
          rfl
        · rw [show pH t fed (k + 1) (pCl t p).2.1 (cl ++ [((pCl t p).2.2.1, (pCl t p).2.2.2.1, (T ++ (pCl t p).2.2.2.2).length)]) (T ++ (pCl t p).2.2.2.2) = (false, (pCl t p).2.1, [], []) from (if_neg qf).trans (if_neg e59)]
          exact ⟨g.1.2, fun z => absurd (show false = true from z) (by decide)⟩
    · exact ⟨g.1.2, fun z => absurd (show false = true from z) (by decide)⟩
theorem WH_all {t : Nat → Int} {fed : Nat} (hT : TXT t fed) : WH fed (pHall t fed) := by
  rw [pHall_G]
  exact WH_G hT 9 0 0 [] [] (by omega) (Nat.zero_le _) (Nat.le_refl _) rfl (fun i hi => by simp only [List.length_nil] at hi; omega) rfl
/-! HALLS: both lay the same -/
theorem frm_stE {h : Nat} {cl : CL} {T : List Int} {M : Fn} (a : CEx h cl T M) {i : Nat} (hi : i < cl.length) : frm M h i = (stE cl i : Nat) := by
  cases i with
  | zero => rfl
  | succ i => exact (a.2.2.1 i (by omega)).2.2
theorem HallR_new {h f fed p : Nat} {cl : CL} {T : List Int} {M : Fn} (a : CEx h cl T M) (b : MEc f cl M) (m : MTx f p T M) (h107 : M 107 f = (cl.length : Nat)) (hl : cl.length ≤ 10) (hT : T.length ≤ 100) (w : WFc cl T) : HallR M h f := by
  obtain ⟨a1, a2, a3, a4⟩ := a
  refine ⟨by rw [a1]; unfold rng; omega, by rw [h107, a1], fun i hi => ?_⟩
  have hi' : i < cl.length := by rw [a1] at hi; omega
  obtain ⟨c1, c2, c3⟩ := a3 i hi'
  obtain ⟨b1, b2, b3⟩ := b i hi'
  obtain ⟨w1, w2, w3, w4⟩ := w i hi'
  rw [frm_stE ⟨a1, a2, a3, a4⟩ hi']
  unfold ClR
  rw [c1, c2, c3, b1, b2]
  refine ⟨⟨w1, rfl⟩, ⟨w2, rfl⟩, ⟨by omega, by omega, by omega⟩, fun z => ?_⟩
  obtain ⟨d1, d2⟩ := b3 z
  obtain ⟨v1, v2⟩ := w4 z
  rw [d1, d2]
  refine ⟨⟨by omega, by omega, by omega⟩, fun k hk => ?_, ?_⟩
  · rw [Int.toNat_natCast, a4 _ (by omega), show ((100 * (f : Int) + (stE cl i : Nat)).toNat + k) = 100 * f + (stE cl i + k) by omega, m.2.2 _ (by omega)]
    exact mt_tok (v1 k (by omega))
  · rw [Int.toNat_natCast, show (((cl.getD i clD).2.2 : Int) - (stE cl i : Nat)).toNat = (cl.getD i clD).2.2 - stE cl i by omega, ← v2]
    exact dep_congr (fun k hk => a4 _ (by omega))
