/-! an E's truth -/
def evS (f : Nat → Int) (tv : Int → Bool) : Nat → List Bool
  | 0 => []
  | k + 1 => if 0 ≤ f k then tv (f k) :: evS f tv k else if f k = -1 then (match evS f tv k with | b :: r => (!b) :: r | [] => []) else if f k = -2 then (match evS f tv k with | t :: u :: r => (u && t) :: r | _ => []) else (match evS f tv k with | t :: u :: r => (u || t) :: r | _ => [])
theorem evS_succ {f : Nat → Int} {tv : Int → Bool} {k : Nat} : evS f tv (k + 1) = if 0 ≤ f k then tv (f k) :: evS f tv k else if f k = -1 then (match evS f tv k with | b :: r => (!b) :: r | [] => []) else if f k = -2 then (match evS f tv k with | t :: u :: r => (u && t) :: r | _ => []) else (match evS f tv k with | t :: u :: r => (u || t) :: r | _ => []) := rfl
theorem dep_pre {f : Nat → Int} {k n : Nat} (h : dep f (k + 1) = some n) : ∃ m, dep f k = some m ∧ (if 0 ≤ f k then (m < 60 ∧ n = m + 1) else if f k = -1 then (1 ≤ m ∧ n = m) else (2 ≤ m ∧ n = m - 1)) := by
  unfold dep at h
  cases hd : dep f k with
  | none => rw [hd] at h; cases h
  | some m =>
    rw [hd] at h
    refine ⟨m, rfl, ?_⟩
    simp only at h
    split at h
    · next e =>
      rw [if_pos e]
      split at h
      · cases h; exact ⟨by assumption, rfl⟩
      · cases h
    · next e =>
      rw [if_neg e]
      split at h
      · next e2 =>
        rw [if_pos e2]
        split at h
        · cases h; exact ⟨by assumption, rfl⟩
        · cases h
      · next e2 =>
        rw [if_neg e2]
        split at h
        · cases h; exact ⟨by assumption, rfl⟩
        · cases h
theorem dep_some {f : Nat → Int} : ∀ {m k n : Nat}, dep f (k + m) = some n → ∃ q, dep f k = some q
  | 0, k, n, h => ⟨n, h⟩
  | m + 1, k, n, h => by
    obtain ⟨q, hq, _⟩ := dep_pre (k := k + m) h
    exact dep_some hq
theorem evS_len {f : Nat → Int} {tv : Int → Bool} : ∀ {k n : Nat}, dep f k = some n → (evS f tv k).length = n ∧ n ≤ 60
  | 0, n, h => by cases h; exact ⟨rfl, by decide⟩
  | k + 1, n, h => by
    obtain ⟨m, hm, hc⟩ := dep_pre h
    obtain ⟨h1, h2⟩ := evS_len (tv := tv) hm
    unfold evS
    split at hc
    · next e =>
      rw [if_pos e]
      exact ⟨by rw [List.length_cons, h1]; omega, by omega⟩
    · next e =>
      rw [if_neg e]
      split at hc
      · next e2 =>
        rw [if_pos e2]
        cases hst : evS f tv k with
        | nil => rw [hst] at h1; simp only [List.length_nil] at h1; omega
        | cons b r => rw [hst] at h1; simp only [List.length_cons] at h1 ⊢; omega
      · next e2 =>
        rw [if_neg e2]
        cases hst : evS f tv k with
        | nil => rw [hst] at h1; simp only [List.length_nil] at h1; omega
        | cons b r =>
          cases r with
          | nil => rw [hst] at h1; simp only [List.length_cons, List.length_nil] at h1; omega
          | cons u r =>
            rw [hst] at h1
            simp only [List.length_cons] at h1
            split
            · simp only [List.length_cons]; omega
            · simp only [List.length_cons]; omega
def tvx (I : Fn) (c : Nat) (b g x : Int) : Bool := tst (fct I c b g (x / 300)) (x / 100 % 3) (x % 100)
/-- the answer: what is left on the stack -/
def soB : List Bool → Bool
  | b :: _ => b
  | [] => false
theorem c_so {d : Nat} {I L : Fn} {h c : Nat} {b g to : Int} {fr N : Nat} (hH : isH h) (hc : c < 6) (hb : BagC I c) (hN : dep (fun k => I (h + 4) (fr + k)) N = some 1) (ht : to = (fr + N : Nat)) (hto : to ≤ 100) (hT : ∀ k : Nat, k < N → ∃ y, TokR (I (h + 4) (fr + k)) y) : ∀ (r k : Nat), k + r = N → y27_6 (CallD (d + 1)) h to (17 + c) b g (enc (evS (fun k => I (h + 4) (fr + k)) (tvx I c b g) k) : Nat) ((fr + k : Nat) : Int) I L = some (some (vi (bI (soB (evS (fun k => I (h + 4) (fr + k)) (tvx I c b g) N)))), S I L)
  | 0, k, hk => by
    have : k = N := by omega
    subst this
    obtain ⟨l1, _⟩ := evS_len (tv := tvx I c b g) hN
    cases hst : evS (fun k => I (h + 4) (fr + k)) (tvx I c b g) k with
    | nil => rw [hst] at l1; cases l1
    | cons x r =>
      rw [hst] at l1
      have hr : r.length ≤ 60 := by simp only [List.length_cons] at l1; omega
      have tp := enc_top (b := x) hr
      cases x
      · exact (y27_6_1 (by omega) tp (by decide))
      · exact (y27_6_2 (by omega) tp rfl)
  | r + 1, k, hk => by
    obtain ⟨hK, ⟨r1, r2, r3, r4⟩, k1, k2, k3, k4⟩ := isH_K hH
    obtain ⟨q1, hq1⟩ := dep_some (f := fun k => I (h + 4) (fr + k)) (m := r) (k := k + 1) (n := 1) (by rw [show k + 1 + r = N by omega]; exact hN)
    obtain ⟨m, hm, hcs⟩ := dep_pre hq1
    obtain ⟨l1, l2⟩ := evS_len (tv := tvx I c b g) hm
    have ih := c_so (d := d) (L := L) (b := b) (g := g) hH hc hb hN ht hto hT r (k + 1) (by omega)
    rw [evS_succ] at ih
    obtain ⟨y, hy⟩ := hT k (by omega)
    have e8 : ((fr + k : Nat) : Int).toNat = fr + k := by omega
    rw [show ((fr + (k + 1) : Nat) : Int) = ((fr + k : Nat) : Int) + 1 by omega] at ih
    have hfk : (fun k => I (h + 4) (fr + k)) k = I (h + 4) (fr + k) := rfl
    try rw [hfk] at hcs
    have rd : I (h + 4) ((fr + k : Nat) : Int).toNat = I (h + 4) (fr + k) := by rw [e8]
    generalize hx : I (h + 4) (fr + k) = x at *
    rcases hy with ⟨z, _⟩ | ⟨z, _⟩ | ⟨z, _⟩ | ⟨l, s, n, ⟨hl, hs, hn⟩, z, _⟩
    · rw [if_neg (by omega), if_pos z] at ih
      rw [if_neg (by omega), if_pos z] at hcs
      cases hst : evS (fun k => I (h + 4) (fr + k)) (tvx I c b g) k with
      | nil => rw [hst] at l1; simp only [List.length_nil] at l1; omega
      | cons t st =>
        rw [hst] at l1 ih
        have hl' : st.length ≤ 60 := by simp only [List.length_cons] at l1; omega
        refine Eq.trans (y27_6_9 (by omega) (by omega) (by assumption) r4 k4 (by omega) rd rfl (by omega) (enc_not hl') (w32_id (by omega) (by omega))) ?_
        exact ih
    · rw [if_neg (by omega), if_neg (by omega), if_pos z] at ih
      rw [if_neg (by omega), if_neg (by omega)] at hcs
      cases hst : evS (fun k => I (h + 4) (fr + k)) (tvx I c b g) k with
      | nil => rw [hst] at l1; simp only [List.length_nil] at l1; omega
      | cons t st =>
        cases st with
        | nil => rw [hst] at l1; simp only [List.length_cons, List.length_nil] at l1; omega
        | cons u st =>
          rw [hst] at l1 ih
          have hl' : st.length ≤ 59 := by simp only [List.length_cons] at l1; omega
          refine Eq.trans (y27_6_8 (by omega) (by omega) (by assumption) r4 k4 (by omega) rd (enc_top (by simp only [List.length_cons]; omega)) (by omega) (by omega) rfl rfl (enc_and hl') (w32_id (by omega) (by omega))) ?_
          exact ih
    · rw [if_neg (by omega), if_neg (by omega), if_neg (by omega)] at ih
      rw [if_neg (by omega), if_neg (by omega)] at hcs
      cases hst : evS (fun k => I (h + 4) (fr + k)) (tvx I c b g) k with
      | nil => rw [hst] at l1; simp only [List.length_nil] at l1; omega
      | cons t st =>
        cases st with
        | nil => rw [hst] at l1; simp only [List.length_cons, List.length_nil] at l1; omega
        | cons u st =>
          rw [hst] at l1 ih
          have hl' : st.length ≤ 59 := by simp only [List.length_cons] at l1; omega
          refine Eq.trans (y27_6_7 (by omega) (by omega) (by assumption) r4 k4 (by omega) rd (enc_top (by simp only [List.length_cons]; omega)) (by omega) (by omega) (by omega) rfl (enc_or hl') (w32_id (by omega) (by omega))) ?_
          exact ih
    · have h0 : 0 ≤ x := by omega
      rw [if_pos h0] at ih hcs
      have hp := c_passes (d := d) (L := L) (b := b) (g := g) hc hb hl hs hn
      have ht2 : tvx I c b g x = tst (fct I c b g l) s n := by
        unfold tvx
        rw [show x / 300 = l by omega, show x / 100 % 3 = s by omega, show x % 100 = n by omega]
      rw [← z, ← ht2] at hp
      have ep := enc_push (r := evS (fun k => I (h + 4) (fr + k)) (tvx I c b g) k) (b := tvx I c b g x) (by omega)
      cases ht3 : tvx I c b g x with
      | true =>
        rw [ht3] at hp ep ih
        refine Eq.trans (y27_6_6 (by omega) (by omega) (by assumption) r4 k4 (by omega) rd rfl (by omega) (by omega) (by omega) rfl hp (by decide) ep (w32_id (by omega) (by omega))) ?_
        exact ih
      | false =>
        rw [ht3] at hp ep ih
        refine Eq.trans (y27_6_5 (by omega) (by omega) (by assumption) r4 k4 (by omega) rd rfl (by omega) (by omega) (by omega) rfl hp rfl ep (w32_id (by omega) (by omega))) ?_
        exact ih
