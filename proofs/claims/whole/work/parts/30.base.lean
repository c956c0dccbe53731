/-! what methods change: a key for each cell, and for each field of some objects -/
def ky (k j : Nat) : Nat := bif Nat.beq k 92 then 1000 + j else bif Nat.beq k 10 then 2000 + j else bif Nat.beq k 36 then 3000 + j else k
def Fr (X : List Nat) (I I' : Fn) : Prop := ∀ k j, X.elem (ky k j) = false → I' k j = I k j
theorem Fr.refl (X : List Nat) (I : Fn) : Fr X I I := fun _ _ _ => rfl
theorem Fr.trans {X : List Nat} {I I' I'' : Fn} (h : Fr X I I') (h' : Fr X I' I'') : Fr X I I'' := fun k j e => (h' k j e).trans (h k j e)
theorem Fr.mono {X Y : List Nat} {I I' : Fn} (h : Fr X I I') (hs : X.all (fun a => Y.elem a) = true) : Fr Y I I' := by
  intro k j e
  refine h k j ?_
  cases hx : X.elem (ky k j) with
  | false => rfl
  | true =>
    have h1 := List.all_eq_true.mp hs _ (List.elem_iff.mp hx)
    rw [e] at h1
    cases h1
theorem Fr.up {X : List Nat} {I I' : Fn} (h : Fr X I I') {k j : Nat} {v : Int} (hs : X.elem (ky k j) = true) : Fr X I (up I' k j v) := by
  intro a b e
  rw [up_eq]
  split
  · next q =>
    rw [q.1, q.2, hs] at e
    cases e
  · exact h a b e
/-- a cell that no key stands for -/
theorem Fr.cell {X : List Nat} {I I' : Fn} (h : Fr X I I') {k : Nat} (hk : (Nat.beq k 92 || (Nat.beq k 10 || Nat.beq k 36)) = false) (hs : X.elem k = false) (j : Nat) : I' k j = I k j := by
  refine h k j ?_
  unfold ky
  cases h1 : Nat.beq k 92 <;> cases h2 : Nat.beq k 10 <;> cases h3 : Nat.beq k 36 <;> rw [h1, h2, h3] at hk <;> first | (cases hk; done) | exact hs
theorem fill_loop {F : Cal} {k n : Nat} {v : Int} {L : Fn} (hk : nth K0 k = some (100, n)) (h9 : 9 ≤ k) (hn : n < 1000000) : ∀ (r : Nat) (x : Int) (I : Fn), x + r = n → 0 ≤ x → ∃ I', y11_5 F k n v x n I L = some (none, S I' L) ∧ (∀ j : Nat, x ≤ j → j < n → I' k j = v) ∧ (∀ j : Nat, j < x → I' k j = I k j) ∧ ∀ a b, a ≠ k → I' a b = I a b
  | 0, x, I, hx, h0 => by
    refine ⟨I, ?_, fun j h1 h2 => by omega, fun _ _ => rfl, fun _ _ _ => rfl⟩
    exact (y11_5_1 (by omega))
  | r + 1, x, I, hx, h0 => by
    obtain ⟨I', h1, h2, h3, h4⟩ := fill_loop (F := F) (v := v) (L := L) hk h9 hn r (x + 1) (up I k x.toNat v) (by omega) (by omega)
    refine ⟨I', ?_, fun j g1 g2 => ?_, fun j g => ?_, fun a b g => ?_⟩
    · refine Eq.trans (y11_5_2 (by omega) (by assumption) (by omega) (by omega) (w32_id (by omega) (by omega))) ?_
      exact h1
    · by_cases e : x + 1 ≤ j
      · exact h2 j e g2
      · rw [h3 j (by omega), up_eq, if_pos ⟨rfl, by omega⟩]
    · rw [h3 j (by omega), up_eq, if_neg (by omega)]
    · rw [h4 a b g, up_ne g]
theorem c_fill {d k n : Nat} {v : Int} {I L : Fn} (hk : nth K0 k = some (100, n)) (h9 : 9 ≤ k) (hn : n < 1000000) : ∃ I', CallD (d + 1) 11 [vr k, vi v] (S I L) = some (none, S I' L) ∧ (∀ j : Nat, j < n → I' k j = v) ∧ ∀ a b, a ≠ k → I' a b = I a b := by
  obtain ⟨I', h1, h2, _, h4⟩ := fill_loop (F := CallD d) (v := v) (L := L) hk h9 hn n 0 I (by omega) (by omega)
  refine ⟨I', ?_, fun j hj => h2 j (by omega) hj, h4⟩
  refine Eq.trans (e11_1 (by assumption) (by omega)) ?_
  exact h1
