theorem up_nj {α : Type} {f : Nat → Nat → α} {k j : Nat} {v : α} {a b : Nat} (h : b ≠ j) : up f k j v a b = f a b := by
  rw [up_eq, if_neg (fun q => h q.2)]
theorem k_count {I L : Fn} {a : Int} (h : Rel I L) : SameI 130 228 [vi a] I L := by
  have h0 := h
  obtain ⟨h1, h2, h3, h4, h5, h6, h7, h8⟩ := h
  have g0 := h2.2.1
  have g1 := h2.2.2.1
  have g2 := h5.2.1
  have g3 := h2.2.2.2.1
  have g4 := h4.2.1
  have g5 := h6.2.1
  by_cases e0 : a = 0
  · exact ⟨_, _, _, _, _, (e130_1 (by omega) rfl), (e228_1 (by omega) g0), h0⟩
  by_cases e1 : a = 1
  · exact ⟨_, _, _, _, _, (e130_2 (by omega) rfl), (e228_2 (by omega) g1), h0⟩
  by_cases e2 : a = 2
  · exact ⟨_, _, _, _, _, (e130_3 (by omega) rfl), (e228_3 (by omega) g2), h0⟩
  by_cases e3 : a = 3
  · exact ⟨_, _, _, _, _, (e130_4 (by omega) rfl), (e228_4 (by omega) g3), h0⟩
  by_cases e4 : a = 4
  · exact ⟨_, _, _, _, _, (e130_5 (by omega) rfl), (e228_5 (by omega) g4), h0⟩
  by_cases e5 : a = 5
  · exact ⟨_, _, _, _, _, (e130_6 (by omega) rfl), (e228_6 (by omega) g5), h0⟩
  exact ⟨_, _, _, _, _, (e130_7 (by omega) (by omega) (by omega) (by omega) (by omega) (by omega)), (e228_7 (by omega) (by omega) (by omega) (by omega) (by omega) (by omega)), h0⟩
theorem k_trace {I L : Fn} {a : Int} (h : Rel I L) : SameI 126 226 [vi a] I L := by
  have h0 := h
  obtain ⟨h1, h2, h3, h4, h5, h6, h7, h8⟩ := h
  have g5 := h6.2.1
  by_cases e0 : 0 ≤ a ∧ a < 20
  · by_cases e1 : a < I 86 1
    · have v := h6.2.2 a.toNat (by omega) (by omega)
      exact ⟨_, _, _, _, _, (e126_2 (e127_4 (by omega) rfl (by omega) (by omega)) (by omega) (by omega) rfl), (e226_3 (mI1 (by omega)) (by omega) rfl (by omega) (by omega) v), h0⟩
    · exact ⟨_, _, _, _, _, (e126_1 (e127_2 (by omega) rfl (by omega)) (by omega)), (e226_2 (mI1 (by omega)) (by omega) rfl (by omega)), h0⟩
  · by_cases e1 : a < 0
    · exact ⟨_, _, _, _, _, (e126_1 (e127_1 (by omega)) (by omega)), (e226_1 (mI0 (by omega)) (by omega)), h0⟩
    · by_cases e2 : a < I 86 1
      · exact ⟨_, _, _, _, _, (e126_1 (e127_3 (by omega) rfl (by omega) (by omega)) (by omega)), (e226_1 (mI0 (by omega)) (by omega)), h0⟩
      · exact ⟨_, _, _, _, _, (e126_1 (e127_2 (by omega) rfl (by omega)) (by omega)), (e226_1 (mI0 (by omega)) (by omega)), h0⟩
/-- the tree of kinds, upwards -/
theorem under {d : Nat} {I L : Fn} {a b : Int} (hc : CS I) (ha : 0 ≤ a ∧ a < 7) (hb : 0 ≤ b ∧ b < 7) : CallD (d + 2) 129 [vi a, vi b] (S I L) = some (some (vi (if b = 0 ∨ (a = b ∨ ((b = 1 ∧ a = 4) ∨ ((b = 2 ∧ a = 5) ∨ (b = 3 ∧ a = 6)))) then 1 else 0)), S I L) := by
  obtain ⟨c0, c1, c2, c3, c4, c5, c6⟩ := hc.1
  have st : ∀ x k : Int, 0 ≤ k ∧ k < 7 → 0 ≤ x ∧ x < 7 → ¬ x = b → y129_4 (CallD (d + 1)) b x k I L = y129_4 (CallD (d + 1)) b (I 0 x.toNat) (k + 1) I L := fun x k hk hx hn => (y129_4_3 (by omega) (isK1 hx) (by omega) (by omega) (by omega) rfl (w32_id (by omega) (by omega)))
  have sy : ∀ x k : Int, 0 ≤ k ∧ k < 7 → 0 ≤ x ∧ x < 7 → x = b → y129_4 (CallD (d + 1)) b x k I L = some (some (vi 1), S I L) := fun x k hk hx hn => (y129_4_4 (by omega) (isK1 hx) (by omega) (by omega))
  have sn : ∀ k : Int, 0 ≤ k ∧ k < 7 → y129_4 (CallD (d + 1)) b (-1) k I L = some (some (vi 0), S I L) := fun k hk => (y129_4_2 (by omega) (isK0 (by omega)) (by omega))
  have k0 : ∀ k : Int, 0 ≤ k ∧ k < 6 → y129_4 (CallD (d + 1)) b 0 k I L = some (some (vi (if b = 0 then 1 else 0)), S I L) := by
    intro k hk
    by_cases e : (0 : Int) = b
    · rw [if_pos e.symm]; exact sy 0 k (by omega) (by omega) e
    · rw [if_neg (fun q => e q.symm), st 0 k (by omega) (by omega) e]
      show y129_4 (CallD (d + 1)) b (I 0 0) (k + 1) I L = _
      rw [c0]; exact sn (k + 1) (by omega)
  have k1 : ∀ x k : Int, 0 ≤ k ∧ k < 5 → (x = 1 ∨ (x = 2 ∨ x = 3)) → y129_4 (CallD (d + 1)) b x k I L = some (some (vi (if b = 0 ∨ x = b then 1 else 0)), S I L) := by
    intro x k hk hx
    by_cases e : x = b
    · rw [if_pos (.inr e)]; exact sy x k (by omega) (by omega) e
    · rw [st x k (by omega) (by omega) e]
      have : I 0 x.toNat = 0 := by
        rcases hx with hx | hx | hx <;> subst hx
        · exact c1
        · exact c2
        · exact c3
      rw [this, k0 (k + 1) (by omega)]
      by_cases z : b = 0
      · rw [if_pos z, if_pos (.inl z)]
      · rw [if_neg z, if_neg (by omega)]
  refine Eq.trans (e129_1) ?_
  by_cases z0 : a = 0
  · subst z0
    rw [k0 0 (by omega)]
    by_cases z : b = 0
    · rw [if_pos z, if_pos (.inl z)]
    · rw [if_neg z, if_neg (by omega)]
  by_cases z1 : a < 4
  · rw [k1 a 0 (by omega) (by omega)]
    by_cases z : b = 0 ∨ a = b
    · rw [if_pos z, if_pos (by omega)]
    · rw [if_neg z, if_neg (by omega)]
  by_cases e : a = b
  · rw [if_pos (.inr (.inl e))]; exact sy a 0 (by omega) (by omega) e
  · rw [st a 0 (by omega) (by omega) e]
    have : I 0 a.toNat = a - 3 := by
      have hx : a = 4 ∨ (a = 5 ∨ a = 6) := by omega
      rcases hx with hx | hx | hx <;> subst hx
      · exact c4
      · exact c5
      · exact c6
    rw [this, k1 (a - 3) (0 + 1) (by omega) (by omega)]
    by_cases z : b = 0 ∨ a - 3 = b
    · rw [if_pos z, if_pos (by omega)]
    · rw [if_neg z, if_neg (by omega)]
theorem Rel.bags {I L : Fn} (h : Rel I L) : rng 0 6 (I 10 3) := h.1.2.1
theorem Rel.bagC {I L : Fn} (h : Rel I L) {c : Nat} (hc : c < 6) : BagC I c := h.1.2.2.2.2.2.1.at hc
theorem Rel.bagM {I L : Fn} (h : Rel I L) {c : Nat} (hc : c < 6) : BagM I I c := h.2.1.2.2.2.2.2.1.at hc
theorem k_taken {I L : Fn} {a b : Int} (h : Rel I L) : SameI 128 227 [vi a, vi b] I L := by
  have hn := h.2.1.2.1
  have hr := h.bags
  have hr' := hr
  unfold rng at hr'
  by_cases hb : 0 ≤ b ∧ b < 7
  · by_cases ha : 0 ≤ a ∧ a < I 10 3
    · have hc := h.bagC (c := a.toNat) (by omega)
      have hm := (h.bagM (c := a.toNat) (by omega)).1
      have hk := K0bag (c := a.toNat) (by omega)
      have hkd := hc.2.1
      unfold rng at hkd
      have hu := under (d := 57) (L := L) h.2.2.2.2.2.2.2 (a := I (17 + a.toNat) 1) (b := b) (by omega) hb
      have e1 := bagAt1 (d := 58) (L := L) ha hr
      have e2 := isK1 (d := 58) (I := I) (L := L) hb
      have e3 := mI1 (d := 58) (I := I) (L := L) (a := b) (b := 0) (c := 6) (by omega)
      have e4 := mC1 (d := 57) (I := I) (L := L) hn hr ha
      by_cases q : b = 0 ∨ (I (17 + a.toNat) 1 = b ∨ ((b = 1 ∧ I (17 + a.toNat) 1 = 4) ∨ ((b = 2 ∧ I (17 + a.toNat) 1 = 5) ∨ (b = 3 ∧ I (17 + a.toNat) 1 = 6))))
      · rw [if_pos q] at hu
        refine ⟨_, _, _, _, _, (e128_3 e2 (by omega) e1 (by assumption) rfl hu (by omega) rfl), ?_, h⟩
        by_cases q1 : b = 0
        · exact (e227_1 e3 (by omega) e4 (by omega) (by omega) hm (by omega))
        by_cases q2 : I (17 + a.toNat) 1 = b
        · exact (e227_2 e3 (by omega) e4 (by omega) (by omega) hm (by omega) (by omega))
        by_cases q3 : b = 1
        · exact (e227_10 e3 (by omega) e4 (by omega) (by omega) hm (by omega) (by omega) (by omega) (by omega))
        by_cases q4 : b = 2
        · exact (e227_6 e3 (by omega) e4 (by omega) (by omega) hm (by omega) (by omega) (by omega) (by omega) (by omega))
        · exact (e227_5 e3 (by omega) e4 (by omega) (by omega) hm (by omega) (by omega) (by omega) (by omega) (by omega) (by omega))
      · rw [if_neg q] at hu
        refine ⟨_, _, _, _, _, (e128_2 e2 (by omega) e1 (by assumption) rfl hu (by omega)), ?_, h⟩
        by_cases q3 : b = 1
        · exact (e227_11 e3 (by omega) e4 (by omega) (by omega) hm (by omega) (by omega) (by omega) (by omega) (by omega) (by omega))
        by_cases q4 : b = 2
        · exact (e227_7 e3 (by omega) e4 (by omega) (by omega) hm (by omega) (by omega) (by omega) (by omega) (by omega) (by omega))
        by_cases q5 : b = 3
        · exact (e227_4 e3 (by omega) e4 (by omega) (by omega) hm (by omega) (by omega) (by omega) (by omega) (by omega) (by omega))
        · exact (e227_3 e3 (by omega) e4 (by omega) (by omega) hm (by omega) (by omega) (by omega) (by omega) (by omega))
    · exact ⟨_, _, _, _, _, (e128_1 (isK1 hb) (by omega) (bagAt0 ha hr)), (e227_18 (mI1 (by omega)) (by omega) (mC0 hn hr ha) (by omega)), h⟩
  · exact ⟨_, _, _, _, _, (e128_4 (isK0 hb) (by omega)), (e227_19 (mI0 (by omega)) (by omega)), h⟩
