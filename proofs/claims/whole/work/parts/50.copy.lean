/-! the reference's copying, to the image and back (by wip/whole/gen50.py) -/
theorem mi1 {F : Cal} {J L : Fn} : ∀ (r : Nat) (x : Int) (I : Fn), x + r = 8 → 0 ≤ x → (∀ a j, a ≠ 124 → a ≠ 125 → I a j = J a j) → (∀ b : Nat, (b : Int) < x → I 124 b = J 93 b ∧ I 125 b = J 94 b) → ∃ I', y215_39 F x I L = y215_77 F 0 I' L ∧ ((∀ a j, a ≠ 124 → a ≠ 125 → I' a j = J a j) ∧ ∀ b : Nat, b < 8 → I' 124 b = J 93 b ∧ I' 125 b = J 94 b)
  | 0, x, I, hx, h0, g1, g2 => ⟨I, (y215_39_1 (by omega)), g1, fun b hb => g2 b (by omega)⟩
  | r + 1, x, I, hx, h0, g1, g2 => by
    obtain ⟨I', h1, h2⟩ := mi1 (F := F) (J := J) (L := L) r (x + 1) (up (up I 124 x.toNat (J 93 x.toNat)) 125 x.toNat (J 94 x.toNat)) (by omega) (by omega) (fun a j a1 a2 => by rw [up_ne a2, up_ne a1]; exact g1 a j a1 a2) (fun b hb => by
      by_cases e : b = x.toNat
      · subst e
        simp (disch := omega) only [upx, up_ne, and_self]
      · simp (disch := omega) only [up_nj]
        exact g2 b (by omega))
    refine ⟨I', ?_, h2⟩
    refine Eq.trans (y215_39_2 (by omega) (by omega) (g1 93 _ (by decide) (by decide)) (g1 94 _ (by decide) (by decide)) (w32_id (by omega) (by omega))) ?_
    exact h1
theorem mi2 {F : Cal} {J L : Fn} : ∀ (r : Nat) (x : Int) (I : Fn), x + r = 6 → 0 ≤ x → (∀ a j, ¬ (126 ≤ a ∧ a ≤ 135) → I a j = J a j) → (∀ c : Nat, (c : Int) < x → ∀ k, 95 ≤ k → k ≤ 104 → I (k + 31) c = J (k) c) → ∃ I', y215_77 F x I L = y215_211 F 0 I' L ∧ ((∀ a j, ¬ (126 ≤ a ∧ a ≤ 135) → I' a j = J a j) ∧ ∀ c : Nat, c < 6 → ∀ k, 95 ≤ k → k ≤ 104 → I' (k + 31) c = J (k) c)
  | 0, x, I, hx, h0, g1, g2 => ⟨I, (y215_77_1 (by omega)), g1, fun c hc => g2 c (by omega)⟩
  | r + 1, x, I, hx, h0, g1, g2 => by
    obtain ⟨I', h1, h2⟩ := mi2 (F := F) (J := J) (L := L) r (x + 1) (up (up (up (up (up (up (up (up (up (up I 126 x.toNat (J 95 x.toNat)) 127 x.toNat (J 96 x.toNat)) 128 x.toNat (J 97 x.toNat)) 129 x.toNat (J 98 x.toNat)) 130 x.toNat (J 99 x.toNat)) 131 x.toNat (J 100 x.toNat)) 132 x.toNat (J 101 x.toNat)) 133 x.toNat (J 102 x.toNat)) 134 x.toNat (J 103 x.toNat)) 135 x.toNat (J 104 x.toNat)) (by omega) (by omega) (fun a j ha => by
      simp (disch := omega) only [up_ne]
      exact g1 a j ha) (fun c hc k k1 k2 => by
      by_cases e : c = x.toNat
      · subst e
        rcases (by omega : k = 95 ∨ k = 96 ∨ k = 97 ∨ k = 98 ∨ k = 99 ∨ k = 100 ∨ k = 101 ∨ k = 102 ∨ k = 103 ∨ k = 104) with z | z | z | z | z | z | z | z | z | z <;> subst z <;> simp (disch := omega) only [upx, up_ne]
      · simp (disch := omega) only [up_nj]
        exact g2 c (by omega) k k1 k2)
    refine ⟨I', ?_, h2⟩
    refine Eq.trans (y215_77_2 (by omega) (by omega) (g1 95 _ (by omega)) (g1 96 _ (by omega)) (g1 97 _ (by omega)) (g1 98 _ (by omega)) (g1 99 _ (by omega)) (g1 100 _ (by omega)) (g1 101 _ (by omega)) (g1 102 _ (by omega)) (g1 103 _ (by omega)) (g1 104 _ (by omega)) (w32_id (by omega) (by omega))) ?_
    exact h1
theorem mi3 {F : Cal} {J L : Fn} : ∀ (r : Nat) (x : Int) (I : Fn), x + r = 12 → 0 ≤ x → (∀ a j, a ≠ 136 → I a j = J a j) → (∀ k : Nat, (k : Int) < x → I 136 k = J 123 k) → ∃ I', y215_211 F x I L = some (some (vi (J 92 2)), S I' L) ∧ ((∀ a j, a ≠ 136 → I' a j = J a j) ∧ ∀ k : Nat, k < 12 → I' 136 k = J 123 k)
  | 0, x, I, hx, h0, g1, g2 => ⟨I, (y215_211_1 (by omega) (g1 92 2 (by decide))), g1, fun c hc => g2 c (by omega)⟩
  | r + 1, x, I, hx, h0, g1, g2 => by
    obtain ⟨I', h1, h2⟩ := mi3 (F := F) (J := J) (L := L) r (x + 1) (up I 136 x.toNat (J 123 x.toNat)) (by omega) (by omega) (fun a j ha => by rw [up_ne ha]; exact g1 a j ha) (fun c hc => by
      by_cases e : c = x.toNat
      · subst e
        rw [upx]
      · rw [up_nj e]
        exact g2 c (by omega))
    refine ⟨I', ?_, h2⟩
    refine Eq.trans (y215_211_2 (by omega) (by omega) (g1 123 _ (by decide)) (w32_id (by omega) (by omega))) ?_
    exact h1
theorem mu1 {F : Cal} {J L : Fn} : ∀ (r : Nat) (x : Int) (I : Fn), x + r = 8 → 0 ≤ x → (∀ a j, a ≠ 93 → a ≠ 94 → I a j = J a j) → (∀ b : Nat, (b : Int) < x → I 93 b = J 124 b ∧ I 94 b = J 125 b) → ∃ I', y216_44 F x I L = y216_82 F 0 I' L ∧ ((∀ a j, a ≠ 93 → a ≠ 94 → I' a j = J a j) ∧ ∀ b : Nat, b < 8 → I' 93 b = J 124 b ∧ I' 94 b = J 125 b)
  | 0, x, I, hx, h0, g1, g2 => ⟨I, (y216_44_1 (by omega)), g1, fun b hb => g2 b (by omega)⟩
  | r + 1, x, I, hx, h0, g1, g2 => by
    obtain ⟨I', h1, h2⟩ := mu1 (F := F) (J := J) (L := L) r (x + 1) (up (up I 93 x.toNat (J 124 x.toNat)) 94 x.toNat (J 125 x.toNat)) (by omega) (by omega) (fun a j a1 a2 => by rw [up_ne a2, up_ne a1]; exact g1 a j a1 a2) (fun b hb => by
      by_cases e : b = x.toNat
      · subst e
        simp (disch := omega) only [upx, up_ne, and_self]
      · simp (disch := omega) only [up_nj]
        exact g2 b (by omega))
    refine ⟨I', ?_, h2⟩
    refine Eq.trans (y216_44_2 (by omega) (by omega) (g1 124 _ (by decide) (by decide)) (g1 125 _ (by decide) (by decide)) (w32_id (by omega) (by omega))) ?_
    exact h1
theorem mu2 {F : Cal} {J L : Fn} : ∀ (r : Nat) (x : Int) (I : Fn), x + r = 6 → 0 ≤ x → (∀ a j, ¬ (95 ≤ a ∧ a ≤ 104) → I a j = J a j) → (∀ c : Nat, (c : Int) < x → ∀ k, 95 ≤ k → k ≤ 104 → I (k) c = J (k + 31) c) → ∃ I', y216_82 F x I L = y216_216 F 0 I' L ∧ ((∀ a j, ¬ (95 ≤ a ∧ a ≤ 104) → I' a j = J a j) ∧ ∀ c : Nat, c < 6 → ∀ k, 95 ≤ k → k ≤ 104 → I' (k) c = J (k + 31) c)
  | 0, x, I, hx, h0, g1, g2 => ⟨I, (y216_82_1 (by omega)), g1, fun c hc => g2 c (by omega)⟩
  | r + 1, x, I, hx, h0, g1, g2 => by
    obtain ⟨I', h1, h2⟩ := mu2 (F := F) (J := J) (L := L) r (x + 1) (up (up (up (up (up (up (up (up (up (up I 95 x.toNat (J 126 x.toNat)) 96 x.toNat (J 127 x.toNat)) 97 x.toNat (J 128 x.toNat)) 98 x.toNat (J 129 x.toNat)) 99 x.toNat (J 130 x.toNat)) 100 x.toNat (J 131 x.toNat)) 101 x.toNat (J 132 x.toNat)) 102 x.toNat (J 133 x.toNat)) 103 x.toNat (J 134 x.toNat)) 104 x.toNat (J 135 x.toNat)) (by omega) (by omega) (fun a j ha => by
      simp (disch := omega) only [up_ne]
      exact g1 a j ha) (fun c hc k k1 k2 => by
      by_cases e : c = x.toNat
      · subst e
        rcases (by omega : k = 95 ∨ k = 96 ∨ k = 97 ∨ k = 98 ∨ k = 99 ∨ k = 100 ∨ k = 101 ∨ k = 102 ∨ k = 103 ∨ k = 104) with z | z | z | z | z | z | z | z | z | z <;> subst z <;> simp (disch := omega) only [upx, up_ne]
      · simp (disch := omega) only [up_nj]
        exact g2 c (by omega) k k1 k2)
    refine ⟨I', ?_, h2⟩
    refine Eq.trans (y216_82_2 (by omega) (by omega) (g1 126 _ (by omega)) (g1 127 _ (by omega)) (g1 128 _ (by omega)) (g1 129 _ (by omega)) (g1 130 _ (by omega)) (g1 131 _ (by omega)) (g1 132 _ (by omega)) (g1 133 _ (by omega)) (g1 134 _ (by omega)) (g1 135 _ (by omega)) (w32_id (by omega) (by omega))) ?_
    exact h1
theorem mu3 {F : Cal} {J L : Fn} : ∀ (r : Nat) (x : Int) (I : Fn), x + r = 12 → 0 ≤ x → (∀ a j, a ≠ 123 → I a j = J a j) → (∀ k : Nat, (k : Int) < x → I 123 k = J 136 k) → ∃ I', y216_216 F x I L = some (some (vi (J 92 2)), S I' L) ∧ ((∀ a j, a ≠ 123 → I' a j = J a j) ∧ ∀ k : Nat, k < 12 → I' 123 k = J 136 k)
  | 0, x, I, hx, h0, g1, g2 => ⟨I, (y216_216_1 (by omega) (g1 92 2 (by decide))), g1, fun c hc => g2 c (by omega)⟩
  | r + 1, x, I, hx, h0, g1, g2 => by
    obtain ⟨I', h1, h2⟩ := mu3 (F := F) (J := J) (L := L) r (x + 1) (up I 123 x.toNat (J 136 x.toNat)) (by omega) (by omega) (fun a j ha => by rw [up_ne ha]; exact g1 a j ha) (fun c hc => by
      by_cases e : c = x.toNat
      · subst e
        rw [upx]
      · rw [up_nj e]
        exact g2 c (by omega))
    refine ⟨I', ?_, h2⟩
    refine Eq.trans (y216_216_2 (by omega) (by omega) (g1 136 _ (by decide)) (w32_id (by omega) (by omega))) ?_
    exact h1
