theorem judge_loop {d e' : Nat} {I L : Fn} {t i : Int} (h : Rel I L) (ht : 0 ≤ t ∧ t < 6) (hi : -2147483648 ≤ i ∧ i < 2147483648) (hs : I 89 t.toNat ≤ 0) : ∀ (r : Nat) (k : Int), k + r = I 10 3 → 0 ≤ k → (k = 0 ∨ (0 ≤ i ∧ i + k ≤ 60)) → ∃ v, y113_41 (CallD (d + 2)) t i k I L = some (some (vi v), S I L) ∧ y213_24 (CallD (e' + 1)) t i k I L = some (some (vi v), S I L)
  | 0, k, hk, h0, hik => ⟨-5, (y113_41_1 rfl (by omega)), (y213_24_1 h.2.1.2.1 (by omega))⟩
  | r + 1, k, hk, h0, hik => by
    have hn := h.2.1.2.1
    have hr := h.bags
    unfold rng at hr
    have q := h.2.2.2.2.2.2.1.1 t.toNat (by omega)
    obtain ⟨q1, q2, q3, q4, q5, q6⟩ := q
    unfold rng at q1 q3
    have hb := (h.bagM (c := k.toNat) (by omega)).2.2.1
    have hc := h.bagC (c := k.toNat) (by omega)
    have hb3 := hc.2.2.2.1
    unfold rng at hb3
    have hkk := K0bag (c := k.toNat) (by omega)
    by_cases hin : 0 ≤ i + k ∧ i + k < I 90 t.toNat
    · have hs0 : I 89 t.toNat = 0 := by
        rcases (show I 89 t.toNat = -1 ∨ I 89 t.toNat = 0 by omega) with z | z
        · have := q5 z; omega
        · exact z
      have hi0 : 0 ≤ i := by omega
      have e := h.2.2.2.2.2.2.1.2 (60 * t + i + k).toNat (by omega)
      have rg := q6 hs0 (i + k).toNat (by omega)
      rw [show 60 * t.toNat + (i + k).toNat = (60 * t + i + k).toNat by omega] at rg
      unfold rng at rg
      have val : CallD (d + 2) 116 [vr 88, vi t, vi (i + k)] (S I L) = some (some (vl (L 91 (60 * t + i + k).toNat)), S I L) := (e116_2 (hasP1 ht hin) (by omega) (show _ = 60 * t from by rw [show t * 60 = 60 * t by omega]; exact w32_id (by omega) (by omega)) (show _ = 60 * t + i + k from by rw [← Int.add_assoc]; exact w32_id (by omega) (by omega)) (by omega) rfl)
      by_cases g : L 91 (60 * t + i + k).toNat = I (17 + k.toNat) 3
      · obtain ⟨v, h1, h2⟩ := judge_loop (d := d) (e' := e') h ht hi hs r (k + 1) (by omega) (by omega) (by omega)
        refine ⟨v, ?_, ?_⟩
        · refine Eq.trans (y113_41_3 rfl (by omega) (by omega) (w32_id (by omega) (by omega)) val (by omega) (by omega) (R0bag (by omega)) (by assumption) rfl g (w32_id (by omega) (by omega))) ?_
          exact h1
        · refine Eq.trans (y213_24_4 hn (by omega) (by omega) q2 (by omega) (by omega) q4 (w32_id (by omega) (by omega)) (w32_id (by omega) (by omega)) (by omega) (w32_id (by omega) (by omega)) (w32_id (by omega) (by omega)) (w32_id (by omega) (by omega)) (by omega) e (by omega) hb g (w32_id (by omega) (by omega))) ?_
          exact h2
      · refine ⟨k, ?_, ?_⟩
        · exact (y113_41_4 rfl (by omega) (by omega) (w32_id (by omega) (by omega)) val (by omega) (by omega) (R0bag (by omega)) (by assumption) rfl g)
        · exact (y213_24_5 hn (by omega) (by omega) q2 (by omega) (by omega) q4 (w32_id (by omega) (by omega)) (w32_id (by omega) (by omega)) (by omega) (w32_id (by omega) (by omega)) (w32_id (by omega) (by omega)) (w32_id (by omega) (by omega)) (by omega) e (by omega) hb g)
    · have val : CallD (d + 2) 116 [vr 88, vi t, vi (i + k)] (S I L) = some (some (vl (-9223372036854775808)), S I L) := (e116_1 (hasP0 ht hin) (by omega))
      refine ⟨100 + k, ?_, ?_⟩
      · exact (y113_41_5 rfl (by omega) (by omega) (w32_id (by omega) (by omega)) val (by omega) (w32_id (by omega) (by omega)))
      · by_cases z : I 89 t.toNat < 0
        · exact (y213_24_2 hn (by omega) (by omega) q2 (by omega) (w32_id (by omega) (by omega)))
        · by_cases z2 : i < 0
          · exact (y213_24_3 hn (by omega) (by omega) q2 (by omega) (by omega) (w32_id (by omega) (by omega)))
          · exact (y213_24_6 hn (by omega) (by omega) q2 (by omega) (by omega) q4 (w32_id (by omega) (by omega)) (w32_id (by omega) (by omega)) (by omega) (w32_id (by omega) (by omega)))
theorem k_judge {I L : Fn} {a b : Int} (h : Rel I L) (hb : -2147483648 ≤ b ∧ b < 2147483648) : SameI 113 213 [vi a, vi b] I L := by
  have hr := h.bags
  unfold rng at hr
  by_cases ha : 0 ≤ a ∧ a < 6
  · have q := h.2.2.2.2.2.2.1.1 a.toNat (by omega)
    obtain ⟨q1, q2, q3, q4, q5, q6⟩ := q
    unfold rng at q1 q3
    by_cases hs : I 89 a.toNat ≤ 0
    · obtain ⟨v, h1, h2⟩ := judge_loop (d := 57) (e' := 58) h ha hb hs (I 10 3).toNat 0 (by omega) (by omega) (.inl rfl)
      refine ⟨v, _, _, _, _, ?_, Eq.trans (e213_1 (mT1 ha) (by omega) (by omega) q2 (by omega)) h2, h⟩
      by_cases g : I 89 a.toNat = -1
      · exact Eq.trans (e113_1 (isT1 ha) (by omega) (e115_1 (by omega) rfl (by omega)) rfl) h1
      · exact Eq.trans (e113_2 (isT1 ha) (by omega) (e115_2 (by omega) rfl (by omega)) (by decide) (by omega) rfl (by omega)) h1
    · exact ⟨_, _, _, _, _, (e113_3 (isT1 ha) (by omega) (e115_2 (by omega) rfl (by omega)) (by decide) (by omega) rfl (by omega)), (e213_2 (mT1 ha) (by omega) (by omega) q2 (by omega)), h⟩
  · exact ⟨_, _, _, _, _, (e113_4 (isT0 ha) (by omega)), (e213_3 (mT0 ha) (by omega)), h⟩
