theorem k_film {I L : Fn} {a : Int} (h : Rel I L) : SameI 109 211 [vi a] I L := by
  have h0 := h
  obtain ⟨h1, h2, h3, h4, h5, h6, h7, h8⟩ := h
  have hn := h2.2.2.2.1
  have hr := h1.2.2.2.1
  unfold rng at hr
  by_cases e : a = -1
  · have hf : Fr [2008, 1041] I (up (up I 10 8 0) 92 41 0) := ((Fr.refl _ I).up rfl).up rfl
    exact ⟨_, _, _, _, _, (e109_4 (by omega)), (e211_4 (by omega)), ⟨h1.1, h1.2.1, h1.2.2.1, by show rng 0 12 0; unfold rng; omega, h1.2.2.2.2⟩, ⟨h2.1, h2.2.1, h2.2.2.1, rfl, h2.2.2.2.2⟩, IM_fr h3 hf (by decide), TX_fr h4 hf (by decide), HL_fr h5 hf (by decide), AC_fr h6 hf (by decide), TP_fr h7 hf (by decide) (Fr.refl [] L) (by decide), CS_fr h8 hf (by decide)⟩
  by_cases ha : 0 ≤ a ∧ a < 8
  · by_cases e2 : I 10 8 = 12
    · exact ⟨_, _, _, _, _, (e109_2 (by omega) (isB1 ha) (by omega) rfl (by omega)), (e211_2 (by omega) (mB1 ha) (by omega) hn (by omega)), h0⟩
    · have hf : Fr [16, 2008, 123, 1041] I (up (up (up (up I 16 (I 10 8).toNat a) 10 8 (I 10 8 + 1)) 123 (I 10 8).toNat a) 92 41 (I 10 8 + 1)) := ((((Fr.refl _ I).up rfl).up rfl).up rfl).up rfl
      refine ⟨_, _, _, _, _, (e109_1 (by omega) (isB1 ha) (by omega) rfl (by omega) (by omega) (w32_id (by omega) (by omega))), (e211_1 (by omega) (mB1 ha) (by omega) hn (by omega) (by omega) (w32_id (by omega) (by omega))), ⟨h1.1, h1.2.1, h1.2.2.1, by show rng 0 12 (I 10 8 + 1); unfold rng; omega, h1.2.2.2.2.1, h1.2.2.2.2.2.1, h1.2.2.2.2.2.2.1, ?_⟩, ⟨h2.1, h2.2.1, h2.2.2.1, rfl, h2.2.2.2.2.1, h2.2.2.2.2.2.1, h2.2.2.2.2.2.2.1, ?_⟩, IM_fr h3 hf (by decide), TX_fr h4 hf (by decide), HL_fr h5 hf (by decide), AC_fr h6 hf (by decide), TP_fr h7 hf (by decide) (Fr.refl [] L) (by decide), CS_fr h8 hf (by decide)⟩
      · intro k hk
        show rng 0 7 (up I 16 (I 10 8).toNat a 16 k)
        rw [up_eq]
        split
        · unfold rng; omega
        · exact h1.2.2.2.2.2.2.2 k hk
      · intro k hk
        exact up_pair (h2.2.2.2.2.2.2.2 k hk)
  · exact ⟨_, _, _, _, _, (e109_3 (by omega) (isB0 ha) (by omega)), (e211_3 (by omega) (mB0 ha) (by omega)), h0⟩
theorem k_owner {I L : Fn} {a b : Int} (h : Rel I L) : SameI 32 150 [vi a, vi b] I L := by
  have h0 := h
  obtain ⟨h1, h2, h3, h4, h5, h6, h7, h8⟩ := h
  have hn := h2.2.2.1
  have hr := h1.2.2.1
  unfold rng at hr
  by_cases hb : 0 ≤ b ∧ b < 8
  · by_cases ha : 0 ≤ a ∧ a ≤ 999
    · by_cases e2 : I 10 6 = 6
      · exact ⟨_, _, _, _, _, (e32_2 (isB1 hb) (by omega) (isM1 ha) (by omega) rfl (by omega)), (e150_2 (mB1 hb) (by omega) (mM1 ha) (by omega) hn (by omega)), h0⟩
      · have hf : Fr [14, 15, 2006, 103, 104, 1003] I (up (up (up (up (up (up I 14 (I 10 6).toNat a) 15 (I 10 6).toNat b) 10 6 (I 10 6 + 1)) 103 (I 10 6).toNat a) 104 (I 10 6).toNat b) 92 3 (I 10 6 + 1)) := ((((((Fr.refl _ I).up rfl).up rfl).up rfl).up rfl).up rfl).up rfl
        refine ⟨_, _, _, _, _, (e32_1 (isB1 hb) (by omega) (isM1 ha) (by omega) rfl (by omega) (by omega) (w32_id (by omega) (by omega)) (w32_id (by omega) (by omega))), (e150_1 (mB1 hb) (by omega) (mM1 ha) (by omega) hn (by omega) (by omega) (w32_id (by omega) (by omega)) (w32_id (by omega) (by omega))), ⟨h1.1, h1.2.1, by show rng 0 6 (I 10 6 + 1); unfold rng; omega, h1.2.2.2.1, h1.2.2.2.2.1, h1.2.2.2.2.2.1, ?_, h1.2.2.2.2.2.2.2⟩, ⟨h2.1, h2.2.1, rfl, h2.2.2.2.1, h2.2.2.2.2.1, h2.2.2.2.2.2.1, ?_, h2.2.2.2.2.2.2.2⟩, IM_fr h3 hf (by decide), TX_fr h4 hf (by decide), HL_fr h5 hf (by decide), AC_fr h6 hf (by decide), TP_fr h7 hf (by decide) (Fr.refl [] L) (by decide), CS_fr h8 hf (by decide)⟩
        · intro k hk
          have q := h1.2.2.2.2.2.2.1 k hk
          refine ⟨?_, ?_⟩
          · show rng 0 999 (up I 14 (I 10 6).toNat a 14 k)
            rw [up_eq]
            split
            · unfold rng; omega
            · exact q.1
          · show rng 0 7 (up I 15 (I 10 6).toNat b 15 k)
            rw [up_eq]
            split
            · unfold rng; omega
            · exact q.2
        · intro k hk
          have q := h2.2.2.2.2.2.2.1 k hk
          refine ⟨?_, ?_⟩
          · exact up_pair (f := I) (g := I) q.1
          · exact up_pair (f := I) (g := I) q.2
    · exact ⟨_, _, _, _, _, (e32_3 (isB1 hb) (by omega) (isM0 ha) (by omega)), (e150_3 (mB1 hb) (by omega) (mM0 ha) (by omega)), h0⟩
  · exact ⟨_, _, _, _, _, (e32_4 (isB0 hb) (by omega)), (e150_4 (mB0 hb) (by omega)), h0⟩
theorem k_feed {I L : Fn} {a : Int} (h : Rel I L) : SameI 33 151 [vi a] I L := by
  have h0 := h
  obtain ⟨h1, h2, h3, h4, h5, h6, h7, h8⟩ := h
  obtain ⟨t1, t2, t3⟩ := h4
  unfold rng at t1
  by_cases ha : 0 ≤ a ∧ a ≤ 127
  · by_cases e : I 36 1 = 100
    · exact ⟨_, _, _, _, _, (e33_3 (by omega) (by omega) (e34_2 rfl (by omega)) (by omega)), (e151_2 (mI1 ha) (by omega) t2 (by omega)), h0⟩
    · have hf : Fr [37, 3001, 106, 1017] I (up (up (up (up I 37 (I 36 1).toNat a) 36 1 (I 36 1 + 1)) 106 (I 36 1).toNat a) 92 17 (I 36 1 + 1)) := ((((Fr.refl _ I).up rfl).up rfl).up rfl).up rfl
      refine ⟨_, _, _, _, _, (e33_2 (by omega) (by omega) (e34_1 rfl (by omega)) (by omega) (e35_2 rfl (by omega) (by omega) (w32_id (by omega) (by omega))) rfl), (e151_1 (mI1 ha) (by omega) t2 (by omega) (by omega) (w32_id (by omega) (by omega))), WC_fr h1 hf (by decide), WM_fr0 (WM_fr h2 hf (by decide)) hf (by decide), IM_fr h3 hf (by decide), ⟨by show rng 0 100 (I 36 1 + 1); unfold rng; omega, rfl, ?_⟩, HL_fr h5 hf (by decide), AC_fr h6 hf (by decide), TP_fr h7 hf (by decide) (Fr.refl [] L) (by decide), CS_fr h8 hf (by decide)⟩
      intro k hk
      have q := t3 k hk
      refine ⟨?_, ?_⟩
      · show rng 0 127 (up I 37 (I 36 1).toNat a 37 k)
        rw [up_eq]
        split
        · unfold rng; omega
        · exact q.1
      · exact up_pair (f := I) (g := I) q.2
  · by_cases e : a < 0
    · exact ⟨_, _, _, _, _, (e33_1 (by omega)), (e151_3 (mI0 ha) (by omega)), h0⟩
    · exact ⟨_, _, _, _, _, (e33_4 (by omega) (by omega)), (e151_3 (mI0 ha) (by omega)), h0⟩
