theorem k_near {I L : Fn} {a b : Int} (h : Rel I L) : SameI 14 144 [vi a, vi b] I L := by
  by_cases ha : 0 ≤ a ∧ a < 8
  · by_cases hb : 0 ≤ b ∧ b < 8
    · obtain ⟨I1, f1, f2, f3⟩ := c_measure (d := 57) (L := L) h.1.1 hb
      have hM : Mb I I1 := h.2.1.1.fr f2 rfl rfl
      obtain ⟨I2, g1, g2, g3⟩ := m_layFar_ok (d := 58) (L := L) h.1.1 hM hb
      have v1 := f3 a.toNat (by omega)
      have v2 := g3 a.toNat (by omega)
      have hr := dst_rng I b.toNat a.toNat
      have hF : Rel I2 L := h.scr ((f2.mono (by decide)).trans (g2.mono (by decide))) (Fr.refl _ _)
      by_cases e : dst I b.toNat a.toNat = 99
      · rw [e] at v1 v2
        exact ⟨_, _, _, _, _, (e14_2 (isB1 ha) (by omega) (isB1 hb) (by omega) f1 (e16_2 ha v1 (by omega))), (e144_3 (mB1 ha) (by omega) (mB1 hb) (by omega) g1 (by omega) v2 (by decide)), hF⟩
      · have e2 : mfar (dst I b.toNat a.toNat) = dst I b.toNat a.toNat := if_neg e
        rw [e2] at v2
        exact ⟨_, _, _, _, _, (e14_2 (isB1 ha) (by omega) (isB1 hb) (by omega) f1 (e16_1 ha v1 (by omega))), (e144_2 (mB1 ha) (by omega) (mB1 hb) (by omega) g1 (by omega) v2 (by omega)), hF⟩
    · exact ⟨_, _, _, _, _, (e14_3 (isB1 ha) (by omega) (isB0 hb) (by omega)), (e144_4 (mB1 ha) (by omega) (mB0 hb) (by omega)), h⟩
  · exact ⟨_, _, _, _, _, (e14_1 (isB0 ha) (by omega)), (e144_1 (mB0 ha) (by omega)), h⟩
theorem k_leads {I L : Fn} {a b c : Int} (h : Rel I L) : SameI 12 141 [vi a, vi b, vi c] I L := by
  by_cases ha : 0 ≤ a ∧ a < 8
  · by_cases hb : 0 ≤ b ∧ b ≤ 1
    · by_cases hc : 0 ≤ c ∧ c < 8
      · obtain ⟨h1, h2, h3, h4, h5, h6, h7, h8⟩ := h
        by_cases e : b = 0
        · have hm := (h2.1 a.toNat (by omega)).1
          have hf : Fr [11, 93] I (up (up I 11 a.toNat c) 93 a.toNat c) := ((Fr.refl _ I).up rfl).up rfl
          refine ⟨_, _, _, _, _, (e12_5 (isB1 ha) (by omega) (by omega) (by omega) (isB1 hc) (by omega) (by omega) (by omega) rfl), (e141_6 (mB1 ha) (by omega) (mI1 hb) (by omega) (mB1 hc) (by omega) (by omega) (by omega) hm (by omega)), ⟨?_, h1.2⟩, ⟨?_, h2.2⟩, IM_fr h3 hf (by decide), TX_fr h4 hf (by decide), HL_fr h5 hf (by decide), AC_fr h6 hf (by decide), TP_fr h7 hf (by decide) (Fr.refl [] L) (by decide), CS_fr h8 hf (by decide)⟩
          · intro x hx
            have q := h1.1 x hx
            refine ⟨?_, q.2⟩
            show 0 ≤ up I 11 a.toNat c 11 x ∧ up I 11 a.toNat c 11 x < 8
            rw [up_eq]
            split
            · exact hc
            · exact q.1
          · intro x hx
            have q := h2.1 x hx
            refine ⟨?_, q.2⟩
            show up (up I 11 a.toNat c) 93 a.toNat c 93 x = up I 11 a.toNat c 11 x
            exact up_pair q.1
        · have hm := (h2.1 a.toNat (by omega)).2
          have hf : Fr [12, 94] I (up (up I 12 a.toNat c) 94 a.toNat c) := ((Fr.refl _ I).up rfl).up rfl
          refine ⟨_, _, _, _, _, (e12_4 (isB1 ha) (by omega) (by omega) (by omega) (isB1 hc) (by omega) (by omega) (by omega) rfl), (e141_3 (mB1 ha) (by omega) (mI1 hb) (by omega) (mB1 hc) (by omega) (by omega) (by omega) hm (by omega)), ⟨?_, h1.2⟩, ⟨?_, h2.2⟩, IM_fr h3 hf (by decide), TX_fr h4 hf (by decide), HL_fr h5 hf (by decide), AC_fr h6 hf (by decide), TP_fr h7 hf (by decide) (Fr.refl [] L) (by decide), CS_fr h8 hf (by decide)⟩
          · intro x hx
            have q := h1.1 x hx
            refine ⟨q.1, ?_⟩
            show 0 ≤ up I 12 a.toNat c 12 x ∧ up I 12 a.toNat c 12 x < 8
            rw [up_eq]
            split
            · exact hc
            · exact q.2
          · intro x hx
            have q := h2.1 x hx
            refine ⟨q.1, ?_⟩
            show up (up I 12 a.toNat c) 94 a.toNat c 94 x = up I 12 a.toNat c 12 x
            exact up_pair q.2
      · exact ⟨_, _, _, _, _, (e12_6 (isB1 ha) (by omega) (by omega) (by omega) (isB0 hc) (by omega)), (e141_7 (mB1 ha) (by omega) (mI1 hb) (by omega) (mB0 hc) (by omega)), h⟩
    · by_cases q : b < 0
      · exact ⟨_, _, _, _, _, (e12_2 (isB1 ha) (by omega) (by omega)), (e141_2 (mB1 ha) (by omega) (mI0 hb) (by omega)), h⟩
      · exact ⟨_, _, _, _, _, (e12_3 (isB1 ha) (by omega) (by omega) (by omega)), (e141_2 (mB1 ha) (by omega) (mI0 hb) (by omega)), h⟩
  · exact ⟨_, _, _, _, _, (e12_1 (isB0 ha) (by omega)), (e141_1 (mB0 ha) (by omega)), h⟩
