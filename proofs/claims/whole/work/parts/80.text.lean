/-! THE TEXT: how the class reads it -/
def txt (I : Fn) (p : Nat) : Int := if (p : Int) < I 36 1 then I 37 p else 0
theorem txt_TXT {I : Fn} (h : TX I) : TXT (txt I) (I 36 1).toNat := by
  obtain ⟨h1, h2, h3⟩ := h
  unfold rng at h1
  refine ⟨fun p => ?_, fun p hp => if_neg (by omega), by omega⟩
  unfold txt
  split
  · have := (h3 p (by omega)).1
    unfold rng at this
    omega
  · omega
/-- only where the reading is, and the cells of the hall that is laid, may have changed -/
def CFx (h : Nat) (I J : Fn) : Prop := ∀ k j, ¬ (k = 36 ∧ j = 2) → ¬ (h ≤ k ∧ k ≤ h + 4) → J k j = I k j
theorem CFx.refl (h : Nat) (I : Fn) : CFx h I I := fun _ _ _ _ => rfl
theorem CFx.trans {h : Nat} {I J K : Fn} (a : CFx h I J) (b : CFx h J K) : CFx h I K := fun k j e1 e2 => (b k j e1 e2).trans (a k j e1 e2)
theorem CFx.place {h : Nat} {I J : Fn} (a : CFx h I J) (v : Int) : CFx h I (up J 36 2 v) := by
  intro k j e1 e2
  rw [up_eq, if_neg e1]
  exact a k j e1 e2
theorem CFx.hall {h k0 j0 : Nat} {I J : Fn} (a : CFx h I J) (v : Int) (hk : h ≤ k0 ∧ k0 ≤ h + 4) : CFx h I (up J k0 j0 v) := by
  intro k j e1 e2
  rw [up_ne (by
    intro q
    subst q
    exact e2 hk)]
  exact a k j e1 e2
section TEXT
variable {I L : Fn} {h : Nat}
theorem c_sign {d : Nat} {J : Fn} {p : Nat} (hT : TX I) (hh : 45 ≤ h) (hc : CFx h I J) (hp : J 36 2 = p) : CallD (d + 1) 48 [vr 36] (S J L) = some (some (vi (txt I p)), S J L) := by
  have e1 : J 36 1 = I 36 1 := hc 36 1 (by omega) (by omega)
  have e2 : J 37 p = I 37 p := hc 37 p (by omega) (by omega)
  obtain ⟨h1, h2, h3⟩ := hT
  unfold rng at h1
  unfold txt
  by_cases q : (p : Int) < I 36 1
  · rw [if_pos q]
    exact (e48_3 hp e1 (by omega) (by omega) (by omega) (show J 37 _ = I 37 p from e2))
  · rw [if_neg q]
    exact (e48_1 hp e1 (by omega))
theorem c_skip1 {d : Nat} {J : Fn} {p : Nat} {x : Int} (hT : TX I) (hh : 45 ≤ h) (hc : CFx h I J) (hp : J 36 2 = p) (hp2 : p ≤ 1000) (hx : txt I p = x) : CallD (d + 2) 47 [vr 36, vi x] (S J L) = some (some (vi 1), S (up J 36 2 ((p + 1 : Nat) : Int)) L) := by
  have s := c_sign (d := d) (L := L) hT hh hc hp
  rw [show ((p + 1 : Nat) : Int) = (p : Int) + 1 by omega]
  exact (e47_1 s hx hp (w32_id (by omega) (by omega)))
theorem c_skip0 {d : Nat} {J : Fn} {p : Nat} {x : Int} (hT : TX I) (hh : 45 ≤ h) (hc : CFx h I J) (hp : J 36 2 = p) (hx : ¬ txt I p = x) : CallD (d + 2) 47 [vr 36, vi x] (S J L) = some (some (vi 0), S J L) := by
  have s := c_sign (d := d) (L := L) hT hh hc hp
  exact (e47_2 s hx)
/-- Text.readNumber -/
theorem c_num {d : Nat} {J : Fn} {p : Nat} (hT : TX I) (hh : 45 ≤ h) (hc : CFx h I J) (hp : J 36 2 = p) (hp2 : p ≤ 1000) : ∃ J', CallD (d + 2) 49 [vr 36] (S J L) = some (some (vi (pNum (txt I) p).1), S J' L) ∧ (CFx h I J' ∧ (J' 36 2 = (pNum (txt I) p).2 ∧ ∀ k j, ¬ (k = 36 ∧ j = 2) → J' k j = J k j)) := by
  have s := c_sign (d := d) (L := L) hT hh hc hp
  unfold pNum
  by_cases e1 : 48 ≤ txt I p ∧ txt I p ≤ 57
  · rw [if_pos e1]
    have c1 : CFx h I (up J 36 2 ((p + 1 : Nat) : Int)) := hc.place _
    have s1 := c_sign (d := d) (L := L) (p := p + 1) hT hh c1 (upx _ _ _ _)
    have w : ((p + 1 : Nat) : Int) = (p : Int) + 1 := by omega
    by_cases e2 : 48 ≤ txt I (p + 1) ∧ txt I (p + 1) ≤ 57
    · rw [if_pos e2]
      have u2 : up (up J 36 2 ((p + 1 : Nat) : Int)) 36 2 ((p + 1 : Nat) : Int) = up J 36 2 ((p + 1 : Nat) : Int) := by
        funext k j
        rw [up_eq]
        by_cases z : k = 36 ∧ j = 2
        · rw [if_pos z, up_eq, if_pos z]
        · rw [if_neg z]
      refine ⟨up (up J 36 2 ((p + 1 : Nat) : Int)) 36 2 ((p + 2 : Nat) : Int), ?_, c1.place _, upx _ _ _ _, fun k j z => by rw [up_eq, if_neg z, up_eq, if_neg z]⟩
      refine Eq.trans (e49_1) ?_
      refine Eq.trans (y49_4_3 (by omega) s (by omega) (by omega) rfl (show _ = (0 : Int) from rfl) (show _ = txt I p from by rw [Int.zero_add]; exact w32_id (by omega) (by omega)) (w32_id (by omega) (by omega)) hp (w32_id (by omega) (by omega)) (w32_id (by omega) (by omega))) ?_
      rw [← w]
      have r5 : (if txt I p - 48 < 0 then 0 else txt I p - 48) = txt I p - 48 := if_neg (by omega)
      refine Eq.trans (y49_4_3 (by omega) s1 (by omega) (by omega) r5 (show _ = (txt I p - 48) * 10 from w32_id (by omega) (by omega)) (show _ = (txt I p - 48) * 10 + txt I (p + 1) from w32_id (by omega) (by omega)) (show _ = 10 * (txt I p - 48) + (txt I (p + 1) - 48) from by rw [show (txt I p - 48) * 10 + txt I (p + 1) - 48 = 10 * (txt I p - 48) + (txt I (p + 1) - 48) by omega]; exact w32_id (by omega) (by omega)) (upx _ _ _ _) (show _ = ((p + 2 : Nat) : Int) from by rw [show ((p + 1 : Nat) : Int) + 1 = ((p + 2 : Nat) : Int) by omega]; exact w32_id (by omega) (by omega)) (w32_id (by omega) (by omega))) ?_
      exact (y49_4_1 (by omega))
    · rw [if_neg e2]
      refine ⟨up J 36 2 ((p + 1 : Nat) : Int), ?_, c1, upx _ _ _ _, fun k j z => by rw [up_eq, if_neg z]⟩
      refine Eq.trans (e49_1) ?_
      refine Eq.trans (y49_4_3 (by omega) s (by omega) (by omega) rfl (show _ = (0 : Int) from rfl) (show _ = txt I p from by rw [Int.zero_add]; exact w32_id (by omega) (by omega)) (w32_id (by omega) (by omega)) hp (w32_id (by omega) (by omega)) (w32_id (by omega) (by omega))) ?_
      rw [← w]
      by_cases e3 : txt I (p + 1) < 48
      · exact (y49_4_2 (by omega) s1 (by omega))
      · exact (y49_4_4 (by omega) s1 (by omega) (by omega))
  · rw [if_neg e1]
    refine ⟨J, ?_, hc, hp, fun k j _ => rfl⟩
    refine Eq.trans (e49_1) ?_
    by_cases e3 : txt I p < 48
    · exact (y49_4_2 (by omega) s (by omega))
    · exact (y49_4_4 (by omega) s (by omega) (by omega))
/-! where a letter, a sign is -/
theorem i2c_all : ∀ x : Nat, x < 128 → i2c_ (x : Int) = x ∧ i2b_ (x : Int) = x := by decide +kernel
theorem i2c_id {x : Int} (h : 0 ≤ x ∧ x ≤ 127) : i2c_ x = x ∧ i2b_ x = x := by
  have := i2c_all x.toNat (by omega)
  rw [Int.toNat_of_nonneg h.1] at this
  exact this
theorem c_str {d : Nat} {J : Fn} (hc : CS J) : (CallD (d + 1) 43 [vr 2] (S J L) = some (some (vi 1), S J L)) ∧ ((CallD (d + 1) 43 [vr 3] (S J L) = some (some (vi 1), S J L) ∧ CallD (d + 2) 55 [vr 3] (S J L) = some (some (vi 6), S J L)) ∧ (CallD (d + 1) 43 [vr 4] (S J L) = some (some (vi 1), S J L) ∧ CallD (d + 2) 55 [vr 4] (S J L) = some (some (vi 3), S J L))) := by
  obtain ⟨_, _, _, _, _, s2, s3, s4⟩ := hc
  exact ⟨(e43s2_2 s2 (by omega)), ⟨(e43s3_2 s3 (by omega)), (e55s3_1 (e56s3_1 s3 (by decide)) (by decide))⟩, (e43s4_2 s4 (by omega)), (e55s4_1 (e56s4_1 s4 (by decide)) (by decide))⟩
theorem c_lix {d : Nat} {J : Fn} {x : Int} (hc : CS J) (hx : 0 ≤ x ∧ x ≤ 127) : CallD (d + 4) 53 [vr 3, vi x] (S J L) = some (some (vi (lix x)), S J L) := by
  obtain ⟨_, g1, g2⟩ := c_str (d := d + 1) (L := L) hc
  obtain ⟨g3, g4⟩ := c_str (d := d) (L := L) hc
  have cc := hc.2.2.2.1
  obtain ⟨c0, c1, c2, c3, c4, c5⟩ := cc
  have ib := (i2c_id hx).2
  have fin : y59s6_7 (CallD d) 6 x 0 J L = some (some (vi (lix x)), S J L) := by
    unfold lix
    by_cases q0 : x = 98
    · rw [if_pos q0]
      exact (y59s6_7_3 (by omega) (by omega) c0 (by omega))
    rw [if_neg q0]
    refine Eq.trans (y59s6_7_2 (by omega) (by omega) c0 (by omega) (w32_id (by omega) (by omega))) ?_
    by_cases q1 : x = 100
    · rw [if_pos q1]
      exact (y59s6_7_3 (by omega) (by omega) c1 (by omega))
    rw [if_neg q1]
    refine Eq.trans (y59s6_7_2 (by omega) (by omega) c1 (by omega) (w32_id (by omega) (by omega))) ?_
    by_cases q2 : x = 107
    · rw [if_pos q2]
      exact (y59s6_7_3 (by omega) (by omega) c2 (by omega))
    rw [if_neg q2]
    refine Eq.trans (y59s6_7_2 (by omega) (by omega) c2 (by omega) (w32_id (by omega) (by omega))) ?_
    by_cases q3 : x = 116
    · rw [if_pos q3]
      exact (y59s6_7_3 (by omega) (by omega) c3 (by omega))
    rw [if_neg q3]
    refine Eq.trans (y59s6_7_2 (by omega) (by omega) c3 (by omega) (w32_id (by omega) (by omega))) ?_
    by_cases q4 : x = 103
    · rw [if_pos q4]
      exact (y59s6_7_3 (by omega) (by omega) c4 (by omega))
    rw [if_neg q4]
    refine Eq.trans (y59s6_7_2 (by omega) (by omega) c4 (by omega) (w32_id (by omega) (by omega))) ?_
    by_cases q5 : x = 99
    · rw [if_pos q5]
      exact (y59s6_7_3 (by omega) (by omega) c5 (by omega))
    rw [if_neg q5]
    refine Eq.trans (y59s6_7_2 (by omega) (by omega) c5 (by omega) (w32_id (by omega) (by omega))) ?_
    exact (y59s6_7_1 (by omega))
  have i59 := Eq.trans (show CallD (d + 1) 59 [vr 6, vi x, vi 0, vi 6] (S J L) = _ from (e59s6_1 (nk0 := 6) ib)) fin
  have i57 := (show CallD (d + 2) 57 [vr 6, vi x, vi 0, vi 6] (S J L) = _ from (e57s6_1 (nk0 := 6) (e58_3 (by omega) (by omega)) (by decide) (show _ = (0 : Int) from rfl) (show _ = (6 : Int) from rfl) (by decide) i59))
  exact (e53s3_1 (e54s3_1 g1.1 (by decide) g4.1.2 i57))
theorem c_six {d : Nat} {J : Fn} {x : Int} (hc : CS J) (hx : 0 ≤ x ∧ x ≤ 127) : CallD (d + 4) 53 [vr 4, vi x] (S J L) = some (some (vi (six x)), S J L) := by
  obtain ⟨_, g1, g2⟩ := c_str (d := d + 1) (L := L) hc
  obtain ⟨g3, g4⟩ := c_str (d := d) (L := L) hc
  obtain ⟨c0, c1, c2⟩ := hc.2.2.2.2.1
  have ib := (i2c_id hx).2
  have fin : y59s7_7 (CallD d) 3 x 0 J L = some (some (vi (six x)), S J L) := by
    unfold six
    by_cases q0 : x = 60
    · rw [if_pos q0]
      exact (y59s7_7_3 (by omega) (by omega) c0 (by omega))
    rw [if_neg q0]
    refine Eq.trans (y59s7_7_2 (by omega) (by omega) c0 (by omega) (w32_id (by omega) (by omega))) ?_
    by_cases q1 : x = 61
    · rw [if_pos q1]
      exact (y59s7_7_3 (by omega) (by omega) c1 (by omega))
    rw [if_neg q1]
    refine Eq.trans (y59s7_7_2 (by omega) (by omega) c1 (by omega) (w32_id (by omega) (by omega))) ?_
    by_cases q2 : x = 62
    · rw [if_pos q2]
      exact (y59s7_7_3 (by omega) (by omega) c2 (by omega))
    rw [if_neg q2]
    refine Eq.trans (y59s7_7_2 (by omega) (by omega) c2 (by omega) (w32_id (by omega) (by omega))) ?_
    exact (y59s7_7_1 (by omega))
  have i59 := Eq.trans (show CallD (d + 1) 59 [vr 7, vi x, vi 0, vi 3] (S J L) = _ from (e59s7_1 (nk0 := 6) ib)) fin
  have i57 := (show CallD (d + 2) 57 [vr 7, vi x, vi 0, vi 3] (S J L) = _ from (e57s7_1 (nk0 := 7) (e58_3 (by omega) (by omega)) (by decide) (show _ = (0 : Int) from rfl) (show _ = (3 : Int) from rfl) (by decide) i59))
  exact (e53s4_1 (e54s4_1 g2.1 (by decide) g4.2.2 i57))
end TEXT
