/-! RIDE -/
theorem Rel.oneBagS {I F L L' : Fn} {c : Nat} (h : Rel I L) (hc : c < 6) (hf : Fr (SCR ++ (BGr ++ [95, 96, 97, 98, 99, 100, 101, 102])) I F) (hL : Fr SCL L L') (ho : ∀ c', c' < 6 → c' ≠ c → (∀ j, F (17 + c') j = I (17 + c') j) ∧ ∀ k, 95 ≤ k → k ≤ 102 → F k c' = I k c') (hb : BagC F c) (hm : BagM F F c) : Rel F L' := by
  obtain ⟨K, hK⟩ : ∃ K : Fn, K = fun k j => if SCR.elem (ky k j) = true then I k j else F k j := ⟨_, rfl⟩
  have f1 : Fr SCR K F := by
    intro k j e
    rw [hK]
    show F k j = if SCR.elem (ky k j) = true then I k j else F k j
    rw [if_neg (by rw [e]; decide)]
  have f2 : Fr (2003 :: 1002 :: BGr ++ [95, 96, 97, 98, 99, 100, 101, 102]) I K := by
    intro k j e
    rw [hK]
    show (if SCR.elem (ky k j) = true then I k j else F k j) = I k j
    cases hs : SCR.elem (ky k j) with
    | true => rw [if_pos rfl]
    | false =>
      rw [if_neg (by decide)]
      refine hf k j ?_
      cases hx : (SCR ++ (BGr ++ [95, 96, 97, 98, 99, 100, 101, 102])).elem (ky k j) with
      | false => rfl
      | true =>
        rcases List.mem_append.mp (List.elem_iff.mp hx) with q | q
        · rw [List.elem_iff.mpr q] at hs; cases hs
        · have : (2003 :: 1002 :: BGr ++ [95, 96, 97, 98, 99, 100, 101, 102]).elem (ky k j) = true := List.elem_iff.mpr (List.mem_cons_of_mem _ (List.mem_cons_of_mem _ q))
          rw [this] at e; cases e
  have lo : ∀ {k : Nat}, k < 75 → (k ≠ 36 ∧ k ≠ 10) → ∀ j, F k j = K k j := fun hk h36 j => scr_low f1 hk h36 j
  have hi : ∀ k, 95 ≤ k → k ≤ 102 → ∀ j, F k j = K k j := by
    intro k h1 h2 j
    refine f1.cell ?_ ?_ j
    · rcases (by omega : k = 95 ∨ k = 96 ∨ k = 97 ∨ k = 98 ∨ k = 99 ∨ k = 100 ∨ k = 101 ∨ k = 102) with z | z | z | z | z | z | z | z <;> subst z <;> rfl
    · rcases (by omega : k = 95 ∨ k = 96 ∨ k = 97 ∨ k = 98 ∨ k = 99 ∨ k = 100 ∨ k = 101 ∨ k = 102) with z | z | z | z | z | z | z | z <;> subst z <;> rfl
  have hn := h.bags
  have hnm := h.2.1.2.1
  have n3 : F 10 3 = I 10 3 := hf 10 3 rfl
  have n2 : F 92 2 = I 92 2 := hf 92 2 rfl
  have e3 : K 10 3 = I 10 3 := (f1 10 3 rfl).symm.trans n3
  have e2 : K 92 2 = I 92 2 := (f1 92 2 rfl).symm.trans n2
  have r : Rel K L := by
    refine h.oneBag hc f2 (by rw [e3]; exact hn) (by rw [e2, e3]; exact hnm) (fun c' h1 h2 => ⟨fun j => ?_, fun k q1 q2 => ?_⟩) ?_ ?_
    · rw [← lo (by omega) (by omega)]; exact (ho c' h1 h2).1 j
    · rw [← hi k q1 q2]; exact (ho c' h1 h2).2 k q1 q2
    · exact hb.fr (fun j => (lo (by omega) (by omega) j).symm)
    · exact hm.fr (fun j => (lo (by omega) (by omega) j).symm) (fun k q1 q2 => (hi k q1 q2 c).symm)
  exact r.scr f1 hL
theorem FarC.up {I0 J : Fn} {t k j : Nat} {v : Int} (h : FarC I0 J t) (hk : 17 ≤ k ∧ k < 23) : FarC I0 (up J k j v) t := by
  intro b hb
  rw [up_ne (by omega), up_ne (by omega), up_ne (by omega)]
  exact h b hb
theorem FarM.up {I0 J : Fn} {t k j : Nat} {v : Int} (h : FarM I0 J t) (hk : 95 ≤ k ∧ k < 103) : FarM I0 (up J k j v) t := by
  intro b hb
  rw [up_ne (by omega), up_ne (by omega), up_ne (by omega)]
  exact h b hb
/-- Ways.goOn -/
theorem c_goOn {d : Nat} {I L : Fn} {c : Nat} {w : Int} (h : Rel I L) (hc : c < 6) : ∃ J, Fr [76] I J ∧ CallD (d + 5) 64 [vr 75, vr (17 + c), vi w] (S I L) = some (some (vi (stS I (I (17 + c) 4).toNat w (I (17 + c) 3).toNat)), S (up (up (up J (17 + c) 8 (w32 (I (17 + c) 8 + tk I c (I (17 + c) 3) (I (17 + c) 7)))) (17 + c) 7 (w32 (I (17 + c) 7 + 1))) (17 + c) 3 (stS I (I (17 + c) 4).toNat w (I (17 + c) 3).toNat)) L) := by
  have hk := K0bag hc
  obtain ⟨b0, b1, b2, b3, b4, b5⟩ := h.bagC hc
  unfold rng at b3 b4
  obtain ⟨J, h1, h2, h3⟩ := c_meas (d := d + 2) (L := L) h.1.1 (t := I (17 + c) 4) (by omega)
  have hs : Fr SCR I J := h2.mono (by decide)
  have hJ := h.scr hs (Fr.refl SCL L)
  have g : ∀ j, J (17 + c) j = I (17 + c) j := fun j => h2.bag (by decide) hc j
  have ht := c_takes (d := d) (L := L) (b := I (17 + c) 3) (g := I (17 + c) 7) hJ hc
  rw [tk_fr h.cur hs hc] at ht
  refine ⟨J, h2, ?_⟩
  have hF := (h3.up (k := 17 + c) (j := 8) (v := w32 (I (17 + c) 8 + tk I c (I (17 + c) 3) (I (17 + c) 7))) (by omega)).up (k := 17 + c) (j := 7) (v := w32 (I (17 + c) 7 + 1)) (by omega)
  unfold stS
  by_cases e : w = 0
  · rw [if_pos e]
    refine Eq.trans (e64_1 (by assumption) rfl h1 (g 8) (g 3) (g 7) ht rfl (by omega) (g 7) rfl (by omega) (g 3) (by omega) (hF (I (17 + c) 3).toNat (by omega)).1) ?_
    rfl
  · rw [if_neg e]
    refine Eq.trans (e64_2 (by assumption) rfl h1 (g 8) (g 3) (g 7) ht rfl (by omega) (g 7) rfl (by omega) (g 3) (c_readTo (d := d + 3) h.1.1 hF (by omega))) ?_
    rfl
theorem k_ride {I L : Fn} {a b : Int} (h : Rel I L) : SameI 63 177 [vi a, vi b] I L := by
  have hn := h.2.1.2.1
  have hr := h.bags
  have hr' := hr
  unfold rng at hr'
  by_cases ha : 0 ≤ a ∧ a < I 10 3
  · have hc : a.toNat < 6 := by omega
    have hbc := h.bagC hc
    have hbc' := hbc
    have hm := h.bagM hc
    have hk := K0bag hc
    have e1 := bagAt1 (d := 58) (L := L) ha hr
    have e2 := mC1 (d := 57) (L := L) hn hr ha
    obtain ⟨b0, b1, b2, b3, b4, b5, b6, b7⟩ := hbc
    unfold rng at b1 b2 b3 b4 b5 b6 b7
    by_cases e : I (17 + a.toNat) 3 = I (17 + a.toNat) 4
    · exact ⟨_, _, _, _, _, (e63_2 e1 (by assumption) (there1 hk e) (by decide)), (e177_1 e2 (by omega) (by omega) hm.2.2.1 hm.2.2.2.1 (by omega)), h⟩
    · by_cases q : I (17 + a.toNat) 7 = 9999
      · exact ⟨_, _, _, _, _, (e63_4 e1 (by assumption) (there0 hk e) rfl rfl (by omega)), (e177_3 e2 (by omega) (by omega) hm.2.2.1 hm.2.2.2.1 (by omega) hm.2.2.2.2.2.2.1 (by omega)), h⟩
      · obtain ⟨J, f1, g1⟩ := c_goOn (d := 54) (w := b) h hc
        have ew : w32 (I (17 + a.toNat) 7 + 1) = I (17 + a.toNat) 7 + 1 := w32_id (by omega) (by omega)
        rw [ew] at g1
        have sr := stS_rng (I := I) (t := (I (17 + a.toNat) 4).toNat) (w := b) (b := (I (17 + a.toNat) 3).toNat) h.1.1 (by omega)
        generalize hv3 : stS I (I (17 + a.toNat) 4).toNat b (I (17 + a.toNat) 3).toNat = v3 at *
        generalize hv8 : w32 (I (17 + a.toNat) 8 + tk I a.toNat (I (17 + a.toNat) 3) (I (17 + a.toNat) 7)) = v8 at *
        have hX : ∀ (X : List Nat), [17, 18, 19, 20, 21, 22].all (fun a => X.elem a) = true → ∀ j, X.elem (ky (17 + a.toNat) j) = true := fun X hX j => elem_bag hc hX j
        have fJ : Fr (76 :: BGr) I (up (up (up J (17 + a.toNat) 8 v8) (17 + a.toNat) 7 (I (17 + a.toNat) 7 + 1)) (17 + a.toNat) 3 v3) := (((f1.mono (by decide)).up (hX _ (by decide) 8)).up (hX _ (by decide) 7)).up (hX _ (by decide) 3)
        have gJ : ∀ c', c' < 6 → c' ≠ a.toNat → ∀ j, (up (up (up J (17 + a.toNat) 8 v8) (17 + a.toNat) 7 (I (17 + a.toNat) 7 + 1)) (17 + a.toNat) 3 v3) (17 + c') j = I (17 + c') j := by
          intro c' h1 h2 j
          simp (disch := omega) only [up_ne]
          exact f1.bag (by decide) h1 j
        have hJ1 : ∀ j, J (17 + a.toNat) j = I (17 + a.toNat) j := fun j => f1.bag (by decide) hc j
        have gJ3 : ∀ j, (up (up (up J (17 + a.toNat) 8 v8) (17 + a.toNat) 7 (I (17 + a.toNat) 7 + 1)) (17 + a.toNat) 3 v3) (17 + a.toNat) j = if j = 3 then v3 else if j = 7 then I (17 + a.toNat) 7 + 1 else if j = 8 then v8 else I (17 + a.toNat) j := by
          intro j
          by_cases j3 : j = 3
          · subst j3; exact upx _ _ _ _
          rw [if_neg j3, up_nj j3]
          by_cases j7 : j = 7
          · subst j7; exact upx _ _ _ _
          rw [if_neg j7, up_nj j7]
          by_cases j8 : j = 8
          · subst j8; exact upx _ _ _ _
          rw [if_neg j8, up_nj j8]
          exact hJ1 j
        generalize hK : (up (up (up J (17 + a.toNat) 8 v8) (17 + a.toNat) 7 (I (17 + a.toNat) 7 + 1)) (17 + a.toNat) 3 v3) = K at *
        have hMK : MH I K := h.mh.fr fJ (by decide)
        have hmK := hMK.1.2.2.2.2.2.1.at hc
        obtain ⟨K1, m1, n1, n2⟩ := m_lay (d := 58) (L := L) (t := I (17 + a.toNat) 4) h.1.1 hMK.1.1 (by omega)
        have hM1 := hMK.fr n1 (by decide)
        have hm1 := hM1.1.2.2.2.2.2.1.at hc
        obtain ⟨K2, m2, n3⟩ := m_minutes_ok (d := 55) (L := L) (c := a) (b := I (17 + a.toNat) 3) (g := I (17 + a.toNat) 7) h.cur hM1 (by omega)
        have hM2 := hM1.fr n3 (by decide)
        have hm2 := hM2.1.2.2.2.2.2.1.at hc
        have hF2 : FarM I (up K2 102 a.toNat v8) (I (17 + a.toNat) 4).toNat := (n2.fr n3 (by decide) (by decide) (by decide)).up (by omega)
        have m3 := m_step_ok (d := 58) (L := L) (w := b) h.1.1 hF2 (b := I (17 + a.toNat) 3) (by omega)
        rw [hv3] at m3
        refine ⟨_, _, _, _, _, (e63_3 e1 (by assumption) (there0 hk e) rfl rfl (by omega) g1), (e177_2 (mC1 (d := 57) ((fJ 92 2 rfl).trans hn) hr ha) (by omega) (by omega) hmK.2.2.1 hmK.2.2.2.1 e hmK.2.2.2.2.2.2.1 (by omega) m1 hm1.2.2.2.2.2.2.2 hm1.2.2.1 hm1.2.2.2.2.2.2.1 m2 hv8 hm2.2.2.1 m3 (show _ = I (17 + a.toNat) 7 from by rw [up_ne (by omega)]; exact hm2.2.2.2.2.2.2.1) (w32_id (by omega) (by omega))), ?_⟩
        have lo2 : ∀ c', c' < 6 → ∀ j, K2 (17 + c') j = K (17 + c') j := fun c' hc' j => (n3.bag (by decide) hc' j).trans (n1.bag (by decide) hc' j)
        have hi2 : ∀ k, 95 ≤ k → k ≤ 102 → ∀ j, K2 k j = I k j := by
          intro k h1 h2 j
          have z : Fr (115 :: 105 :: 76 :: BGr) I K2 := ((fJ.mono (by decide)).trans (n1.mono (by decide))).trans (n3.mono (by decide))
          refine z.cell ?_ ?_ j
          · rcases (by omega : k = 95 ∨ k = 96 ∨ k = 97 ∨ k = 98 ∨ k = 99 ∨ k = 100 ∨ k = 101 ∨ k = 102) with z | z | z | z | z | z | z | z <;> subst z <;> rfl
          · rcases (by omega : k = 95 ∨ k = 96 ∨ k = 97 ∨ k = 98 ∨ k = 99 ∨ k = 100 ∨ k = 101 ∨ k = 102) with z | z | z | z | z | z | z | z <;> subst z <;> rfl
        refine h.oneBagS hc (Fr.up (Fr.up (Fr.up (((fJ.mono (by decide)).trans (n1.mono (by decide))).trans (n3.mono (by decide))) rfl) rfl) rfl) (Fr.refl _ _) ?_ ?_ ?_
        · intro c' h1 h2
          refine ⟨fun j => ?_, fun k q1 q2 => ?_⟩
          · simp (disch := omega) only [up_ne]
            rw [lo2 c' h1 j]
            exact gJ c' h1 h2 j
          · simp (disch := omega) only [up_nj]
            exact hi2 k q1 q2 c'
        · unfold BagC rng
          simp (disch := omega) only [up_ne, lo2 _ hc, gJ3]
          simp
          omega
        · unfold BagM
          simp (disch := omega) only [upx, up_ne, lo2 _ hc, gJ3, hi2]
          simp
          have hm' := h.bagM hc
          exact ⟨hm'.1, hm'.2.1, hm'.2.2.2.1, hm'.2.2.2.2.1, hm'.2.2.2.2.2.1⟩
  · exact ⟨_, _, _, _, _, (e63_1 (bagAt0 ha hr)), (e177_4 (mC0 hn hr ha) (by omega)), h⟩
