/-- world.become(picture) -/
theorem c_toWorld {d : Nat} {I L : Fn} (hp : ∀ c, c < 6 → I (30 + c) 0 = I (17 + c) 0) : ∃ I', CallD (d + 3) 119 [vr 10, vr 23] (S I L) = some (none, S I' L) ∧ (WEq (PicC I) I' ∧ Fr WCr I I') := by
  obtain ⟨I1, h1, h2, h3, h4⟩ := und_loop (d := d) (J := cpy (cpy I 24 0 11 0 8) 25 0 12 0 8) (L := L) 6 0 (cpy (cpy I 24 0 11 0 8) 25 0 12 0 8) (by omega) (fun _ _ _ => rfl) (fun _ _ => rfl) (fun x hx => absurd hx (by omega))
  have e : ∀ a j, ¬ (17 ≤ a ∧ a < 23) → I1 a j = cpy (cpy I 24 0 11 0 8) 25 0 12 0 8 a j := h2
  refine ⟨_, Eq.trans (e119w_1) (Eq.trans h1 (y119w_32_1 (by decide) rfl rfl rfl rfl)), ⟨fun b hb => ⟨?_, ?_⟩, ?_, ?_, ?_, ?_, fun c hc j hj => ?_, fun o ho => ⟨?_, ?_⟩, fun k hk => ?_⟩, fun a j ha => ?_⟩
  · refine (e 11 b (by omega)).trans ?_
    show cpy I 24 0 11 0 8 11 b = I 24 b
    rw [cpyz, if_pos ⟨rfl, hb⟩]
  · refine (e 12 b (by omega)).trans ?_
    rw [cpyz, if_pos ⟨rfl, hb⟩]
    rfl
  · exact e 23 3 (by omega)
  · exact e 23 6 (by omega)
  · exact e 23 8 (by omega)
  · exact e 23 9 (by omega)
  · simp only [PicC]
    rw [show 17 + c + 13 = 30 + c by omega]
    simp (disch := omega) only [up_ne, cpy_ne]
    by_cases j0 : j = 0
    · rw [j0, h3 c hc]
      simp (disch := omega) only [cpy_ne]
      exact (hp c hc).symm
    · rw [h4 c hc j (by omega) (by omega)]
      simp (disch := omega) only [cpy_ne]
  · show cpy (up I1 10 3 _) 27 0 14 0 6 14 o = I 27 o
    rw [cpyz, if_pos ⟨rfl, ho⟩]
    exact e 27 o (by omega)
  · show cpy (cpy (up I1 10 3 _) 27 0 14 0 6) 28 0 15 0 6 15 o = I 28 o
    rw [cpyz, if_pos ⟨rfl, ho⟩]
    exact e 28 o (by omega)
  · show cpy _ 29 0 16 0 12 16 k = I 29 k
    rw [cpyz, if_pos ⟨rfl, hk⟩]
    exact e 29 k (by omega)
  · have g : ∀ x, x ∈ [11, 12, 14, 15, 16, 17, 18, 19, 20, 21, 22] → a ≠ x := by
      intro x hx q
      subst q
      have hz : ky a j = a := by
        have := hx
        simp only [List.mem_cons, List.not_mem_nil, or_false] at this
        unfold ky
        rcases this with z | z | z | z | z | z | z | z | z | z | z <;> subst z <;> rfl
      have hx2 : a ∈ WCr := List.mem_cons_of_mem _ (List.mem_cons_of_mem _ (List.mem_cons_of_mem _ (List.mem_cons_of_mem _ hx)))
      rw [hz, List.elem_iff.mpr hx2] at ha
      cases ha
    have g11 := g 11 (by decide)
    have g12 := g 12 (by decide)
    have g14 := g 14 (by decide)
    have g15 := g 15 (by decide)
    have g16 := g 16 (by decide)
    have gp : ¬ (17 ≤ a ∧ a < 23) := by
      have g30 := g 17 (by decide); have g31 := g 18 (by decide); have g32 := g 19 (by decide); have g33 := g 20 (by decide); have g34 := g 21 (by decide); have g35 := g 22 (by decide)
      omega
    have base : I1 a j = I a j := by
      rw [e a j gp]
      simp (disch := assumption) only [cpy_ne]
    by_cases z : a = 10
    · subst z
      have n3 : j ≠ 3 := fun q => by subst q; cases ha
      have n6 : j ≠ 6 := fun q => by subst q; cases ha
      have n8 : j ≠ 8 := fun q => by subst q; cases ha
      have n9 : j ≠ 9 := fun q => by subst q; cases ha
      simp (disch := first | assumption | decide) only [up_nj, cpy_ne]
      exact base
    · simp (disch := assumption) only [up_ne, cpy_ne]
      exact base
