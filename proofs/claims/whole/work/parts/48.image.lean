/-! the image: a world is as another -/
def WEq (I I' : Fn) : Prop := (∀ b, b < 8 → I' 11 b = I 11 b ∧ I' 12 b = I 12 b) ∧ (I' 10 3 = I 10 3 ∧ (I' 10 6 = I 10 6 ∧ (I' 10 8 = I 10 8 ∧ (I' 10 9 = I 10 9 ∧ ((∀ c, c < 6 → ∀ j, j < 9 → I' (17 + c) j = I (17 + c) j) ∧ ((∀ o, o < 6 → I' 14 o = I 14 o ∧ I' 15 o = I 15 o) ∧ ∀ k, k < 12 → I' 16 k = I 16 k))))))
def MEq (I I' : Fn) : Prop := (∀ b, b < 8 → I' 93 b = I 93 b ∧ I' 94 b = I 94 b) ∧ (I' 92 2 = I 92 2 ∧ (I' 92 3 = I 92 3 ∧ (I' 92 41 = I 92 41 ∧ (I' 92 16 = I 92 16 ∧ ((∀ c, c < 6 → ∀ k, 95 ≤ k → k ≤ 104 → I' k c = I k c) ∧ ∀ k, k < 12 → I' 123 k = I 123 k)))))
theorem WC_eq {hc : Int} {I I' : Fn} (h : WC hc I) (e : WEq I I') : WC hc I' := by
  obtain ⟨e1, e2, e3, e4, e5, e6, e7, e8⟩ := e
  refine ⟨fun b hb => ?_, ?_, ?_, ?_, ?_, Al6.of (fun c hc => ?_), fun o ho => ?_, fun k hk => ?_⟩
  · rw [(e1 b hb).1, (e1 b hb).2]; exact h.1 b hb
  · rw [e2]; exact h.2.1
  · rw [e3]; exact h.2.2.1
  · rw [e4]; exact h.2.2.2.1
  · rw [e5]; exact h.2.2.2.2.1
  · have := h.2.2.2.2.2.1.at hc
    unfold BagC at this ⊢
    rw [e6 c hc 0 (by omega), e6 c hc 1 (by omega), e6 c hc 2 (by omega), e6 c hc 3 (by omega), e6 c hc 4 (by omega), e6 c hc 5 (by omega), e6 c hc 6 (by omega), e6 c hc 7 (by omega)]
    exact this
  · rw [(e7 o ho).1, (e7 o ho).2]; exact h.2.2.2.2.2.2.1 o ho
  · rw [e8 k hk]; exact h.2.2.2.2.2.2.2 k hk
theorem WM_eq {I0 I0' I I' : Fn} (h : WM I0 I) (e : WEq I0 I0') (f : MEq I I') : WM I0' I' := by
  obtain ⟨e1, e2, e3, e4, e5, e6, e7, e8⟩ := e
  obtain ⟨f1, f2, f3, f4, f5, f6, f7⟩ := f
  refine ⟨fun b hb => ?_, ?_, ?_, ?_, ?_, Al6.of (fun c hc => ?_), fun o ho => ?_, fun k hk => ?_⟩
  · rw [(e1 b hb).1, (e1 b hb).2, (f1 b hb).1, (f1 b hb).2]; exact h.1 b hb
  · rw [e2, f2]; exact h.2.1
  · rw [e3, f3]; exact h.2.2.1
  · rw [e4, f4]; exact h.2.2.2.1
  · rw [e5, f5]; exact h.2.2.2.2.1
  · have := h.2.2.2.2.2.1.at hc
    unfold BagM at this ⊢
    rw [e6 c hc 1 (by omega), e6 c hc 2 (by omega), e6 c hc 3 (by omega), e6 c hc 4 (by omega), e6 c hc 5 (by omega), e6 c hc 6 (by omega), e6 c hc 7 (by omega), e6 c hc 8 (by omega), f6 c hc 95 (by omega) (by omega), f6 c hc 96 (by omega) (by omega), f6 c hc 97 (by omega) (by omega), f6 c hc 98 (by omega) (by omega), f6 c hc 99 (by omega) (by omega), f6 c hc 100 (by omega) (by omega), f6 c hc 101 (by omega) (by omega), f6 c hc 102 (by omega) (by omega)]
    exact this
  · rw [(e7 o ho).1, (e7 o ho).2, f6 o ho 103 (by omega) (by omega), f6 o ho 104 (by omega) (by omega)]; exact h.2.2.2.2.2.2.1 o ho
  · rw [e8 k hk, f7 k hk]; exact h.2.2.2.2.2.2.2 k hk
theorem c_bagBecome {d : Nat} {I L : Fn} {k0 k1 : Nat} (h0 : nth K0 k0 = some (2, 9)) (h1 : nth K0 k1 = some (2, 9)) (hne : k1 ≠ k0) (h9 : 9 ≤ k0) : ∃ I', CallD (d + 2) 120 [vr k0, vr k1] (S I L) = some (none, S I' L) ∧ ((∀ j, 1 ≤ j → j ≤ 8 → I' k0 j = I k1 j) ∧ (I' k0 0 = I k0 0 ∧ ∀ a j, a ≠ k0 → I' a j = I a j)) := by
  refine ⟨_, (e120_1 h1 rfl rfl rfl rfl rfl h0 (e20_1 h0 (by omega)) (show _ = I k1 5 from by simp only [up_ne hne]) (by omega) (show _ = I k1 7 from by simp only [up_ne hne]) (show _ = I k1 8 from by simp only [up_ne hne])), fun j g1 g2 => ?_, ?_, fun a j ha => ?_⟩
  · match j, g1, g2 with
    | 1, _, _ => simp (disch := decide) only [upx, up_nj]
    | 2, _, _ => simp (disch := decide) only [upx, up_nj]
    | 3, _, _ => simp (disch := decide) only [upx, up_nj]
    | 4, _, _ => simp (disch := decide) only [upx, up_nj]
    | 5, _, _ => simp (disch := decide) only [upx, up_nj]
    | 6, _, _ => simp (disch := decide) only [upx, up_nj]
    | 7, _, _ => simp (disch := decide) only [upx, up_nj]
    | 8, _, _ => simp (disch := decide) only [upx, up_nj]
    | 0, h, _ => omega
    | n + 9, _, h => omega
  · simp (disch := decide) only [up_nj]
  · simp only [up_ne ha]
theorem K0pic {c : Nat} (h : c < 6) : nth K0 (30 + c) = some (2, 9) := by
  match c, h with
  | 0, _ => rfl
  | 1, _ => rfl
  | 2, _ => rfl
  | 3, _ => rfl
  | 4, _ => rfl
  | 5, _ => rfl
  | n + 6, h => omega
theorem R0pic {c : Nat} (h : c < 6) : R0 26 c = some (30 + c) := by
  match c, h with
  | 0, _ => rfl
  | 1, _ => rfl
  | 2, _ => rfl
  | 3, _ => rfl
  | 4, _ => rfl
  | 5, _ => rfl
  | n + 6, h => omega
theorem pic_loop {d : Nat} {J L : Fn} : ∀ (r : Nat) (c : Nat) (I : Fn), c + r = 6 → (∀ a j, ¬ (30 ≤ a ∧ a < 36) → I a j = J a j) → (∀ x, x < 6 → I (30 + x) 0 = J (30 + x) 0) → (∀ x, x < c → ∀ j, 1 ≤ j → j ≤ 8 → I (30 + x) j = J (17 + x) j) → ∃ I', y119p_32 (CallD (d + 2)) c I L = y119p_32 (CallD (d + 2)) 6 I' L ∧ ((∀ a j, ¬ (30 ≤ a ∧ a < 36) → I' a j = J a j) ∧ ((∀ x, x < 6 → I' (30 + x) 0 = J (30 + x) 0) ∧ ∀ x, x < 6 → ∀ j, 1 ≤ j → j ≤ 8 → I' (30 + x) j = J (17 + x) j))
  | 0, c, I, hc, g1, g2, g3 => by
    have : c = 6 := by omega
    subst this
    exact ⟨I, rfl, g1, g2, g3⟩
  | r + 1, c, I, hc, g1, g2, g3 => by
    obtain ⟨I1, b1, b2, b3, b4⟩ := c_bagBecome (d := d) (I := I) (L := L) (K0pic (c := c) (by omega)) (K0bag (c := c) (by omega)) (by omega) (by omega)
    obtain ⟨I', h1, h2⟩ := pic_loop (d := d) (J := J) (L := L) r (c + 1) I1 (by omega) (fun a j ha => by rw [b4 a j (by omega)]; exact g1 a j ha) (fun x hx => by
      by_cases e : x = c
      · rw [e, b3]; exact g2 c (by omega)
      · rw [b4 (30 + x) 0 (by omega)]; exact g2 x hx) (fun x hx j j1 j2 => by
      by_cases e : x = c
      · rw [e, b2 j j1 j2]; exact g1 _ _ (by omega)
      · rw [b4 (30 + x) j (by omega)]; exact g3 x (by omega) j j1 j2)
    refine ⟨I', ?_, h2⟩
    refine Eq.trans (y119p_32_2 (by omega) (by omega) (R0pic (by omega)) (R0bag (by omega)) (K0pic (by omega)) b1 (w32_id (by omega) (by omega))) ?_
    exact h1
theorem und_loop {d : Nat} {J L : Fn} : ∀ (r : Nat) (c : Nat) (I : Fn), c + r = 6 → (∀ a j, ¬ (17 ≤ a ∧ a < 23) → I a j = J a j) → (∀ x, x < 6 → I (17 + x) 0 = J (17 + x) 0) → (∀ x, x < c → ∀ j, 1 ≤ j → j ≤ 8 → I (17 + x) j = J (30 + x) j) → ∃ I', y119w_32 (CallD (d + 2)) c I L = y119w_32 (CallD (d + 2)) 6 I' L ∧ ((∀ a j, ¬ (17 ≤ a ∧ a < 23) → I' a j = J a j) ∧ ((∀ x, x < 6 → I' (17 + x) 0 = J (17 + x) 0) ∧ ∀ x, x < 6 → ∀ j, 1 ≤ j → j ≤ 8 → I' (17 + x) j = J (30 + x) j))
  | 0, c, I, hc, g1, g2, g3 => by
    have : c = 6 := by omega
    subst this
    exact ⟨I, rfl, g1, g2, g3⟩
  | r + 1, c, I, hc, g1, g2, g3 => by
    obtain ⟨I1, b1, b2, b3, b4⟩ := c_bagBecome (d := d) (I := I) (L := L) (K0bag (c := c) (by omega)) (K0pic (c := c) (by omega)) (by omega) (by omega)
    obtain ⟨I', h1, h2⟩ := und_loop (d := d) (J := J) (L := L) r (c + 1) I1 (by omega) (fun a j ha => by rw [b4 a j (by omega)]; exact g1 a j ha) (fun x hx => by
      by_cases e : x = c
      · rw [e, b3]; exact g2 c (by omega)
      · rw [b4 (17 + x) 0 (by omega)]; exact g2 x hx) (fun x hx j j1 j2 => by
      by_cases e : x = c
      · rw [e, b2 j j1 j2]; exact g1 _ _ (by omega)
      · rw [b4 (17 + x) j (by omega)]; exact g3 x (by omega) j j1 j2)
    refine ⟨I', ?_, h2⟩
    refine Eq.trans (y119w_32_2 (by omega) (by omega) (R0bag (by omega)) (R0pic (by omega)) (K0bag (by omega)) b1 (w32_id (by omega) (by omega))) ?_
    exact h1
abbrev PCr : List Nat := [23, 24, 25, 27, 28, 29, 30, 31, 32, 33, 34, 35]
theorem cpyz {f : Fn} {s d n a b : Nat} : cpy f s 0 d 0 n a b = if a = d ∧ b < n then f s b else f a b := by
  rw [cpy_eq]
  by_cases e : a = d ∧ b < n
  · rw [if_pos e, if_pos ⟨e.1, by omega, by omega⟩, show 0 + (b - 0) = b by omega]
  · rw [if_neg e, if_neg (fun q => e ⟨q.1, by omega⟩)]
/-- picture.become(world) -/
theorem c_toPic {d : Nat} {I L : Fn} (hp : ∀ c, c < 6 → I (30 + c) 0 = I (17 + c) 0) : ∃ I', CallD (d + 3) 119 [vr 23, vr 10] (S I L) = some (none, S I' L) ∧ (WEq I (PicC I') ∧ ((∀ c, c < 6 → I' (30 + c) 0 = I (30 + c) 0) ∧ Fr PCr I I')) := by
  obtain ⟨I1, h1, h2, h3, h4⟩ := pic_loop (d := d) (J := cpy (cpy I 11 0 24 0 8) 12 0 25 0 8) (L := L) 6 0 (cpy (cpy I 11 0 24 0 8) 12 0 25 0 8) (by omega) (fun _ _ _ => rfl) (fun _ _ => rfl) (fun x hx => absurd hx (by omega))
  have e : ∀ a j, ¬ (30 ≤ a ∧ a < 36) → I1 a j = cpy (cpy I 11 0 24 0 8) 12 0 25 0 8 a j := h2
  refine ⟨_, Eq.trans (e119p_1) (Eq.trans h1 (y119p_32_1 (by decide) rfl rfl rfl rfl)), ⟨fun b hb => ⟨?_, ?_⟩, ?_, ?_, ?_, ?_, fun c hc j hj => ?_, fun o ho => ⟨?_, ?_⟩, fun k hk => ?_⟩, fun c hc => ?_, fun a j ha => ?_⟩
  · refine (e 24 b (by omega)).trans ?_
    show cpy I 11 0 24 0 8 24 b = I 11 b
    rw [cpyz, if_pos ⟨rfl, hb⟩]
  · refine (e 25 b (by omega)).trans ?_
    rw [cpyz, if_pos ⟨rfl, hb⟩]
    rfl
  · exact e 10 3 (by omega)
  · exact e 10 6 (by omega)
  · exact e 10 8 (by omega)
  · exact e 10 9 (by omega)
  · simp only [PicC]
    rw [show 17 + c + 13 = 30 + c by omega]
    simp (disch := omega) only [up_ne, cpy_ne]
    by_cases j0 : j = 0
    · rw [j0, h3 c hc]
      simp (disch := omega) only [cpy_ne]
      exact hp c hc
    · rw [h4 c hc j (by omega) (by omega)]
      simp (disch := omega) only [cpy_ne]
  · show cpy (up I1 23 3 _) 14 0 27 0 6 27 o = I 14 o
    rw [cpyz, if_pos ⟨rfl, ho⟩]
    exact e 14 o (by omega)
  · show cpy (cpy (up I1 23 3 _) 14 0 27 0 6) 15 0 28 0 6 28 o = I 15 o
    rw [cpyz, if_pos ⟨rfl, ho⟩]
    exact e 15 o (by omega)
  · show cpy _ 16 0 29 0 12 29 k = I 16 k
    rw [cpyz, if_pos ⟨rfl, hk⟩]
    exact e 16 k (by omega)
  · simp (disch := omega) only [up_ne, cpy_ne]
    rw [h3 c hc]
    simp (disch := omega) only [cpy_ne]
  · have g : ∀ x, x ∈ PCr → a ≠ x := by
      intro x hx q
      subst q
      have hz : ky a j = a := by
        have : a ∈ PCr := hx
        simp only [PCr, List.mem_cons, List.not_mem_nil, or_false] at this
        unfold ky
        rcases this with z | z | z | z | z | z | z | z | z | z | z | z <;> subst z <;> rfl
      rw [hz, List.elem_iff.mpr hx] at ha
      cases ha
    have g23 := g 23 (by decide)
    have g24 := g 24 (by decide)
    have g25 := g 25 (by decide)
    have g27 := g 27 (by decide)
    have g28 := g 28 (by decide)
    have g29 := g 29 (by decide)
    have gp : ¬ (30 ≤ a ∧ a < 36) := by
      have g30 := g 30 (by decide); have g31 := g 31 (by decide); have g32 := g 32 (by decide); have g33 := g 33 (by decide); have g34 := g 34 (by decide); have g35 := g 35 (by decide)
      omega
    simp (disch := assumption) only [up_ne, cpy_ne]
    rw [e a j gp]
    simp (disch := assumption) only [cpy_ne]
