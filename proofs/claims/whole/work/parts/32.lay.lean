/-! the reference's way of measuring -/
def mfar (v : Int) : Int := if v = 99 then -1 else v
def Mb (I0 I : Fn) : Prop := ∀ b, b < 8 → I 93 b = I0 11 b ∧ I 94 b = I0 12 b
theorem Mb.fr {X : List Nat} {I0 I I' : Fn} (h : Mb I0 I) (hf : Fr X I I') (h1 : X.elem 93 = false) (h2 : X.elem 94 = false) : Mb I0 I' := by
  intro b hb
  rw [hf.cell rfl h1, hf.cell rfl h2]
  exact h b hb
/-- level d is done for the belts before x -/
def LyB (I0 I : Fn) (t b : Nat) (d : Nat) : Prop := (I 105 b = -1 ∧ rcb I0 t d b = false) ∨ ((0 ≤ I 105 b ∧ I 105 b ≤ d) ∧ ∀ n : Nat, I 105 b ≤ n ↔ rcb I0 t n b = true)
theorem LyB.of {I0 I I' : Fn} {t b d : Nat} (h : LyB I0 I t b d) (e : I' 105 b = I 105 b) : LyB I0 I' t b d := by
  unfold LyB
  rw [e]
  exact h
theorem ly_init {F : Cal} {I0 : Fn} {t : Int} {L : Fn} (ht : 0 ≤ t ∧ t < 8) : ∀ (r : Nat) (x : Int) (I : Fn), x + r = 8 → 0 ≤ x → Fr [105] I0 I → (∀ b : Nat, b < x → I 105 b = if (b : Int) = t then 0 else -1) → ∃ I', y145_2 F t x I L = y145_32 F 0 I' L ∧ Fr [105] I0 I' ∧ ∀ b : Nat, b < 8 → I' 105 b = if (b : Int) = t then 0 else -1
  | 0, x, I, hx, h0, hf, hm => by
    refine ⟨I, ?_, hf, fun b hb => hm b (by omega)⟩
    refine Eq.trans (y145_2_1 (by omega)) ?_
    rfl
  | r + 1, x, I, hx, h0, hf, hm => by
    by_cases e : x = t
    · obtain ⟨I', h1, h2⟩ := ly_init (F := F) (L := L) ht r (x + 1) (up I 105 x.toNat 0) (by omega) (by omega) (hf.up rfl) (by
        intro b hb
        rw [up_eq]
        by_cases q : b = x.toNat
        · rw [if_pos ⟨rfl, q⟩, if_pos (by omega)]
        · rw [if_neg (by omega)]; exact hm b (by omega))
      refine ⟨I', ?_, h2⟩
      refine Eq.trans (y145_2_3 (by omega) (by omega) (by omega) (w32_id (by omega) (by omega))) ?_
      exact h1
    · obtain ⟨I', h1, h2⟩ := ly_init (F := F) (L := L) ht r (x + 1) (up I 105 x.toNat (-1)) (by omega) (by omega) (hf.up rfl) (by
        intro b hb
        rw [up_eq]
        by_cases q : b = x.toNat
        · rw [if_pos ⟨rfl, q⟩, if_neg (by omega)]
        · rw [if_neg (by omega)]; exact hm b (by omega))
      refine ⟨I', ?_, h2⟩
      refine Eq.trans (y145_2_2 (by omega) (by omega) (by omega) (w32_id (by omega) (by omega))) ?_
      exact h1
theorem ly_in {F : Cal} {J I0 : Fn} {t d : Nat} {L : Fn} (hB : Bts I0) (hd : d < 8) : ∀ (r : Nat) (x : Int) (I : Fn), x + r = 8 → 0 ≤ x → Mb I0 I → Fr [105] J I → (∀ b : Nat, b < 8 → LyB I0 I t b (if (b : Int) < x then d + 1 else d)) → ∃ I', y145_40 F d x I L = y145_32 F ((d + 1 : Nat) : Int) I' L ∧ Fr [105] J I' ∧ Mb I0 I' ∧ ∀ b : Nat, b < 8 → LyB I0 I' t b (d + 1)
  | 0, x, I, hx, h0, hM, hf, hm => by
    refine ⟨I, ?_, hf, hM, fun b hb => by have := hm b hb; rwa [if_pos (by omega)] at this⟩
    refine Eq.trans (y145_40_1 (by omega) (w32_id (by omega) (by omega))) ?_
    rfl
  | r + 1, x, I, hx, h0, hM, hf, hm => by
    have hb := hB x.toNat (by omega)
    have hq := hM x.toNat (by omega)
    have p0 := hm x.toNat (by omega)
    have p1 := hm (I0 11 x.toNat).toNat (by omega)
    have p2 := hm (I0 12 x.toNat).toNat (by omega)
    rw [if_neg (by omega)] at p0
    have nxt : ∀ v : Int, LyB I0 (up I 105 x.toNat v) t x.toNat (d + 1) → ∀ b : Nat, b < 8 → LyB I0 (up I 105 x.toNat v) t b (if (b : Int) < x + 1 then d + 1 else d) := by
      intro v hv b hb8
      by_cases e : b = x.toNat
      · rw [if_pos (by omega), e]; exact hv
      · have := hm b hb8
        have h2 : LyB I0 (up I 105 x.toNat v) t b (if (b : Int) < x then d + 1 else d) := this.of (by rw [up_eq, if_neg (by omega)])
        by_cases g : (b : Int) < x
        · rw [if_pos g] at h2; rw [if_pos (by omega)]; exact h2
        · rw [if_neg g] at h2; rw [if_neg (by omega)]; exact h2
    have nxt0 : LyB I0 I t x.toNat (d + 1) → ∀ b : Nat, b < 8 → LyB I0 I t b (if (b : Int) < x + 1 then d + 1 else d) := by
      intro hv b hb8
      by_cases e : b = x.toNat
      · rw [if_pos (by omega), e]; exact hv
      · have := hm b hb8
        by_cases g : (b : Int) < x
        · rw [if_pos g] at this; rw [if_pos (by omega)]; exact this
        · rw [if_neg g] at this; rw [if_neg (by omega)]; exact this
    rcases p0 with ⟨a1, a2⟩ | ⟨a1, a2⟩
    · have hit : (I 105 (I0 11 x.toNat).toNat = d ∨ I 105 (I0 12 x.toNat).toNat = d) → LyB I0 (up I 105 x.toNat (d + 1)) t x.toNat (d + 1) := by
        intro hh
        right
        rw [up_eq, if_pos ⟨rfl, rfl⟩]
        have r1 : rcb I0 t (d + 1) x.toNat = true := by
          rw [rcb_or]
          rcases hh with hh | hh
          · rcases p1 with ⟨b1, b2⟩ | ⟨b1, b2⟩
            · omega
            · exact .inr (.inl ((b2 d).mp (by omega)))
          · rcases p2 with ⟨b1, b2⟩ | ⟨b1, b2⟩
            · omega
            · exact .inr (.inr ((b2 d).mp (by omega)))
        refine ⟨by omega, fun n => ⟨fun hn => rcb_le (by omega) r1, fun hn => ?_⟩⟩
        by_cases g : n ≤ d
        · rw [rcb_le g hn] at a2; cases a2
        · omega
      have miss : I 105 (I0 11 x.toNat).toNat ≠ d → I 105 (I0 12 x.toNat).toNat ≠ d → LyB I0 I t x.toNat (d + 1) := by
        intro m1 m2
        left
        refine ⟨a1, ?_⟩
        cases hr : rcb I0 t (d + 1) x.toNat with
        | false => rfl
        | true =>
          exfalso
          have low : ∀ y : Nat, (∀ n : Nat, n < d → rcb I0 t n y = true → False) → LyB I0 I t y (if (y : Int) < x then d + 1 else d) → I 105 y ≠ d → rcb I0 t d y = true → False := by
            intro y hy hl hn hr
            rcases hl with ⟨b1, b2⟩ | ⟨b1, b2⟩
            · have : rcb I0 t (if (y : Int) < x then d + 1 else d) y = true := by
                split
                · exact rcb_succ hr
                · exact hr
              rw [b2] at this; cases this
            · have h1 := (b2 d).mpr hr
              obtain ⟨n, hn'⟩ : ∃ n : Nat, I 105 y = n := ⟨(I 105 y).toNat, by omega⟩
              exact hy n (by omega) ((b2 n).mp (by omega))
          rcases rcb_or.mp hr with z | z | z
          · rw [a2] at z; cases z
          · refine low _ (fun n hn hz => ?_) p1 m1 z
            have : rcb I0 t (n + 1) x.toNat = true := rcb_or.mpr (.inr (.inl hz))
            rw [rcb_le (by omega) this] at a2; cases a2
          · refine low _ (fun n hn hz => ?_) p2 m2 z
            have : rcb I0 t (n + 1) x.toNat = true := rcb_or.mpr (.inr (.inr hz))
            rw [rcb_le (by omega) this] at a2; cases a2
      by_cases g1 : I 105 (I0 11 x.toNat).toNat = d
      · obtain ⟨I', h1, h2⟩ := ly_in (F := F) (J := J) (t := t) (L := L) hB hd r (x + 1) (up I 105 x.toNat (d + 1)) (by omega) (by omega) (hM.fr ((Fr.refl [105] I).up rfl) rfl rfl) (hf.up rfl) (nxt _ (hit (.inl g1)))
        refine ⟨I', ?_, h2⟩
        refine Eq.trans (y145_40_3 (by omega) (by omega) rfl (by omega) hq.1 (by omega) rfl (by omega) (w32_id (by omega) (by omega)) (w32_id (by omega) (by omega))) ?_
        exact h1
      · by_cases g2 : I 105 (I0 12 x.toNat).toNat = d
        · obtain ⟨I', h1, h2⟩ := ly_in (F := F) (J := J) (t := t) (L := L) hB hd r (x + 1) (up I 105 x.toNat (d + 1)) (by omega) (by omega) (hM.fr ((Fr.refl [105] I).up rfl) rfl rfl) (hf.up rfl) (nxt _ (hit (.inr g2)))
          refine ⟨I', ?_, h2⟩
          refine Eq.trans (y145_40_5 (by omega) (by omega) rfl (by omega) hq.1 (by omega) rfl (by omega) hq.2 (by omega) rfl (by omega) (w32_id (by omega) (by omega)) (w32_id (by omega) (by omega))) ?_
          exact h1
        · obtain ⟨I', h1, h2⟩ := ly_in (F := F) (J := J) (t := t) (L := L) hB hd r (x + 1) I (by omega) (by omega) hM hf (nxt0 (miss g1 g2))
          refine ⟨I', ?_, h2⟩
          refine Eq.trans (y145_40_4 (by omega) (by omega) rfl (by omega) hq.1 (by omega) rfl (by omega) hq.2 (by omega) rfl (by omega) (w32_id (by omega) (by omega))) ?_
          exact h1
    · obtain ⟨I', h1, h2⟩ := ly_in (F := F) (J := J) (t := t) (L := L) hB hd r (x + 1) I (by omega) (by omega) hM hf (nxt0 (.inr ⟨by omega, a2⟩))
      refine ⟨I', ?_, h2⟩
      refine Eq.trans (y145_40_2 (by omega) (by omega) rfl (by omega) (w32_id (by omega) (by omega))) ?_
      exact h1
theorem ly_out {F : Cal} {J I0 : Fn} {t : Nat} {L : Fn} (hB : Bts I0) : ∀ (r : Nat) (d : Nat) (I : Fn), d + r = 8 → Mb I0 I → Fr [105] J I → (∀ b : Nat, b < 8 → LyB I0 I t b d) → ∃ I', y145_32 F d I L = some (none, S I' L) ∧ Fr [105] J I' ∧ ∀ b : Nat, b < 8 → LyB I0 I' t b 8
  | 0, d, I, hx, hM, hf, hm => by
    have e : d = 8 := by omega
    subst e
    refine ⟨I, ?_, hf, hm⟩
    exact (y145_32_1 (by omega))
  | r + 1, d, I, hx, hM, hf, hm => by
    obtain ⟨I1, h1, h2, h3, h4⟩ := ly_in (F := F) (J := J) (t := t) (d := d) (L := L) hB (by omega) 8 0 I (by omega) (by omega) hM hf (fun b hb => by rw [if_neg (by omega)]; exact hm b hb)
    obtain ⟨I', g1, g2⟩ := ly_out (F := F) (J := J) (t := t) (L := L) hB r (d + 1) I1 (by omega) h3 h2 h4
    refine ⟨I', ?_, g2⟩
    refine Eq.trans (y145_32_2 (by omega)) ?_
    rw [h1]
    exact g1
/-- the reference's layFar -/
theorem m_layFar_ok {d : Nat} {t : Int} {I0 I L : Fn} (hB : Bts I0) (hM : Mb I0 I) (ht : 0 ≤ t ∧ t < 8) : ∃ I', CallD (d + 1) 145 [vr 92, vi t] (S I L) = some (none, S I' L) ∧ Fr [105] I I' ∧ ∀ b, b < 8 → I' 105 b = mfar (dst I0 t.toNat b) := by
  obtain ⟨I1, h1, h2, h3⟩ := ly_init (F := CallD d) (L := L) ht 8 0 I (by omega) (by omega) (Fr.refl _ I) (fun b hb => by omega)
  obtain ⟨I', g1, g2, g3⟩ := ly_out (F := CallD d) (J := I) (t := t.toNat) (L := L) hB 8 0 I1 (by omega) (hM.fr h2 rfl rfl) h2 (by
    intro b hb
    have hv := h3 b hb
    by_cases e : (b : Int) = t
    · rw [if_pos e] at hv
      right
      refine ⟨by omega, fun n => ⟨fun _ => rcb_le (Nat.zero_le n) (by show Nat.beq b t.toNat = true; rw [show b = t.toNat by omega]; exact Nat.beq_refl _), fun _ => by omega⟩⟩
    · rw [if_neg e] at hv
      left
      refine ⟨hv, ?_⟩
      show Nat.beq b t.toNat = false
      cases q : Nat.beq b t.toNat with
      | false => rfl
      | true => have := Nat.eq_of_beq_eq_true q; omega)
  refine ⟨I', ?_, g2, fun b hb => ?_⟩
  · refine Eq.trans (e145_1) ?_
    rw [h1]
    exact g1
  · rcases g3 b hb with ⟨a1, a2⟩ | ⟨a1, a2⟩
    · have e : (99 : Int) = dst I0 t.toNat b := dst_of (by omega) (by omega) (fun n hn => ⟨fun q => by omega, fun q => by
        rw [rcb_le (by omega : n ≤ 8) q] at a2; cases a2⟩)
      rw [← e, a1]
      rfl
    · obtain ⟨n, hn⟩ : ∃ n : Nat, I' 105 b = n := ⟨(I' 105 b).toNat, by omega⟩
      have h7 : I' 105 b ≤ 7 := by
        have z := (a2 8).mp (by omega)
        rw [rcb_7 hB (by omega) (by omega) hb] at z
        exact (a2 7).mpr z
      have e : I' 105 b = dst I0 t.toNat b := dst_of (by omega) (.inl h7) (fun n _ => a2 n)
      rw [← e]
      unfold mfar
      rw [if_neg (by omega)]
