/-! WHOSE: the class -/
def fitf (I : Fn) : Nat → Nat → Int := fun o b => fitv I o b
theorem fitf_rng (I : Fn) : ∀ o b, 0 ≤ fitf I o b ∧ fitf I o b ≤ 4 := fun o b => fitv_rng I o b
theorem bc_all : ∀ x : Nat, x < 64 → and32 (w32 (w32 (and32 (w32 (w32 (and32 (w32 (x - and32 (ush32 x 1) 1431655765)) 858993459 + and32 (ush32 (w32 (x - and32 (ush32 x 1) 1431655765)) 2) 858993459) + ush32 (w32 (and32 (w32 (x - and32 (ush32 x 1) 1431655765)) 858993459 + and32 (ush32 (w32 (x - and32 (ush32 x 1) 1431655765)) 2) 858993459)) 4)) 252645135 + ush32 (and32 (w32 (w32 (and32 (w32 (x - and32 (ush32 x 1) 1431655765)) 858993459 + and32 (ush32 (w32 (x - and32 (ush32 x 1) 1431655765)) 2) 858993459) + ush32 (w32 (and32 (w32 (x - and32 (ush32 x 1) 1431655765)) 858993459 + and32 (ush32 (w32 (x - and32 (ush32 x 1) 1431655765)) 2) 858993459)) 4)) 252645135) 8) + ush32 (w32 (and32 (w32 (w32 (and32 (w32 (x - and32 (ush32 x 1) 1431655765)) 858993459 + and32 (ush32 (w32 (x - and32 (ush32 x 1) 1431655765)) 2) 858993459) + ush32 (w32 (and32 (w32 (x - and32 (ush32 x 1) 1431655765)) 858993459 + and32 (ush32 (w32 (x - and32 (ush32 x 1) 1431655765)) 2) 858993459)) 4)) 252645135 + ush32 (and32 (w32 (w32 (and32 (w32 (x - and32 (ush32 x 1) 1431655765)) 858993459 + and32 (ush32 (w32 (x - and32 (ush32 x 1) 1431655765)) 2) 858993459) + ush32 (w32 (and32 (w32 (x - and32 (ush32 x 1) 1431655765)) 858993459 + and32 (ush32 (w32 (x - and32 (ush32 x 1) 1431655765)) 2) 858993459)) 4)) 252645135) 8)) 16)) 63 = ((pc x : Nat) : Int) := by decide +kernel
theorem c_bc {d x : Nat} {J L : Fn} (hx : x < 64) : CallD (d + 1) 87 [vi x] (S J L) = some (some (vi ((pc x : Nat) : Int)), S J L) := by
  rw [← bc_all x hx]
  exact (e87_1 rfl rfl rfl rfl rfl rfl rfl rfl rfl rfl rfl rfl rfl rfl rfl)
theorem c_wb {d o U b : Nat} {J L : Fn} {f X : Int} (ho : o < 6) (hU : U < 64) (hb : b < 6) (hf : J 84 (6 * o + b) = f) (hX : J 85 (64 * (o + 1) + (U ||| 2 ^ b)) = X) (h1 : 0 ≤ f ∧ f ≤ 4) (h2 : 0 ≤ X ∧ X ≤ 1000) : CallD (d + 1) 89 [vr 83, vi o, vi U, vi b] (S J L) = some (some (vi (f + X)), S J L) := by
  have p6 : 2 ^ b < 64 := Nat.pow_lt_pow_right (a := 2) (by decide) (m := b) (n := 6) hb
  have p7 : U ||| 2 ^ b < 64 := Nat.or_lt_two_pow (n := 6) hU p6
  exact (e89_1 (w32_id (by omega) (by omega)) (w32_id (by omega) (by omega)) (by omega) (show J 84 _ = f from by rw [show ((o : Int) * 6 + b).toNat = 6 * o + b by omega]; exact hf) (w32_id (by omega) (by omega)) (w32_id (by omega) (by omega)) (shl1_all b (by omega)) (or32_nat (by omega) (by omega)) (w32_id (by omega) (by omega)) (by omega) (show J 85 _ = X from by rw [show (((o : Int) + 1) * 64 + ((U ||| 2 ^ b : Nat) : Int)).toNat = 64 * (o + 1) + (U ||| 2 ^ b) by omega]; exact hX) (w32_id (by omega) (by omega)))
theorem bit0 {U b : Nat} (hU : U < 64) (hb : b < 6) (h : U.testBit b = false) : and32 (shr32 U b) 1 = 0 := by
  have := has_all U (by omega) b (by omega)
  rw [h] at this
  exact this
theorem bit1 {U b : Nat} (hU : U < 64) (hb : b < 6) (h : U.testBit b = true) : and32 (shr32 U b) 1 = 1 := by
  have := has_all U (by omega) b (by omega)
  rw [h] at this
  exact this
/-- owner o's line, and those behind it -/
def WG (I : Fn) (N P m : Nat) (J : Fn) : Prop := (∀ o, m ≤ o → o ≤ P → ∀ U, U < 2 ^ N → pc U ≤ o → J 85 (64 * o + U) = BB (fitf I) N (P - o) o U) ∧ ∀ o, m ≤ o → o < P → ∀ b, b < N → J 84 (6 * o + b) = fitf I o b
theorem p2N {N : Nat} (hN : N ≤ 6) : 2 ^ N ≤ 64 := Nat.pow_le_pow_right (n := 2) (by decide) hN
theorem c_wB {d o U b : Nat} {I J L : Fn} {N P : Nat} (hN : N ≤ 6) (hP : P ≤ 6) (ho : o < P) (hU : U < 2 ^ N) (hb : b < N) (hpc : pc U ≤ o) (hf : U.testBit b = false) (h85 : ∀ V, V < 2 ^ N → pc V ≤ o + 1 → J 85 (64 * (o + 1) + V) = BB (fitf I) N (P - (o + 1)) (o + 1) V) (h84 : ∀ b, b < N → J 84 (6 * o + b) = fitf I o b) : CallD (d + 1) 89 [vr 83, vi o, vi U, vi b] (S J L) = some (some (vi (wB (fitf I) N (P - (o + 1)) o U b)), S J L) := by
  have h64 := p2N hN
  have hV : U ||| 2 ^ b < 2 ^ N := Nat.or_lt_two_pow hU (Nat.pow_lt_pow_right (by decide) hb)
  have hr := BB_rng (N := N) (fitf_rng I) (P - (o + 1)) (o + 1) (U ||| 2 ^ b)
  exact c_wb (by omega) (by omega) (by omega) (h84 b hb) (h85 _ hV (by rw [pc_add U (by omega) b (by omega) hf]; omega)) (fitf_rng I o b) (by omega)
theorem wB_rng {I : Fn} {N P o U b : Nat} (hP : P ≤ 6) : 0 ≤ wB (fitf I) N (P - (o + 1)) o U b ∧ wB (fitf I) N (P - (o + 1)) o U b ≤ 100 := by
  have hr := BB_rng (N := N) (fitf_rng I) (P - (o + 1)) (o + 1) (U ||| 2 ^ b)
  have := fitf_rng I o b
  unfold wB
  omega
theorem c_mfl {d o U : Nat} {I J L : Fn} {N P : Nat} (hN : N ≤ 6) (hP : P ≤ 6) (ho : o < P) (hU : U < 2 ^ N) (hpc : pc U ≤ o) (hn : J 10 3 = N) (h85 : ∀ V, V < 2 ^ N → pc V ≤ o + 1 → J 85 (64 * (o + 1) + V) = BB (fitf I) N (P - (o + 1)) (o + 1) V) (h84 : ∀ b, b < N → J 84 (6 * o + b) = fitf I o b) : ∀ (r b : Nat) (a : Int), b + r = N → y88_17 (CallD (d + 1)) o U a b J L = some (some (vi (lfB (wB (fitf I) N (P - (o + 1)) o U) U r b a)), S J L)
  | 0, b, a, hb => by
    show _ = some (some (vi a), _)
    exact (y88_17_1 hn (by omega))
  | r + 1, b, a, hb => by
    have h64 := p2N hN
    have ih := fun a' => c_mfl (d := d) (L := L) hN hP ho hU hpc hn h85 h84 r (b + 1) a' (by omega)
    rw [show ((b + 1 : Nat) : Int) = (b : Int) + 1 by omega] at ih
    unfold lfB
    cases ht : U.testBit b with
    | true =>
      rw [if_pos rfl]
      refine Eq.trans (y88_17_2 hn (by omega) rfl (bit1 (by omega) (by omega) ht) (by decide) (w32_id (by omega) (by omega))) ?_
      exact ih a
    | false =>
      rw [if_neg (by decide)]
      refine Eq.trans (y88_17_3 hn (by omega) rfl (bit0 (by omega) (by omega) ht) rfl (c_wB (d := d) (L := L) hN hP ho hU (by omega) hpc ht h85 h84) rfl (w32_id (by omega) (by omega))) ?_
      exact ih _
theorem c_mostFrom {d o U : Nat} {I J L : Fn} {N P : Nat} (hN : N ≤ 6) (hP : P ≤ 6) (ho : o < P) (hU : U < 2 ^ N) (hpc : pc U ≤ o) (hn : J 10 3 = N) (h85 : ∀ V, V < 2 ^ N → pc V ≤ o + 1 → J 85 (64 * (o + 1) + V) = BB (fitf I) N (P - (o + 1)) (o + 1) V) (h84 : ∀ b, b < N → J 84 (6 * o + b) = fitf I o b) : CallD (d + 2) 88 [vr 83, vi o, vi U] (S J L) = some (some (vi (BB (fitf I) N (P - o) o U)), S J L) := by
  have h64 := p2N hN
  have e : P - o = (P - (o + 1)) + 1 := by omega
  rw [e]
  refine Eq.trans (e88_1 (w32_id (by omega) (by omega)) (w32_id (by omega) (by omega)) (w32_id (by omega) (by omega)) (by omega) (show J 85 _ = BB (fitf I) N (P - (o + 1)) (o + 1) U from by rw [show (((o : Int) + 1) * 64 + U).toNat = 64 * (o + 1) + U by omega]; exact h85 U hU (by omega))) ?_
  exact c_mfl (d := d) (L := L) hN hP ho hU hpc hn h85 h84 N 0 _ (by omega)
theorem fitv_fr {I J : Fn} (hf : Fr SCR I J) {o c : Nat} (hc : c < 6) : fitv J o c = fitv I o c := by
  unfold fitv
  rw [scr_low hf (k := 14) (by omega) (by omega), scr_low hf (k := 15) (by omega) (by omega), scr_low hf (k := 17 + c) (by omega) (by omega), scr_low hf (k := 17 + c) (by omega) (by omega)]
/-- the last line: nothing -/
theorem c_wz {F : Cal} {I L : Fn} {N P : Nat} (hN : N ≤ 6) (hP : P ≤ 6) : ∀ (r U : Nat) (J : Fn), U + r = 2 ^ N → J 10 6 = P → Fr [84, 85] I J → (∀ V, V < U → J 85 (64 * P + V) = 0) → ∃ J', y86_12 F ((2 ^ N : Nat) : Int) U J L = y86_51 F ((2 ^ N : Nat) : Int) ((P : Int) - 1) J' L ∧ (Fr [84, 85] I J' ∧ ∀ V, V < 2 ^ N → J' 85 (64 * P + V) = 0)
  | 0, U, J, hU, hp, hf, hm => by
    refine ⟨J, ?_, hf, fun V hV => hm V (by omega)⟩
    exact (y86_12_1 (by omega) hp (w32_id (by omega) (by omega)))
  | r + 1, U, J, hU, hp, hf, hm => by
    have h64 := p2N hN
    have ih := c_wz (F := F) (I := I) (L := L) hN hP r (U + 1) (up J 85 (64 * P + U) 0) (by omega) (by rw [up_ne (by decide)]; exact hp) (hf.up rfl) (fun V hV => by
      rw [up_eq]
      by_cases z : V = U
      · rw [if_pos ⟨rfl, by omega⟩]
      · rw [if_neg (by omega)]; exact hm V (by omega))
    obtain ⟨J', h1, h2⟩ := ih
    refine ⟨J', ?_, h2⟩
    rw [show ((U + 1 : Nat) : Int) = (U : Int) + 1 by omega] at h1
    have ei : ((P : Int) * 64 + U).toNat = 64 * P + U := by omega
    rw [← ei] at h1
    refine Eq.trans (y86_12_2 (by omega) hp (w32_id (by omega) (by omega)) (w32_id (by omega) (by omega)) (by omega) (w32_id (by omega) (by omega))) ?_
    exact h1
theorem c_wf {d : Nat} {I L : Fn} {N P o : Nat} (h : Rel I L) (hN : I 10 3 = N) (hN6 : N ≤ 6) (ho : o < 6) : ∀ (r b : Nat) (J : Fn), b + r = N → Fr [84, 85] I J → WG I N P (o + 1) J → (∀ a, a < b → J 84 (6 * o + a) = fitf I o a) → ∃ J', y86_57 (CallD (d + 2)) ((2 ^ N : Nat) : Int) o b J L = y86_101 (CallD (d + 2)) ((2 ^ N : Nat) : Int) o 0 J' L ∧ (Fr [84, 85] I J' ∧ (WG I N P (o + 1) J' ∧ ∀ a, a < N → J' 84 (6 * o + a) = fitf I o a))
  | 0, b, J, hb, hf, hW, hm => by
    have g3 : J 10 3 = N := (hf 10 3 rfl).trans hN
    refine ⟨J, ?_, hf, hW, fun a ha => hm a (by omega)⟩
    exact (y86_57_1 g3 (by omega))
  | r + 1, b, J, hb, hf, hW, hm => by
    have g3 : J 10 3 = N := (hf 10 3 rfl).trans hN
    have fo := c_fitOf (d := d) (I := J) (L := L) (o := (o : Int)) (c := b) (by omega) (by omega)
    rw [Int.toNat_natCast, fitv_fr (hf.mono (by decide)) (by omega)] at fo
    have ih := c_wf (d := d) (P := P) h hN hN6 ho r (b + 1) (up J 84 (6 * o + b) (fitf I o b)) (by omega) (hf.up rfl) ⟨fun o' h1 h2 U h3 h4 => by rw [up_ne (by decide)]; exact hW.1 o' h1 h2 U h3 h4, fun o' h1 h2 a ha => by rw [up_nj (by omega)]; exact hW.2 o' h1 h2 a ha⟩ (fun a ha => by
      rw [up_eq]
      by_cases z : a = b
      · rw [if_pos ⟨rfl, by omega⟩, z]
      · rw [if_neg (by omega)]; exact hm a (by omega))
    obtain ⟨J', h1, h2⟩ := ih
    refine ⟨J', ?_, h2⟩
    rw [show ((b + 1 : Nat) : Int) = (b : Int) + 1 by omega] at h1
    have ei : ((o : Int) * 6 + b).toNat = 6 * o + b := by omega
    rw [← ei] at h1
    have hR : R0 13 ((b : Nat) : Int).toNat = some (17 + b) := R0bag (by omega)
    refine Eq.trans (y86_57_2 g3 (by omega) (w32_id (by omega) (by omega)) (w32_id (by omega) (by omega)) (by omega) hR fo (by omega) (w32_id (by omega) (by omega))) ?_
    exact h1
theorem c_wt {d : Nat} {I L : Fn} {N P o : Nat} (hN : I 10 3 = N) (hN6 : N ≤ 6) (hP : P ≤ 6) (ho : o < P) : ∀ (r U : Nat) (J : Fn), U + r = 2 ^ N → Fr [84, 85] I J → WG I N P (o + 1) J → (∀ a, a < N → J 84 (6 * o + a) = fitf I o a) → (∀ V, V < U → pc V ≤ o → J 85 (64 * o + V) = BB (fitf I) N (P - o) o V) → ∃ J', y86_101 (CallD (d + 2)) ((2 ^ N : Nat) : Int) o U J L = y86_51 (CallD (d + 2)) ((2 ^ N : Nat) : Int) ((o : Int) - 1) J' L ∧ (Fr [84, 85] I J' ∧ WG I N P o J')
  | 0, U, J, hU, hf, hW, h84, hm => by
    refine ⟨J, ?_, hf, fun o' h1 h2 V h3 h4 => ?_, fun o' h1 h2 a ha => ?_⟩
    · exact (y86_101_1 (by omega) (w32_id (by omega) (by omega)))
    · by_cases z : o' = o
      · subst z; exact hm V (by omega) h4
      · exact hW.1 o' (by omega) h2 V h3 h4
    · by_cases z : o' = o
      · subst z; exact h84 a ha
      · exact hW.2 o' (by omega) h2 a ha
  | r + 1, U, J, hU, hf, hW, h84, hm => by
    have h64 := p2N hN6
    have bc := c_bc (d := d + 1) (x := U) (J := J) (L := L) (by omega)
    have g3 : J 10 3 = N := (hf 10 3 rfl).trans hN
    by_cases e : pc U ≤ o
    · have mf := c_mostFrom (d := d) (I := I) (L := L) (U := U) hN6 hP ho (by omega) e g3 (fun V h1 h2 => hW.1 (o + 1) (by omega) (by omega) V h1 h2) h84
      have ih := c_wt (d := d) (L := L) hN hN6 hP ho r (U + 1) (up J 85 (64 * o + U) (BB (fitf I) N (P - o) o U)) (by omega) (hf.up rfl) ⟨fun o' h1 h2 V h3 h4 => by rw [up_nj (by omega)]; exact hW.1 o' h1 h2 V h3 h4, fun o' h1 h2 a ha => by rw [up_ne (by decide)]; exact hW.2 o' h1 h2 a ha⟩ (fun a ha => by rw [up_ne (by decide)]; exact h84 a ha) (fun V h1 h2 => by
        rw [up_eq]
        by_cases z : V = U
        · rw [if_pos ⟨rfl, by omega⟩, z]
        · rw [if_neg (by omega)]; exact hm V (by omega) h2)
      obtain ⟨J', h1, h2⟩ := ih
      refine ⟨J', ?_, h2⟩
      rw [show ((U + 1 : Nat) : Int) = (U : Int) + 1 by omega] at h1
      have ei : ((o : Int) * 64 + U).toNat = 64 * o + U := by omega
      rw [← ei] at h1
      refine Eq.trans (y86_101_3 (by omega) bc (by omega) (w32_id (by omega) (by omega)) (w32_id (by omega) (by omega)) mf (by omega) (w32_id (by omega) (by omega))) ?_
      exact h1
    · have ih := c_wt (d := d) (L := L) hN hN6 hP ho r (U + 1) J (by omega) hf hW h84 (fun V h1 h2 => by
        by_cases z : V = U
        · subst z; exact absurd h2 e
        · exact hm V (by omega) h2)
      obtain ⟨J', h1, h2⟩ := ih
      refine ⟨J', ?_, h2⟩
      rw [show ((U + 1 : Nat) : Int) = (U : Int) + 1 by omega] at h1
      refine Eq.trans (y86_101_2 (by omega) bc (by omega) (w32_id (by omega) (by omega))) ?_
      exact h1
theorem c_wo {d : Nat} {I L : Fn} {N P : Nat} (h : Rel I L) (hN : I 10 3 = N) (hN6 : N ≤ 6) (hP : P ≤ 6) : ∀ (m : Nat) (J : Fn), m ≤ P → Fr [84, 85] I J → WG I N P m J → ∃ J', y86_51 (CallD (d + 2)) ((2 ^ N : Nat) : Int) ((m : Int) - 1) J L = some (none, S J' L) ∧ (Fr [84, 85] I J' ∧ WG I N P 0 J')
  | 0, J, hm, hf, hW => by
    refine ⟨J, ?_, hf, hW⟩
    exact (y86_51_1 (by omega))
  | m + 1, J, hm, hf, hW => by
    obtain ⟨J1, h1, h2, h3, h4⟩ := c_wf (d := d) (P := P) (o := m) h hN hN6 (by omega) N 0 J (by omega) hf hW (fun a ha => by omega)
    obtain ⟨J2, g1, g2, g3⟩ := c_wt (d := d) (L := L) (o := m) hN hN6 hP (by omega) (2 ^ N) 0 J1 (by omega) h2 h3 h4 (fun V h => by omega)
    obtain ⟨J', e1, e2⟩ := c_wo (d := d) h hN hN6 hP m J2 (by omega) g2 g3
    refine ⟨J', ?_, e2⟩
    rw [show ((m + 1 : Nat) : Int) - 1 = (m : Int) by omega]
    refine Eq.trans (y86_51_2 (by omega)) ?_
    exact Eq.trans h1 (Eq.trans g1 e1)
theorem c_weigh {d : Nat} {I L : Fn} {N P : Nat} (h : Rel I L) (hN : I 10 3 = N) (hP : I 10 6 = P) (hN6 : N ≤ 6) (hP6 : P ≤ 6) : ∃ J, CallD (d + 3) 86 [vr 83] (S I L) = some (none, S J L) ∧ (Fr [84, 85] I J ∧ WG I N P 0 J) := by
  obtain ⟨J1, h1, h2, h3⟩ := c_wz (F := CallD (d + 2)) (I := I) (L := L) hN6 hP6 (2 ^ N) 0 I (by omega) hP (Fr.refl _ _) (fun V hV => by omega)
  obtain ⟨J2, g1, g2, g3⟩ := c_wo (d := d) h hN hN6 hP6 P J1 (Nat.le_refl _) h2 ⟨fun o q1 q2 U q3 q4 => by
    have : o = P := by omega
    subst this
    rw [h3 U q3, Nat.sub_self]
    rfl, fun o q1 q2 => by omega⟩
  refine ⟨J2, ?_, g2, g3⟩
  refine Eq.trans (e86_1 hN (shl1_all N (by omega))) ?_
  exact Eq.trans h1 g1
theorem c_fbl {d : Nat} {I J L : Fn} {N P o U : Nat} (hN : J 10 3 = N) (hN6 : N ≤ 6) (hP6 : P ≤ 6) (hW : WG I N P 0 J) (ho : o < P) (hU : U < 2 ^ N) (hpc : pc U ≤ o) : ∀ r b : Nat, b + r = N → y92_2 (CallD (d + 1)) o U b J L = some (some (vi (if fsB (wB (fitf I) N (P - (o + 1)) o U) U (BB (fitf I) N (P - o) o U) r b < N then ((fsB (wB (fitf I) N (P - (o + 1)) o U) U (BB (fitf I) N (P - o) o U) r b : Nat) : Int) else -5)), S J L)
  | 0, b, hb => by
    rw [show fsB (wB (fitf I) N (P - (o + 1)) o U) U (BB (fitf I) N (P - o) o U) 0 b = b from rfl, if_neg (by omega)]
    exact (y92_2_1 hN (by omega))
  | r + 1, b, hb => by
    have h64 := p2N hN6
    have ih := c_fbl (d := d) (L := L) hN hN6 hP6 hW ho hU hpc r (b + 1) (by omega)
    rw [show ((b + 1 : Nat) : Int) = (b : Int) + 1 by omega] at ih
    cases ht : U.testBit b with
    | true =>
      rw [show fsB (wB (fitf I) N (P - (o + 1)) o U) U (BB (fitf I) N (P - o) o U) (r + 1) b = fsB (wB (fitf I) N (P - (o + 1)) o U) U (BB (fitf I) N (P - o) o U) r (b + 1) from if_neg (fun z => by rw [ht] at z; cases z.1)]
      refine Eq.trans (y92_2_2 hN (by omega) rfl (bit1 (by omega) (by omega) ht) (by decide) (w32_id (by omega) (by omega))) ?_
      exact ih
    | false =>
      have wb := c_wB (d := d) (I := I) (L := L) hN6 hP6 ho hU (b := b) (by omega) hpc ht (fun V h1 h2 => hW.1 (o + 1) (by omega) (by omega) V h1 h2) (fun a ha => hW.2 o (by omega) ho a ha)
      have hm := hW.1 o (by omega) (by omega) U hU hpc
      have ei : ((o : Int) * 64 + U).toNat = 64 * o + U := by omega
      rw [← ei] at hm
      by_cases q : wB (fitf I) N (P - (o + 1)) o U b = BB (fitf I) N (P - o) o U
      · rw [show fsB (wB (fitf I) N (P - (o + 1)) o U) U (BB (fitf I) N (P - o) o U) (r + 1) b = b from if_pos ⟨ht, q⟩, if_pos (by omega)]
        exact (y92_2_4 hN (by omega) rfl (bit0 (by omega) (by omega) ht) rfl wb (w32_id (by omega) (by omega)) (w32_id (by omega) (by omega)) (by omega) hm (by omega))
      · rw [show fsB (wB (fitf I) N (P - (o + 1)) o U) U (BB (fitf I) N (P - o) o U) (r + 1) b = fsB (wB (fitf I) N (P - (o + 1)) o U) U (BB (fitf I) N (P - o) o U) r (b + 1) from if_neg (fun z => q z.2)]
        refine Eq.trans (y92_2_3 hN (by omega) rfl (bit0 (by omega) (by omega) ht) rfl wb (w32_id (by omega) (by omega)) (w32_id (by omega) (by omega)) (by omega) hm (by omega) (w32_id (by omega) (by omega))) ?_
        exact ih
theorem c_firstBest {d : Nat} {I J L : Fn} {N P o : Nat} (hN : J 10 3 = N) (hN6 : N ≤ 6) (hP6 : P ≤ 6) (hW : WG I N P 0 J) (ho : o < P) : CallD (d + 2) 92 [vr 83, vi o, vi (gU (fitf I) N P o)] (S J L) = some (some (vi (if gD (fitf I) N P o < N then (gD (fitf I) N P o : Nat) else -5)), S J L) := by
  obtain ⟨h1, h2⟩ := gU_rng (fit := fitf I) (P := P) hN6 o
  refine Eq.trans (e92_1) ?_
  exact c_fbl (d := d) (L := L) hN hN6 hP6 hW ho h1 h2 N 0 (by omega)
theorem c_bo {d : Nat} {I J L : Fn} {N P : Nat} {a : Int} (hN : J 10 3 = N) (hN6 : N ≤ 6) (hP6 : P ≤ 6) (hW : WG I N P 0 J) (ha : 0 ≤ a ∧ a < P) : ∀ (r i : Nat) (v : Int), i + r = a + 1 → (1 ≤ i → v = if gD (fitf I) N P (i - 1) < N then ((gD (fitf I) N P (i - 1) : Nat) : Int) else -5) → y91_8 (CallD (d + 2)) a (gU (fitf I) N P i) v i J L = some (some (vi (if gD (fitf I) N P a.toNat < N then ((gD (fitf I) N P a.toNat : Nat) : Int) else -5)), S J L)
  | 0, i, v, hi, hv => by
    have := hv (by omega)
    rw [show a.toNat = i - 1 by omega, ← this]
    exact (y91_8_1 (by omega))
  | r + 1, i, v, hi, hv => by
    have h64 := p2N hN6
    obtain ⟨u1, u2⟩ := gU_rng (fit := fitf I) (P := P) hN6 i
    have fb := c_firstBest (d := d) (I := I) (L := L) hN hN6 hP6 hW (o := i) (by omega)
    have ih := fun v' => c_bo (d := d) (L := L) hN hN6 hP6 hW ha r (i + 1) v' (by omega)
    rw [show ((i + 1 : Nat) : Int) = (i : Int) + 1 by omega] at ih
    have eU : gU (fitf I) N P (i + 1) = uadd N (gU (fitf I) N P i) (gD (fitf I) N P i) := rfl
    by_cases q : gD (fitf I) N P i < N
    · rw [if_pos q] at fb
      have ih2 := ih (gD (fitf I) N P i : Nat) (fun _ => by rw [show i + 1 - 1 = i from rfl, if_pos q])
      have e2 : uadd N (gU (fitf I) N P i) (gD (fitf I) N P i) = gU (fitf I) N P i ||| 2 ^ gD (fitf I) N P i := if_pos q
      rw [eU, e2] at ih2
      have p8 := p2_lt (b := gD (fitf I) N P i) (by omega)
      refine Eq.trans (y91_8_3 (by omega) fb (by omega) (shl1_all _ (by omega)) (or32_nat (by omega) (by omega)) (w32_id (by omega) (by omega))) ?_
      exact ih2
    · rw [if_neg q] at fb
      have ih2 := ih (-5) (fun _ => by rw [show i + 1 - 1 = i from rfl, if_neg q])
      have e2 : uadd N (gU (fitf I) N P i) (gD (fitf I) N P i) = gU (fitf I) N P i := if_neg q
      rw [eU, e2] at ih2
      refine Eq.trans (y91_8_2 (by omega) fb (by decide) (w32_id (by omega) (by omega))) ?_
      exact ih2
theorem c_bagOf {d : Nat} {I J L : Fn} {N P : Nat} {a : Int} (hN : J 10 3 = N) (hN6 : N ≤ 6) (hP6 : P ≤ 6) (hW : WG I N P 0 J) (ha : 0 ≤ a ∧ a < P) : CallD (d + 3) 91 [vr 83, vi a] (S J L) = some (some (vi (if gD (fitf I) N P a.toNat < N then (gD (fitf I) N P a.toNat : Nat) else -5)), S J L) := by
  refine Eq.trans (e91_1) ?_
  exact c_bo (d := d) (L := L) hN hN6 hP6 hW ha (a.toNat + 1) 0 (-5) (by omega) (fun h => by omega)
