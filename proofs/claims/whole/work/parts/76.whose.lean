/-! WHOSE: the mathematics -/
def lfB (v : Nat → Int) (U : Nat) : Nat → Nat → Int → Int
  | 0, _, a => a
  | r + 1, d, a => lfB v U r (d + 1) (if U.testBit d = true then a else if a < v d then v d else a)
/-- the most from owner k on, n owners, of the cases that are not in U -/
def BB (fit : Nat → Nat → Int) (N : Nat) : Nat → Nat → Nat → Int
  | 0, _, _ => 0
  | n + 1, k, U => lfB (fun b => fit k b + BB fit N n (k + 1) (U ||| 2 ^ b)) U N 0 (BB fit N n (k + 1) U)
theorem lfB_ge {v : Nat → Int} {U : Nat} : ∀ {r d : Nat} {a : Int}, a ≤ lfB v U r d a
  | 0, d, a => Int.le_refl _
  | r + 1, d, a => by
    have := lfB_ge (v := v) (U := U) (r := r) (d := d + 1) (a := if U.testBit d = true then a else if a < v d then v d else a)
    refine Int.le_trans ?_ this
    repeat' split
    all_goals omega
theorem lfB_le {v : Nat → Int} {U : Nat} {M : Int} : ∀ {r d : Nat} {a : Int}, a ≤ M → (∀ b, d ≤ b → b < d + r → v b ≤ M) → lfB v U r d a ≤ M
  | 0, d, a, h, _ => h
  | r + 1, d, a, h, hv => by
    refine lfB_le (r := r) (d := d + 1) ?_ (fun b h1 h2 => hv b (by omega) (by omega))
    have := hv d (Nat.le_refl _) (by omega)
    repeat' split
    all_goals omega
theorem lfB_max {v : Nat → Int} {U : Nat} : ∀ {r d : Nat} {a x : Int}, lfB v U r d (if a < x then x else a) = if lfB v U r d a < x then x else lfB v U r d a
  | 0, d, a, x => rfl
  | r + 1, d, a, x => by
    show lfB v U r (d + 1) _ = if lfB v U r (d + 1) _ < x then x else lfB v U r (d + 1) _
    rw [← lfB_max]
    congr 1
    repeat' split
    all_goals omega
theorem BB_rng {fit : Nat → Nat → Int} {N : Nat} (hf : ∀ o b, 0 ≤ fit o b ∧ fit o b ≤ 4) : ∀ n k U : Nat, 0 ≤ BB fit N n k U ∧ BB fit N n k U ≤ 4 * n
  | 0, _, _ => by unfold BB; omega
  | n + 1, k, U => by
    have h1 := BB_rng (N := N) hf n (k + 1)
    have := h1 U
    refine ⟨Int.le_trans this.1 lfB_ge, lfB_le (by omega) (fun b _ _ => ?_)⟩
    have h2 := h1 (U ||| 2 ^ b)
    have h3 := hf k b
    omega
/-- the first that gives m; N: none -/
def fsB (v : Nat → Int) (U : Nat) (m : Int) : Nat → Nat → Nat
  | 0, d => d
  | r + 1, d => if U.testBit d = false ∧ v d = m then d else fsB v U m r (d + 1)
theorem fsB_le {v : Nat → Int} {U : Nat} {m : Int} : ∀ {r d : Nat}, d ≤ fsB v U m r d ∧ fsB v U m r d ≤ d + r
  | 0, d => ⟨Nat.le_refl _, Nat.le_refl _⟩
  | r + 1, d => by
    have := fsB_le (v := v) (U := U) (m := m) (r := r) (d := d + 1)
    unfold fsB
    split <;> omega
theorem fsB_free {v : Nat → Int} {U : Nat} {m : Int} : ∀ {r d : Nat}, fsB v U m r d < d + r → U.testBit (fsB v U m r d) = false
  | 0, d, h => by
    have : d < d + 0 := h
    omega
  | r + 1, d, h => by
    unfold fsB at h ⊢
    split
    · next e => exact e.1
    · next e =>
      rw [if_neg e] at h
      exact fsB_free (by omega)
def rowS (r : Nat → Nat) (k d : Nat) : Nat → Nat := fun o => if o = k then d else r o
def uadd (N U d : Nat) : Nat := if d < N then U ||| 2 ^ d else U
def wB (fit : Nat → Nat → Int) (N n k U : Nat) : Nat → Int := fun b => fit k b + BB fit N n (k + 1) (U ||| 2 ^ b)
/-- the row that is first among the best -/
def grB (fit : Nat → Nat → Int) (N : Nat) : Nat → Nat → Nat → (Nat → Nat) → Nat → Nat
  | 0, _, _, r => r
  | n + 1, k, U, r => grB fit N n (k + 1) (uadd N U (fsB (wB fit N n k U) U (BB fit N (n + 1) k U) N 0)) (rowS r k (fsB (wB fit N n k U) U (BB fit N (n + 1) k U) N 0))
/-- what a row sums to; -1: none -/
def svR (fit : Nat → Nat → Int) (N : Nat) (r : Nat → Nat) : Nat → Nat → Nat → Int → Int
  | 0, _, _, s => s
  | n + 1, o, U, s => if r o = N then svR fit N r n (o + 1) U s else if U.testBit (r o) = true then -1 else svR fit N r n (o + 1) (U ||| 2 ^ r o) (s + fit o (r o))
abbrev MB : Type := Int × (Nat → Nat)
def enD (f : Nat → MB → MB) : Nat → Nat → MB → MB
  | 0, d, x => f d x
  | c + 1, d, x => enD f c (d + 1) (f d x)
def en (fit : Nat → Nat → Int) (N P : Nat) : Nat → Nat → (Nat → Nat) → MB → MB
  | 0, _, r, x => if x.1 < svR fit N r P 0 0 0 then (svR fit N r P 0 0 0, r) else x
  | n + 1, k, r, x => enD (fun d y => en fit N P n (k + 1) (rowS r k d) y) N 0 x
theorem en_fold {w : Nat → Int} {wN s : Int} {U : Nat} {G : Nat → Nat → Nat} {f : Nat → MB → MB} {N : Nat} (hd : ∀ d m b, d < N → -1 ≤ m → f d (m, b) = if U.testBit d = true then (m, b) else if m < s + w d then (s + w d, G d) else (m, b)) (hN : ∀ m b, -1 ≤ m → f N (m, b) = if m < s + wN then (s + wN, G N) else (m, b)) : ∀ (c d : Nat) (m : Int) (b : Nat → Nat), d + c = N → -1 ≤ m → enD f c d (m, b) = if m < s + lfB w U c d wN then (s + lfB w U c d wN, G (fsB w U (lfB w U c d wN) c d)) else (m, b)
  | 0, d, m, b, hc, hm => by
    have : d = N := by omega
    subst this
    exact hN m b hm
  | c + 1, d, m, b, hc, hm => by
    show enD f c (d + 1) (f d (m, b)) = _
    rw [hd d m b (by omega) hm]
    have e1 : lfB w U (c + 1) d wN = lfB w U c (d + 1) (if U.testBit d = true then wN else if wN < w d then w d else wN) := rfl
    rw [e1]
    cases ht : U.testBit d with
    | true =>
      rw [if_pos rfl, if_pos rfl, en_fold hd hN c (d + 1) m b (by omega) hm]
      have e2 : fsB w U (lfB w U c (d + 1) wN) (c + 1) d = fsB w U (lfB w U c (d + 1) wN) c (d + 1) := by
        show (if U.testBit d = false ∧ _ then _ else _) = _
        rw [if_neg (by rw [ht]; exact fun z => by cases z.1)]
      rw [e2]
    | false =>
      rw [if_neg (show ¬ (false = true) by decide), if_neg (show ¬ (false = true) by decide), lfB_max]
      by_cases q : lfB w U c (d + 1) wN < w d
      · rw [if_pos q]
        have e2 : fsB w U (w d) (c + 1) d = d := by
          show (if U.testBit d = false ∧ w d = w d then d else _) = d
          rw [if_pos ⟨ht, rfl⟩]
        rw [e2]
        by_cases z : m < s + w d
        · rw [if_pos z, en_fold hd hN c (d + 1) _ _ (by omega) (by omega), if_neg (by omega)]
        · rw [if_neg z, en_fold hd hN c (d + 1) _ _ (by omega) hm, if_neg (by omega)]
      · rw [if_neg q]
        by_cases q2 : w d = lfB w U c (d + 1) wN
        · have e2 : fsB w U (lfB w U c (d + 1) wN) (c + 1) d = d := by
            show (if U.testBit d = false ∧ w d = _ then d else _) = d
            rw [if_pos ⟨ht, q2⟩]
          rw [e2]
          by_cases z : m < s + w d
          · rw [if_pos z, en_fold hd hN c (d + 1) _ _ (by omega) (by omega), if_neg (by omega), if_pos (by omega), q2]
          · rw [if_neg z, en_fold hd hN c (d + 1) _ _ (by omega) hm, if_neg (by omega), if_neg (by omega)]
        · have e2 : fsB w U (lfB w U c (d + 1) wN) (c + 1) d = fsB w U (lfB w U c (d + 1) wN) c (d + 1) := by
            show (if U.testBit d = false ∧ w d = _ then d else _) = _
            rw [if_neg (fun z => q2 z.2)]
          rw [e2]
          by_cases z : m < s + w d
          · rw [if_pos z, en_fold hd hN c (d + 1) _ _ (by omega) (by omega), if_pos (by omega), if_pos (by omega)]
          · rw [if_neg z, en_fold hd hN c (d + 1) _ _ (by omega) hm]
/-- a row's beginning -/
def PV (fit : Nat → Nat → Int) (N P : Nat) (r : Nat → Nat) (k U : Nat) (s : Int) : Prop := ∀ r' : Nat → Nat, (∀ o, o < k → r' o = r o) → svR fit N r' P 0 0 0 = svR fit N r' (P - k) k U s
def PX (fit : Nat → Nat → Int) (N P : Nat) (r : Nat → Nat) (k : Nat) : Prop := ∀ r' : Nat → Nat, (∀ o, o < k → r' o = r o) → svR fit N r' P 0 0 0 = -1
theorem en_bad {fit : Nat → Nat → Int} {N P : Nat} : ∀ (n k : Nat) (r : Nat → Nat) (m : Int) (b : Nat → Nat), k + n = P → -1 ≤ m → PX fit N P r k → en fit N P n k r (m, b) = (m, b)
  | 0, k, r, m, b, hk, hm, hx => by
    show (if m < svR fit N r P 0 0 0 then _ else _) = _
    rw [hx r (fun _ _ => rfl), if_neg (by omega)]
  | n + 1, k, r, m, b, hk, hm, hx => by
    show enD (fun d y => en fit N P n (k + 1) (rowS r k d) y) N 0 (m, b) = (m, b)
    have g : ∀ d, en fit N P n (k + 1) (rowS r k d) (m, b) = (m, b) := fun d => en_bad n (k + 1) _ m b (by omega) hm (fun r' h => hx r' (fun o ho => by
      rw [h o (by omega)]
      exact if_neg (by omega)))
    have : ∀ c d, enD (fun d y => en fit N P n (k + 1) (rowS r k d) y) c d (m, b) = (m, b) := by
      intro c
      induction c with
      | zero => intro d; exact g d
      | succ c ih =>
        intro d
        show enD _ c (d + 1) (en fit N P n (k + 1) (rowS r k d) (m, b)) = _
        rw [g d]
        exact ih (d + 1)
    exact this N 0
theorem en_ok {fit : Nat → Nat → Int} {N P : Nat} : ∀ (n k : Nat) (r : Nat → Nat) (U : Nat) (s m : Int) (b : Nat → Nat), k + n = P → -1 ≤ m → PV fit N P r k U s → en fit N P n k r (m, b) = if m < s + BB fit N n k U then (s + BB fit N n k U, grB fit N n k U r) else (m, b)
  | 0, k, r, U, s, m, b, hk, hm, hx => by
    show (if m < svR fit N r P 0 0 0 then (svR fit N r P 0 0 0, r) else (m, b)) = if m < s + 0 then (s + 0, r) else (m, b)
    have : P = k := by omega
    subst this
    rw [hx r (fun _ _ => rfl), Nat.sub_self, Int.add_zero]
    rfl
  | n + 1, k, r, U, s, m, b, hk, hm, hx => by
    have hpk : P - k = (P - (k + 1)) + 1 := by omega
    have nx : ∀ d, d ≤ N → (d = N ∨ U.testBit d = false) → PV fit N P (rowS r k d) (k + 1) (uadd N U d) (s + if d < N then fit k d else 0) := by
      intro d hdN hd r' h
      have hk' : r' k = d := by
        rw [h k (by omega)]
        exact if_pos rfl
      rw [hx r' (fun o ho => by
        rw [h o (by omega)]
        exact if_neg (by omega)), hpk]
      show (if r' k = N then _ else if U.testBit (r' k) = true then -1 else _) = _
      rw [hk']
      by_cases z : d = N
      · rw [if_pos z]
        unfold uadd
        rw [if_neg (by omega), if_neg (by omega), Int.add_zero]
      · have hf : U.testBit d = false := by
          rcases hd with hd | hd
          · exact absurd hd z
          · exact hd
        rw [if_neg z, if_neg (by rw [hf]; decide)]
        unfold uadd
        rw [if_pos (by omega), if_pos (by omega)]
    have bad : ∀ d, d < N → U.testBit d = true → PX fit N P (rowS r k d) (k + 1) := by
      intro d hdN hd r' h
      have hk' : r' k = d := by
        rw [h k (by omega)]
        exact if_pos rfl
      rw [hx r' (fun o ho => by
        rw [h o (by omega)]
        exact if_neg (by omega)), hpk]
      show (if r' k = N then _ else if U.testBit (r' k) = true then -1 else _) = _
      rw [hk', if_neg (by omega), if_pos hd]
    exact en_fold (w := wB fit N n k U) (wN := BB fit N n (k + 1) U) (s := s) (U := U) (G := fun d => grB fit N n (k + 1) (uadd N U d) (rowS r k d)) (N := N) (fun d m b hdN hm => by
      cases ht : U.testBit d with
      | true =>
        rw [if_pos rfl]
        exact en_bad n (k + 1) _ m b (by omega) hm (bad d hdN ht)
      | false =>
        rw [if_neg (by decide), en_ok n (k + 1) _ _ _ m b (by omega) hm (nx d (by omega) (.inr ht)), if_pos hdN]
        have e : uadd N U d = U ||| 2 ^ d := if_pos hdN
        have e2 : s + fit k d + BB fit N n (k + 1) (uadd N U d) = s + wB fit N n k U d := by
          rw [e]
          show _ = s + (fit k d + _)
          omega
        rw [e2]) (fun m b hm => by
      rw [en_ok n (k + 1) _ _ _ m b (by omega) hm (nx N (Nat.le_refl _) (.inl rfl)), if_neg (show ¬ N < N by omega), Int.add_zero]
      have e : uadd N U N = U := if_neg (by omega)
      rw [e]) N 0 m b (by omega) hm
/-- all rows -/
theorem en_all {fit : Nat → Nat → Int} {N P : Nat} (hf : ∀ o b, 0 ≤ fit o b ∧ fit o b ≤ 4) (r b : Nat → Nat) : en fit N P P 0 r (-1, b) = (BB fit N P 0 0, grB fit N P 0 0 r) := by
  have h := BB_rng (N := N) hf P 0 0
  rw [en_ok P 0 r 0 0 (-1) b (by omega) (by omega) (fun r' _ => by rw [Nat.sub_zero]), if_pos (by omega), Int.zero_add]
/-- the same, owner by owner -/
def gU (fit : Nat → Nat → Int) (N P : Nat) : Nat → Nat
  | 0 => 0
  | i + 1 => uadd N (gU fit N P i) (fsB (wB fit N (P - (i + 1)) i (gU fit N P i)) (gU fit N P i) (BB fit N (P - i) i (gU fit N P i)) N 0)
def gD (fit : Nat → Nat → Int) (N P i : Nat) : Nat := fsB (wB fit N (P - (i + 1)) i (gU fit N P i)) (gU fit N P i) (BB fit N (P - i) i (gU fit N P i)) N 0
theorem grB_at {fit : Nat → Nat → Int} {N P : Nat} : ∀ (n k : Nat) (r : Nat → Nat) (o : Nat), k + n = P → grB fit N n k (gU fit N P k) r o = if k ≤ o ∧ o < P then gD fit N P o else r o
  | 0, k, r, o, hk => by
    rw [if_neg (by omega)]
    rfl
  | n + 1, k, r, o, hk => by
    have e1 : P - k = n + 1 := by omega
    have e2 : P - (k + 1) = n := by omega
    have ih := grB_at (fit := fit) (N := N) (P := P) n (k + 1) (rowS r k (gD fit N P k)) o (by omega)
    have eU : gU fit N P (k + 1) = uadd N (gU fit N P k) (fsB (wB fit N n k (gU fit N P k)) (gU fit N P k) (BB fit N (n + 1) k (gU fit N P k)) N 0) := by
      show uadd N (gU fit N P k) (fsB (wB fit N (P - (k + 1)) k (gU fit N P k)) (gU fit N P k) (BB fit N (P - k) k (gU fit N P k)) N 0) = _
      rw [e1, e2]
    have eD : gD fit N P k = fsB (wB fit N n k (gU fit N P k)) (gU fit N P k) (BB fit N (n + 1) k (gU fit N P k)) N 0 := by
      unfold gD
      rw [e1, e2]
    show grB fit N n (k + 1) (uadd N (gU fit N P k) _) (rowS r k _) o = _
    rw [← eU, ← eD, ih]
    unfold rowS
    by_cases z : o = k
    · subst z
      rw [if_neg (by omega), if_pos rfl, if_pos (by omega)]
    · rw [if_neg z]
      by_cases q : k + 1 ≤ o ∧ o < P
      · rw [if_pos q, if_pos (by omega)]
      · rw [if_neg q, if_neg (by omega)]
/-- how many are in a set -/
def pc (x : Nat) : Nat := x % 2 + x / 2 % 2 + x / 4 % 2 + x / 8 % 2 + x / 16 % 2 + x / 32 % 2
theorem pc_add : ∀ x, x < 64 → ∀ b, b < 6 → x.testBit b = false → pc (x ||| 2 ^ b) = pc x + 1 := by decide +kernel
theorem gU_rng {fit : Nat → Nat → Int} {N P : Nat} (hN : N ≤ 6) : ∀ i, gU fit N P i < 2 ^ N ∧ pc (gU fit N P i) ≤ i
  | 0 => ⟨Nat.pow_pos (by decide), by show pc 0 ≤ 0; decide⟩
  | i + 1 => by
    obtain ⟨h1, h2⟩ := gU_rng (fit := fit) (N := N) (P := P) hN i
    have h64 : gU fit N P i < 64 := Nat.lt_of_lt_of_le h1 (Nat.pow_le_pow_right (n := 2) (by decide) hN)
    show uadd N (gU fit N P i) (gD fit N P i) < 2 ^ N ∧ pc (uadd N (gU fit N P i) (gD fit N P i)) ≤ i + 1
    unfold uadd
    by_cases z : gD fit N P i < N
    · rw [if_pos z]
      refine ⟨Nat.or_lt_two_pow h1 (Nat.pow_lt_pow_right (by decide) z), ?_⟩
      have hf : (gU fit N P i).testBit (gD fit N P i) = false := fsB_free (by unfold gD at z; omega)
      rw [pc_add _ h64 _ (by omega) hf]
      omega
    · rw [if_neg z]
      exact ⟨h1, by omega⟩
