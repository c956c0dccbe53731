/-! ACTS: the mathematics -/
def cNote (b : Int) (J : Fn) : Fn := if J 86 1 < 20 then up (up J 87 (J 86 1).toNat b) 86 1 (J 86 1 + 1) else up J 86 1 (J 86 1 + 1)
def cLog : List Int → Fn → Fn
  | [], J => J
  | b :: l, J => cLog l (cNote b J)
theorem cLog_app : ∀ (l m : List Int) (J : Fn), cLog (l ++ m) J = cLog m (cLog l J)
  | [], _, _ => rfl
  | b :: l, m, J => cLog_app l m (cNote b J)
theorem cNote_fr {I J : Fn} {b : Int} (h : Fr [86, 87] I J) : Fr [86, 87] I (cNote b J) := by
  unfold cNote
  split
  · exact (h.up rfl).up rfl
  · exact h.up rfl
theorem cNote_n {J : Fn} {b : Int} : (cNote b J) 86 1 = J 86 1 + 1 := by
  unfold cNote
  split <;> exact upx _ _ _ _
theorem cLog_fr {I : Fn} : ∀ {l : List Int} {J : Fn}, Fr [86, 87] I J → Fr [86, 87] I (cLog l J)
  | [], _, h => h
  | b :: l, J, h => cLog_fr (l := l) (J := cNote b J) (cNote_fr h)
theorem cLog_n : ∀ {l : List Int} {J : Fn}, (cLog l J) 86 1 = J 86 1 + l.length
  | [], J => by show J 86 1 = J 86 1 + ((0 : Nat) : Int); omega
  | b :: l, J => by
    show (cLog l (cNote b J)) 86 1 = _
    rw [cLog_n, cNote_n]
    simp only [List.length_cons]
    omega
theorem cLog_v : ∀ {l : List Int} {J : Fn} {n k : Nat}, J 86 1 = n → k < 20 → (cLog l J) 87 k = if n ≤ k ∧ k < n + l.length then l.getD (k - n) 0 else J 87 k
  | [], J, n, k, hn, hk => by
    rw [if_neg (by simp only [List.length_nil]; omega)]
    rfl
  | b :: l, J, n, k, hn, hk => by
    show (cLog l (cNote b J)) 87 k = _
    rw [cLog_v (n := n + 1) (by rw [cNote_n, hn]; omega) hk]
    simp only [List.length_cons]
    have key : (cNote b J) 87 k = if k = n then b else J 87 k := by
      unfold cNote
      by_cases e : J 86 1 < 20
      · rw [if_pos e, up_ne (by decide), up_eq, hn, Int.toNat_natCast]
        by_cases z : k = n
        · rw [if_pos ⟨rfl, z⟩, if_pos z]
        · rw [if_neg (fun y => z y.2), if_neg z]
      · rw [if_neg e, up_ne (by decide), if_neg (by omega)]
    by_cases q : n + 1 ≤ k ∧ k < n + 1 + l.length
    · rw [if_pos q, if_pos (by omega)]
      obtain ⟨m, hm⟩ : ∃ m, k - n = m + 1 := ⟨k - n - 1, by omega⟩
      rw [hm, show k - (n + 1) = m by omega]
      rfl
    · rw [if_neg q, key]
      by_cases z : k = n
      · rw [if_pos z, if_pos (by omega), z, Nat.sub_self]
        rfl
      · rw [if_neg z, if_neg (by omega)]
/-- what runs, and what comes out: of a case of kind K, number i, v -/
def arL (K : Int) : List Int := if K = 2 ∨ K = 5 then [30, 10] else if K = 4 then [50, 10] else if K = 6 then [71, 10] else [10]
def arV (K i v x : Int) : Int := if K = 2 ∨ K = 5 then w32 (w32 (x * 3) + i) else if K = 4 then w32 (-w32 (x + i)) else if K = 6 then xor32 (w32 (x + i)) v else w32 (x + i)
def acL (K : Int) : List Int := 11 :: arL K
def acV (K i v x : Int) : Int := w32 (arV K i v x - v)
def aeL (K : Int) : List Int := 20 :: acL K
def aeV (K i v x : Int) : Int := xor32 (acV K i v x) 6
def awL (K : Int) : List Int := if K = 1 then aeL K else if K = 4 then 51 :: aeL K else if K = 6 then 70 :: (acL K ++ [10]) else acL K
def awV (K i v x : Int) : Int := if K = 1 then aeV K i v x else if K = 4 then aeV K i v (w32 (x + 1)) else if K = 6 then w32 (acV K i v x + w32 (2 + i)) else acV K i v x
def aqL (K : Int) : List Int := 12 :: awL K
def aqV (K i v x : Int) : Int := w32 (awV K i v x * 2)
def atL (K : Int) : List Int := if K = 3 ∨ K = 6 then 40 :: (aqL K ++ awL K) else if K = 5 then 60 :: aqL K else aqL K
def atV (K i v x : Int) : Int := if K = 3 ∨ K = 6 then w32 (aqV K i v x + awV K i v 1) else if K = 5 then aqV K i v (w32 (x - i)) else aqV K i v x
theorem arL_len (K : Int) : (arL K).length ≤ 2 := by
  unfold arL
  repeat' split
  all_goals decide
theorem awL_len (K : Int) : (awL K).length ≤ 6 := by
  have := arL_len K
  unfold awL aeL acL
  repeat' split
  all_goals (simp only [List.length_cons, List.length_append, List.length_nil]; omega)
/-! the class's acts -/
theorem c_note {d : Nat} {J L : Fn} {b : Int} (h : 0 ≤ J 86 1 ∧ J 86 1 ≤ 2000) : CallD (d + 1) 125 [vr 86, vi b] (S J L) = some (none, S (cNote b J) L) := by
  unfold cNote
  by_cases e : J 86 1 < 20
  · rw [if_pos e]
    exact (e125_2 rfl (by omega) (by omega) (w32_id (by omega) (by omega)))
  · rw [if_neg e]
    exact (e125_1 rfl (by omega) (w32_id (by omega) (by omega)))
section ACT
variable {I L : Fn} {c : Nat}
theorem c_b10 {d : Nat} {k a x p : Int} {J : Fn} (h : Rel I L) (hc : c < 6) (hk : 0 ≤ k ∧ k < 7) (ha : 0 ≤ a ∧ a < 3) (hb : bdf k a = 10) (hJ : Fr [86, 87] I J) (hn : 0 ≤ J 86 1 ∧ J 86 1 ≤ 1000) (hp : 0 ≤ p ∧ p + 0 ≤ 40) : CallD (d + 3) 235 [vr 86, vr (17 + c), vi k, vi a, vi x, vi p] (S J L) = some (some (vi (w32 (x + c))), S (cLog ([10]) J) L) := by
  have hkb := K0bag hc
  have hcs : CS J := CS_fr h.2.2.2.2.2.2.2 hJ (by decide)
  have bf := c_bodyFrom (d := d + 0) (L := L) hcs hk ha
  rw [hb] at bf
  have nt := c_note (d := d + 1) (L := L) (J := J) (b := 10) (by omega)
  have hN := cNote_fr (b := 10) hJ
  have hnn := cNote_n (J := J) (b := 10)
  have g0 : (cNote 10 J) (17 + c) 0 = c := (hN.bag (by decide) hc 0).trans (h.bagC hc).1
  have g1 : (cNote 10 J) (17 + c) 1 = I (17 + c) 1 := hN.bag (by decide) hc 1
  have g2 : (cNote 10 J) (17 + c) 2 = I (17 + c) 2 := hN.bag (by decide) hc 2
  have up := (hN.cell (k := 0) rfl rfl 0).trans h.2.2.2.2.2.2.2.1.1
  have wp : w32 (p + 1) = p + 1 := w32_id (by omega) (by omega)
  exact (e235_25 (by omega) bf nt (by assumption) g1 (by decide) (show _ = (1 : Int) from by decide) (by decide) (show _ = (1 : Int) from by decide) (show _ = (0 : Int) from by decide) (by decide) up wp rfl g0 rfl)
theorem c_b30 {d : Nat} {k a x p : Int} {J : Fn} (h : Rel I L) (hc : c < 6) (hk : 0 ≤ k ∧ k < 7) (ha : 0 ≤ a ∧ a < 3) (hb : bdf k a = 30) (hJ : Fr [86, 87] I J) (hn : 0 ≤ J 86 1 ∧ J 86 1 ≤ 900) (hp : 0 ≤ p ∧ p + 1 ≤ 40) : CallD (d + 4) 235 [vr 86, vr (17 + c), vi k, vi a, vi x, vi p] (S J L) = some (some (vi (w32 (w32 (x * 3) + c))), S (cLog ([30, 10]) J) L) := by
  have hkb := K0bag hc
  have hcs : CS J := CS_fr h.2.2.2.2.2.2.2 hJ (by decide)
  have bf := c_bodyFrom (d := d + 1) (L := L) hcs hk ha
  rw [hb] at bf
  have nt := c_note (d := d + 2) (L := L) (J := J) (b := 30) (by omega)
  have hN := cNote_fr (b := 30) hJ
  have hnn := cNote_n (J := J) (b := 30)
  have g0 : (cNote 30 J) (17 + c) 0 = c := (hN.bag (by decide) hc 0).trans (h.bagC hc).1
  have g1 : (cNote 30 J) (17 + c) 1 = I (17 + c) 1 := hN.bag (by decide) hc 1
  have g2 : (cNote 30 J) (17 + c) 2 = I (17 + c) 2 := hN.bag (by decide) hc 2
  have up := (hN.cell (k := 0) rfl rfl 2).trans h.2.2.2.2.2.2.2.1.2.2.1
  have wp : w32 (p + 1) = p + 1 := w32_id (by omega) (by omega)
  have r0 := c_b10 (d := d + 0) (x := w32 (x * 3)) (p := p + 1) (J := cNote 30 J) h hc (k := 0) (a := 0) (by decide) (by decide) (by decide) hN (by rw [hnn]; omega) (by omega)
  exact (e235_29 (by omega) bf nt (by assumption) g1 (by decide) (show _ = (3 : Int) from by decide) (by decide) (show _ = (3 : Int) from by decide) (show _ = (2 : Int) from by decide) (by decide) up wp rfl rfl r0)
theorem c_b50 {d : Nat} {k a x p : Int} {J : Fn} (h : Rel I L) (hc : c < 6) (hk : 0 ≤ k ∧ k < 7) (ha : 0 ≤ a ∧ a < 3) (hb : bdf k a = 50) (hJ : Fr [86, 87] I J) (hn : 0 ≤ J 86 1 ∧ J 86 1 ≤ 900) (hp : 0 ≤ p ∧ p + 1 ≤ 40) : CallD (d + 4) 235 [vr 86, vr (17 + c), vi k, vi a, vi x, vi p] (S J L) = some (some (vi (w32 (-w32 (x + c)))), S (cLog ([50, 10]) J) L) := by
  have hkb := K0bag hc
  have hcs : CS J := CS_fr h.2.2.2.2.2.2.2 hJ (by decide)
  have bf := c_bodyFrom (d := d + 1) (L := L) hcs hk ha
  rw [hb] at bf
  have nt := c_note (d := d + 2) (L := L) (J := J) (b := 50) (by omega)
  have hN := cNote_fr (b := 50) hJ
  have hnn := cNote_n (J := J) (b := 50)
  have g0 : (cNote 50 J) (17 + c) 0 = c := (hN.bag (by decide) hc 0).trans (h.bagC hc).1
  have g1 : (cNote 50 J) (17 + c) 1 = I (17 + c) 1 := hN.bag (by decide) hc 1
  have g2 : (cNote 50 J) (17 + c) 2 = I (17 + c) 2 := hN.bag (by decide) hc 2
  have up := (hN.cell (k := 0) rfl rfl 4).trans h.2.2.2.2.2.2.2.1.2.2.2.2.1
  have wp : w32 (p + 1) = p + 1 := w32_id (by omega) (by omega)
  have r0 := c_b10 (d := d + 0) (x := x) (p := p + 1) (J := cNote 50 J) h hc (k := 1) (a := 0) (by decide) (by decide) (by decide) hN (by rw [hnn]; omega) (by omega)
  exact (e235_31 (by omega) bf nt (by assumption) g1 (by decide) (show _ = (5 : Int) from by decide) (by decide) (show _ = (5 : Int) from by decide) (show _ = (4 : Int) from by decide) (by decide) up wp rfl r0 rfl)
theorem c_b71 {d : Nat} {k a x p : Int} {J : Fn} (h : Rel I L) (hc : c < 6) (hk : 0 ≤ k ∧ k < 7) (ha : 0 ≤ a ∧ a < 3) (hb : bdf k a = 71) (hJ : Fr [86, 87] I J) (hn : 0 ≤ J 86 1 ∧ J 86 1 ≤ 900) (hp : 0 ≤ p ∧ p + 1 ≤ 40) : CallD (d + 4) 235 [vr 86, vr (17 + c), vi k, vi a, vi x, vi p] (S J L) = some (some (vi (xor32 (w32 (x + c)) (I (17 + c) 2))), S (cLog ([71, 10]) J) L) := by
  have hkb := K0bag hc
  have hcs : CS J := CS_fr h.2.2.2.2.2.2.2 hJ (by decide)
  have bf := c_bodyFrom (d := d + 1) (L := L) hcs hk ha
  rw [hb] at bf
  have nt := c_note (d := d + 2) (L := L) (J := J) (b := 71) (by omega)
  have hN := cNote_fr (b := 71) hJ
  have hnn := cNote_n (J := J) (b := 71)
  have g0 : (cNote 71 J) (17 + c) 0 = c := (hN.bag (by decide) hc 0).trans (h.bagC hc).1
  have g1 : (cNote 71 J) (17 + c) 1 = I (17 + c) 1 := hN.bag (by decide) hc 1
  have g2 : (cNote 71 J) (17 + c) 2 = I (17 + c) 2 := hN.bag (by decide) hc 2
  have up := (hN.cell (k := 0) rfl rfl 6).trans h.2.2.2.2.2.2.2.1.2.2.2.2.2.2
  have wp : w32 (p + 1) = p + 1 := w32_id (by omega) (by omega)
  have r0 := c_b10 (d := d + 0) (x := x) (p := p + 1) (J := cNote 71 J) h hc (k := 3) (a := 0) (by decide) (by decide) (by decide) hN (by rw [hnn]; omega) (by omega)
  have g2l : (cLog [10] (cNote 71 J)) (17 + c) 2 = I (17 + c) 2 := (cLog_fr hN).bag (by decide) hc 2
  exact (e235_35 (by omega) bf nt (by assumption) g1 (by decide) (show _ = (7 : Int) from by decide) (by decide) (show _ = (7 : Int) from by decide) (show _ = (6 : Int) from by decide) (by decide) up wp rfl r0 g2l rfl)
theorem c_R {d : Nat} {x p : Int} {J : Fn} (h : Rel I L) (hc : c < 6) (hJ : Fr [86, 87] I J) (hn : 0 ≤ J 86 1 ∧ J 86 1 ≤ 900) (hp : 0 ≤ p ∧ p + 1 ≤ 40) : CallD (d + 4) 235 [vr 86, vr (17 + c), vi (I (17 + c) 1), vi 0, vi x, vi p] (S J L) = some (some (vi (arV (I (17 + c) 1) c (I (17 + c) 2) x)), S (cLog (arL (I (17 + c) 1)) J) L) := by
  obtain ⟨b0, b1, b2, _⟩ := h.bagC hc
  unfold rng at b1
  generalize hK : I (17 + c) 1 = K at *
  rcases (by omega : K = 0 ∨ K = 1 ∨ K = 2 ∨ K = 3 ∨ K = 4 ∨ K = 5 ∨ K = 6) with z | z | z | z | z | z | z <;> subst z
  · have r := c_b10 (d := d + 1) (k := 0) (a := 0) (x := x) (p := p) (J := J) h hc (by decide) (by decide) (by decide) hJ (by omega) (by omega)
    try rw [hK] at r
    exact r
  · have r := c_b10 (d := d + 1) (k := 1) (a := 0) (x := x) (p := p) (J := J) h hc (by decide) (by decide) (by decide) hJ (by omega) (by omega)
    try rw [hK] at r
    exact r
  · have r := c_b30 (d := d + 0) (k := 2) (a := 0) (x := x) (p := p) (J := J) h hc (by decide) (by decide) (by decide) hJ (by omega) (by omega)
    try rw [hK] at r
    exact r
  · have r := c_b10 (d := d + 1) (k := 3) (a := 0) (x := x) (p := p) (J := J) h hc (by decide) (by decide) (by decide) hJ (by omega) (by omega)
    try rw [hK] at r
    exact r
  · have r := c_b50 (d := d + 0) (k := 4) (a := 0) (x := x) (p := p) (J := J) h hc (by decide) (by decide) (by decide) hJ (by omega) (by omega)
    try rw [hK] at r
    exact r
  · have r := c_b30 (d := d + 0) (k := 5) (a := 0) (x := x) (p := p) (J := J) h hc (by decide) (by decide) (by decide) hJ (by omega) (by omega)
    try rw [hK] at r
    exact r
  · have r := c_b71 (d := d + 0) (k := 6) (a := 0) (x := x) (p := p) (J := J) h hc (by decide) (by decide) (by decide) hJ (by omega) (by omega)
    try rw [hK] at r
    exact r
theorem c_b11 {d : Nat} {k a x p : Int} {J : Fn} (h : Rel I L) (hc : c < 6) (hk : 0 ≤ k ∧ k < 7) (ha : 0 ≤ a ∧ a < 3) (hb : bdf k a = 11) (hJ : Fr [86, 87] I J) (hn : 0 ≤ J 86 1 ∧ J 86 1 ≤ 800) (hp : 0 ≤ p ∧ p + 2 ≤ 40) : CallD (d + 5) 235 [vr 86, vr (17 + c), vi k, vi a, vi x, vi p] (S J L) = some (some (vi (acV (I (17 + c) 1) c (I (17 + c) 2) x)), S (cLog (acL (I (17 + c) 1)) J) L) := by
  have hkb := K0bag hc
  have hcs : CS J := CS_fr h.2.2.2.2.2.2.2 hJ (by decide)
  have bf := c_bodyFrom (d := d + 2) (L := L) hcs hk ha
  rw [hb] at bf
  have nt := c_note (d := d + 3) (L := L) (J := J) (b := 11) (by omega)
  have hN := cNote_fr (b := 11) hJ
  have hnn := cNote_n (J := J) (b := 11)
  have g0 : (cNote 11 J) (17 + c) 0 = c := (hN.bag (by decide) hc 0).trans (h.bagC hc).1
  have g1 : (cNote 11 J) (17 + c) 1 = I (17 + c) 1 := hN.bag (by decide) hc 1
  have g2 : (cNote 11 J) (17 + c) 2 = I (17 + c) 2 := hN.bag (by decide) hc 2
  have up := (hN.cell (k := 0) rfl rfl 0).trans h.2.2.2.2.2.2.2.1.1
  have wp : w32 (p + 1) = p + 1 := w32_id (by omega) (by omega)
  have r0 := c_R (d := d + 0) (x := x) (p := p + 1) (J := cNote 11 J) h hc hN (by rw [hnn]; omega) (by omega)
  have g2l : (cLog (arL (I (17 + c) 1)) (cNote 11 J)) (17 + c) 2 = I (17 + c) 2 := (cLog_fr hN).bag (by decide) hc 2
  exact (e235_26 (by omega) bf nt (by assumption) g1 (by decide) (show _ = (1 : Int) from by decide) (by decide) (show _ = (1 : Int) from by decide) (show _ = (0 : Int) from by decide) (by decide) up wp rfl r0 g2l rfl)
theorem c_b20 {d : Nat} {k a x p : Int} {J : Fn} (h : Rel I L) (hc : c < 6) (hk : 0 ≤ k ∧ k < 7) (ha : 0 ≤ a ∧ a < 3) (hb : bdf k a = 20) (hJ : Fr [86, 87] I J) (hn : 0 ≤ J 86 1 ∧ J 86 1 ≤ 700) (hp : 0 ≤ p ∧ p + 3 ≤ 40) : CallD (d + 6) 235 [vr 86, vr (17 + c), vi k, vi a, vi x, vi p] (S J L) = some (some (vi (aeV (I (17 + c) 1) c (I (17 + c) 2) x)), S (cLog (aeL (I (17 + c) 1)) J) L) := by
  have hkb := K0bag hc
  have hcs : CS J := CS_fr h.2.2.2.2.2.2.2 hJ (by decide)
  have bf := c_bodyFrom (d := d + 3) (L := L) hcs hk ha
  rw [hb] at bf
  have nt := c_note (d := d + 4) (L := L) (J := J) (b := 20) (by omega)
  have hN := cNote_fr (b := 20) hJ
  have hnn := cNote_n (J := J) (b := 20)
  have g0 : (cNote 20 J) (17 + c) 0 = c := (hN.bag (by decide) hc 0).trans (h.bagC hc).1
  have g1 : (cNote 20 J) (17 + c) 1 = I (17 + c) 1 := hN.bag (by decide) hc 1
  have g2 : (cNote 20 J) (17 + c) 2 = I (17 + c) 2 := hN.bag (by decide) hc 2
  have up := (hN.cell (k := 0) rfl rfl 1).trans h.2.2.2.2.2.2.2.1.2.1
  have wp : w32 (p + 1) = p + 1 := w32_id (by omega) (by omega)
  have r0 := c_b11 (d := d + 0) (x := x) (p := p + 1) (J := cNote 20 J) h hc (k := 0) (a := 1) (by decide) (by decide) (by decide) hN (by rw [hnn]; omega) (by omega)
  exact (e235_28 (by omega) bf nt (by assumption) g1 (by decide) (show _ = (2 : Int) from by decide) (by decide) (show _ = (2 : Int) from by decide) (show _ = (1 : Int) from by decide) (by decide) up wp rfl r0 rfl)
theorem c_b51 {d : Nat} {k a x p : Int} {J : Fn} (h : Rel I L) (hc : c < 6) (hk : 0 ≤ k ∧ k < 7) (ha : 0 ≤ a ∧ a < 3) (hb : bdf k a = 51) (hJ : Fr [86, 87] I J) (hn : 0 ≤ J 86 1 ∧ J 86 1 ≤ 600) (hp : 0 ≤ p ∧ p + 4 ≤ 40) : CallD (d + 7) 235 [vr 86, vr (17 + c), vi k, vi a, vi x, vi p] (S J L) = some (some (vi (aeV (I (17 + c) 1) c (I (17 + c) 2) (w32 (x + 1)))), S (cLog (51 :: aeL (I (17 + c) 1)) J) L) := by
  have hkb := K0bag hc
  have hcs : CS J := CS_fr h.2.2.2.2.2.2.2 hJ (by decide)
  have bf := c_bodyFrom (d := d + 4) (L := L) hcs hk ha
  rw [hb] at bf
  have nt := c_note (d := d + 5) (L := L) (J := J) (b := 51) (by omega)
  have hN := cNote_fr (b := 51) hJ
  have hnn := cNote_n (J := J) (b := 51)
  have g0 : (cNote 51 J) (17 + c) 0 = c := (hN.bag (by decide) hc 0).trans (h.bagC hc).1
  have g1 : (cNote 51 J) (17 + c) 1 = I (17 + c) 1 := hN.bag (by decide) hc 1
  have g2 : (cNote 51 J) (17 + c) 2 = I (17 + c) 2 := hN.bag (by decide) hc 2
  have up := (hN.cell (k := 0) rfl rfl 4).trans h.2.2.2.2.2.2.2.1.2.2.2.2.1
  have wp : w32 (p + 1) = p + 1 := w32_id (by omega) (by omega)
  have r0 := c_b20 (d := d + 0) (x := w32 (x + 1)) (p := p + 1) (J := cNote 51 J) h hc (k := 1) (a := 1) (by decide) (by decide) (by decide) hN (by rw [hnn]; omega) (by omega)
  exact (e235_32 (by omega) bf nt (by assumption) g1 (by decide) (show _ = (5 : Int) from by decide) (by decide) (show _ = (5 : Int) from by decide) (show _ = (4 : Int) from by decide) (by decide) up wp rfl rfl r0)
theorem c_b70 {d : Nat} {k a x p : Int} {J : Fn} (h : Rel I L) (hc : c < 6) (hk : 0 ≤ k ∧ k < 7) (ha : 0 ≤ a ∧ a < 3) (hb : bdf k a = 70) (hJ : Fr [86, 87] I J) (hn : 0 ≤ J 86 1 ∧ J 86 1 ≤ 600) (hp : 0 ≤ p ∧ p + 4 ≤ 40) : CallD (d + 7) 235 [vr 86, vr (17 + c), vi k, vi a, vi x, vi p] (S J L) = some (some (vi (w32 (acV (I (17 + c) 1) c (I (17 + c) 2) x + w32 (2 + c)))), S (cLog (70 :: (acL (I (17 + c) 1) ++ [10])) J) L) := by
  have hkb := K0bag hc
  have hcs : CS J := CS_fr h.2.2.2.2.2.2.2 hJ (by decide)
  have bf := c_bodyFrom (d := d + 4) (L := L) hcs hk ha
  rw [hb] at bf
  have nt := c_note (d := d + 5) (L := L) (J := J) (b := 70) (by omega)
  have hN := cNote_fr (b := 70) hJ
  have hnn := cNote_n (J := J) (b := 70)
  have g0 : (cNote 70 J) (17 + c) 0 = c := (hN.bag (by decide) hc 0).trans (h.bagC hc).1
  have g1 : (cNote 70 J) (17 + c) 1 = I (17 + c) 1 := hN.bag (by decide) hc 1
  have g2 : (cNote 70 J) (17 + c) 2 = I (17 + c) 2 := hN.bag (by decide) hc 2
  have up := (hN.cell (k := 0) rfl rfl 6).trans h.2.2.2.2.2.2.2.1.2.2.2.2.2.2
  have wp : w32 (p + 1) = p + 1 := w32_id (by omega) (by omega)
  have r0 := c_b11 (d := d + 1) (x := x) (p := p + 1) (J := cNote 70 J) h hc (k := 3) (a := 1) (by decide) (by decide) (by decide) hN (by rw [hnn]; omega) (by omega)
  have len := arL_len (I (17 + c) 1)
  have r1 := c_b10 (d := d + 3) (x := 2) (p := p + 1) (J := cLog (acL (I (17 + c) 1)) (cNote 70 J)) h hc (k := 3) (a := 0) (by decide) (by decide) (by decide) (cLog_fr hN) (by rw [cLog_n, hnn]; unfold acL; simp only [List.length_cons]; omega) (by omega)
  rw [show cLog (70 :: (acL (I (17 + c) 1) ++ [10])) J = cLog [10] (cLog (acL (I (17 + c) 1)) (cNote 70 J)) from cLog_app _ _ _]
  exact (e235_34 (by omega) bf nt (by assumption) g1 (by decide) (show _ = (7 : Int) from by decide) (by decide) (show _ = (7 : Int) from by decide) (show _ = (6 : Int) from by decide) (by decide) up wp rfl r0 r1 rfl)
theorem c_W {d : Nat} {x p : Int} {J : Fn} (h : Rel I L) (hc : c < 6) (hJ : Fr [86, 87] I J) (hn : 0 ≤ J 86 1 ∧ J 86 1 ≤ 600) (hp : 0 ≤ p ∧ p + 4 ≤ 40) : CallD (d + 7) 235 [vr 86, vr (17 + c), vi (I (17 + c) 1), vi 1, vi x, vi p] (S J L) = some (some (vi (awV (I (17 + c) 1) c (I (17 + c) 2) x)), S (cLog (awL (I (17 + c) 1)) J) L) := by
  obtain ⟨b0, b1, b2, _⟩ := h.bagC hc
  unfold rng at b1
  generalize hK : I (17 + c) 1 = K at *
  rcases (by omega : K = 0 ∨ K = 1 ∨ K = 2 ∨ K = 3 ∨ K = 4 ∨ K = 5 ∨ K = 6) with z | z | z | z | z | z | z <;> subst z
  · have r := c_b11 (d := d + 2) (k := 0) (a := 1) (x := x) (p := p) (J := J) h hc (by decide) (by decide) (by decide) hJ (by omega) (by omega)
    try rw [hK] at r
    exact r
  · have r := c_b20 (d := d + 1) (k := 1) (a := 1) (x := x) (p := p) (J := J) h hc (by decide) (by decide) (by decide) hJ (by omega) (by omega)
    try rw [hK] at r
    exact r
  · have r := c_b11 (d := d + 2) (k := 2) (a := 1) (x := x) (p := p) (J := J) h hc (by decide) (by decide) (by decide) hJ (by omega) (by omega)
    try rw [hK] at r
    exact r
  · have r := c_b11 (d := d + 2) (k := 3) (a := 1) (x := x) (p := p) (J := J) h hc (by decide) (by decide) (by decide) hJ (by omega) (by omega)
    try rw [hK] at r
    exact r
  · have r := c_b51 (d := d + 0) (k := 4) (a := 1) (x := x) (p := p) (J := J) h hc (by decide) (by decide) (by decide) hJ (by omega) (by omega)
    try rw [hK] at r
    exact r
  · have r := c_b11 (d := d + 2) (k := 5) (a := 1) (x := x) (p := p) (J := J) h hc (by decide) (by decide) (by decide) hJ (by omega) (by omega)
    try rw [hK] at r
    exact r
  · have r := c_b70 (d := d + 0) (k := 6) (a := 1) (x := x) (p := p) (J := J) h hc (by decide) (by decide) (by decide) hJ (by omega) (by omega)
    try rw [hK] at r
    exact r
theorem c_b12 {d : Nat} {k a x p : Int} {J : Fn} (h : Rel I L) (hc : c < 6) (hk : 0 ≤ k ∧ k < 7) (ha : 0 ≤ a ∧ a < 3) (hb : bdf k a = 12) (hJ : Fr [86, 87] I J) (hn : 0 ≤ J 86 1 ∧ J 86 1 ≤ 500) (hp : 0 ≤ p ∧ p + 5 ≤ 40) : CallD (d + 8) 235 [vr 86, vr (17 + c), vi k, vi a, vi x, vi p] (S J L) = some (some (vi (aqV (I (17 + c) 1) c (I (17 + c) 2) x)), S (cLog (aqL (I (17 + c) 1)) J) L) := by
  have hkb := K0bag hc
  have hcs : CS J := CS_fr h.2.2.2.2.2.2.2 hJ (by decide)
  have bf := c_bodyFrom (d := d + 5) (L := L) hcs hk ha
  rw [hb] at bf
  have nt := c_note (d := d + 6) (L := L) (J := J) (b := 12) (by omega)
  have hN := cNote_fr (b := 12) hJ
  have hnn := cNote_n (J := J) (b := 12)
  have g0 : (cNote 12 J) (17 + c) 0 = c := (hN.bag (by decide) hc 0).trans (h.bagC hc).1
  have g1 : (cNote 12 J) (17 + c) 1 = I (17 + c) 1 := hN.bag (by decide) hc 1
  have g2 : (cNote 12 J) (17 + c) 2 = I (17 + c) 2 := hN.bag (by decide) hc 2
  have up := (hN.cell (k := 0) rfl rfl 0).trans h.2.2.2.2.2.2.2.1.1
  have wp : w32 (p + 1) = p + 1 := w32_id (by omega) (by omega)
  have r0 := c_W (d := d + 0) (x := x) (p := p + 1) (J := cNote 12 J) h hc hN (by rw [hnn]; omega) (by omega)
  exact (e235_27 (by omega) bf nt (by assumption) g1 (by decide) (show _ = (1 : Int) from by decide) (by decide) (show _ = (1 : Int) from by decide) (show _ = (0 : Int) from by decide) (by decide) up wp rfl r0 rfl)
theorem c_b40 {d : Nat} {k a x p : Int} {J : Fn} (h : Rel I L) (hc : c < 6) (hk : 0 ≤ k ∧ k < 7) (ha : 0 ≤ a ∧ a < 3) (hb : bdf k a = 40) (hJ : Fr [86, 87] I J) (hn : 0 ≤ J 86 1 ∧ J 86 1 ≤ 400) (hp : 0 ≤ p ∧ p + 6 ≤ 40) : CallD (d + 9) 235 [vr 86, vr (17 + c), vi k, vi a, vi x, vi p] (S J L) = some (some (vi (w32 (aqV (I (17 + c) 1) c (I (17 + c) 2) x + awV (I (17 + c) 1) c (I (17 + c) 2) 1))), S (cLog (40 :: (aqL (I (17 + c) 1) ++ awL (I (17 + c) 1))) J) L) := by
  have hkb := K0bag hc
  have hcs : CS J := CS_fr h.2.2.2.2.2.2.2 hJ (by decide)
  have bf := c_bodyFrom (d := d + 6) (L := L) hcs hk ha
  rw [hb] at bf
  have nt := c_note (d := d + 7) (L := L) (J := J) (b := 40) (by omega)
  have hN := cNote_fr (b := 40) hJ
  have hnn := cNote_n (J := J) (b := 40)
  have g0 : (cNote 40 J) (17 + c) 0 = c := (hN.bag (by decide) hc 0).trans (h.bagC hc).1
  have g1 : (cNote 40 J) (17 + c) 1 = I (17 + c) 1 := hN.bag (by decide) hc 1
  have g2 : (cNote 40 J) (17 + c) 2 = I (17 + c) 2 := hN.bag (by decide) hc 2
  have up := (hN.cell (k := 0) rfl rfl 3).trans h.2.2.2.2.2.2.2.1.2.2.2.1
  have wp : w32 (p + 1) = p + 1 := w32_id (by omega) (by omega)
  have r0 := c_b12 (d := d + 0) (x := x) (p := p + 1) (J := cNote 40 J) h hc (k := 0) (a := 2) (by decide) (by decide) (by decide) hN (by rw [hnn]; omega) (by omega)
  have len := awL_len (I (17 + c) 1)
  have r1 := c_W (d := d + 1) (x := 1) (p := p + 1) (J := cLog (aqL (I (17 + c) 1)) (cNote 40 J)) h hc (cLog_fr hN) (by rw [cLog_n, hnn]; unfold aqL; simp only [List.length_cons]; omega) (by omega)
  rw [show cLog (40 :: (aqL (I (17 + c) 1) ++ awL (I (17 + c) 1))) J = cLog (awL (I (17 + c) 1)) (cLog (aqL (I (17 + c) 1)) (cNote 40 J)) from cLog_app _ _ _]
  exact (e235_30 (by omega) bf nt (by assumption) g1 (by decide) (show _ = (4 : Int) from by decide) (by decide) (show _ = (4 : Int) from by decide) (show _ = (3 : Int) from by decide) (by decide) up wp rfl r0 r1 rfl)
theorem c_b60 {d : Nat} {k a x p : Int} {J : Fn} (h : Rel I L) (hc : c < 6) (hk : 0 ≤ k ∧ k < 7) (ha : 0 ≤ a ∧ a < 3) (hb : bdf k a = 60) (hJ : Fr [86, 87] I J) (hn : 0 ≤ J 86 1 ∧ J 86 1 ≤ 400) (hp : 0 ≤ p ∧ p + 6 ≤ 40) : CallD (d + 9) 235 [vr 86, vr (17 + c), vi k, vi a, vi x, vi p] (S J L) = some (some (vi (aqV (I (17 + c) 1) c (I (17 + c) 2) (w32 (x - c)))), S (cLog (60 :: aqL (I (17 + c) 1)) J) L) := by
  have hkb := K0bag hc
  have hcs : CS J := CS_fr h.2.2.2.2.2.2.2 hJ (by decide)
  have bf := c_bodyFrom (d := d + 6) (L := L) hcs hk ha
  rw [hb] at bf
  have nt := c_note (d := d + 7) (L := L) (J := J) (b := 60) (by omega)
  have hN := cNote_fr (b := 60) hJ
  have hnn := cNote_n (J := J) (b := 60)
  have g0 : (cNote 60 J) (17 + c) 0 = c := (hN.bag (by decide) hc 0).trans (h.bagC hc).1
  have g1 : (cNote 60 J) (17 + c) 1 = I (17 + c) 1 := hN.bag (by decide) hc 1
  have g2 : (cNote 60 J) (17 + c) 2 = I (17 + c) 2 := hN.bag (by decide) hc 2
  have up := (hN.cell (k := 0) rfl rfl 5).trans h.2.2.2.2.2.2.2.1.2.2.2.2.2.1
  have wp : w32 (p + 1) = p + 1 := w32_id (by omega) (by omega)
  have r0 := c_b12 (d := d + 0) (x := w32 (x - c)) (p := p + 1) (J := cNote 60 J) h hc (k := 2) (a := 2) (by decide) (by decide) (by decide) hN (by rw [hnn]; omega) (by omega)
  exact (e235_33 (by omega) bf nt (by assumption) g1 (by decide) (show _ = (6 : Int) from by decide) (by decide) (show _ = (6 : Int) from by decide) (show _ = (5 : Int) from by decide) (by decide) up wp rfl g0 rfl r0)
theorem c_T {d : Nat} {x p : Int} {J : Fn} (h : Rel I L) (hc : c < 6) (hJ : Fr [86, 87] I J) (hn : 0 ≤ J 86 1 ∧ J 86 1 ≤ 400) (hp : 0 ≤ p ∧ p + 6 ≤ 40) : CallD (d + 9) 235 [vr 86, vr (17 + c), vi (I (17 + c) 1), vi 2, vi x, vi p] (S J L) = some (some (vi (atV (I (17 + c) 1) c (I (17 + c) 2) x)), S (cLog (atL (I (17 + c) 1)) J) L) := by
  obtain ⟨b0, b1, b2, _⟩ := h.bagC hc
  unfold rng at b1
  generalize hK : I (17 + c) 1 = K at *
  rcases (by omega : K = 0 ∨ K = 1 ∨ K = 2 ∨ K = 3 ∨ K = 4 ∨ K = 5 ∨ K = 6) with z | z | z | z | z | z | z <;> subst z
  · have r := c_b12 (d := d + 1) (k := 0) (a := 2) (x := x) (p := p) (J := J) h hc (by decide) (by decide) (by decide) hJ (by omega) (by omega)
    try rw [hK] at r
    exact r
  · have r := c_b12 (d := d + 1) (k := 1) (a := 2) (x := x) (p := p) (J := J) h hc (by decide) (by decide) (by decide) hJ (by omega) (by omega)
    try rw [hK] at r
    exact r
  · have r := c_b12 (d := d + 1) (k := 2) (a := 2) (x := x) (p := p) (J := J) h hc (by decide) (by decide) (by decide) hJ (by omega) (by omega)
    try rw [hK] at r
    exact r
  · have r := c_b40 (d := d + 0) (k := 3) (a := 2) (x := x) (p := p) (J := J) h hc (by decide) (by decide) (by decide) hJ (by omega) (by omega)
    try rw [hK] at r
    exact r
  · have r := c_b12 (d := d + 1) (k := 4) (a := 2) (x := x) (p := p) (J := J) h hc (by decide) (by decide) (by decide) hJ (by omega) (by omega)
    try rw [hK] at r
    exact r
  · have r := c_b60 (d := d + 0) (k := 5) (a := 2) (x := x) (p := p) (J := J) h hc (by decide) (by decide) (by decide) hJ (by omega) (by omega)
    try rw [hK] at r
    exact r
  · have r := c_b40 (d := d + 0) (k := 6) (a := 2) (x := x) (p := p) (J := J) h hc (by decide) (by decide) (by decide) hJ (by omega) (by omega)
    try rw [hK] at r
    exact r
end ACT
