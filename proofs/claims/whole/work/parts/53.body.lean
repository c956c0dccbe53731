/-! bodies of acts -/
def bdL : List Int := [10, 11, 12, 10, 20, 12, 30, 11, 12, 10, 11, 40, 50, 51, 12, 30, 11, 60, 71, 70, 40]
def bdf (k a : Int) : Int := bdL.getD (3 * k + a).toNat 0
theorem body_go {d : Nat} {I L : Fn} {k a up : Int} {n : Int} (hc : CS I) (hk : 0 ≤ k ∧ k < 7) (ha : 0 ≤ a ∧ a < 3) (hn : 0 ≤ n ∧ n < 7) (hz : I 1 (3 * k + a).toNat = 0) (hu : I 0 k.toNat = up) : y124_4 (CallD (d + 1)) a k n I L = y124_4 (CallD (d + 1)) a up (n + 1) I L := (y124_4_3 (by omega) (isK1 hk) (by omega) (show _ = 3 * k from by rw [show k * 3 = 3 * k by omega]; exact w32_id (by omega) (by omega)) (w32_id (by omega) (by omega)) (by omega) hz rfl (by omega) hu (w32_id (by omega) (by omega)))
theorem body_at {d : Nat} {I L : Fn} {k a v : Int} {n : Int} (hk : 0 ≤ k ∧ k < 7) (ha : 0 ≤ a ∧ a < 3) (hn : 0 ≤ n ∧ n < 7) (hv : I 1 (3 * k + a).toNat = v) (hz : ¬ v = 0) : y124_4 (CallD (d + 1)) a k n I L = some (some (vi v), S I L) := (y124_4_4 (by omega) (isK1 hk) (by omega) (show _ = 3 * k from by rw [show k * 3 = 3 * k by omega]; exact w32_id (by omega) (by omega)) (w32_id (by omega) (by omega)) (by omega) hv hz)
theorem c_bodyFrom {d : Nat} {I L : Fn} {k a : Int} (hc : CS I) (hk : 0 ≤ k ∧ k < 7) (ha : 0 ≤ a ∧ a < 3) : CallD (d + 2) 124 [vi k, vi a] (S I L) = some (some (vi (bdf k a)), S I L) := by
  refine Eq.trans (e124_1) ?_
  obtain ⟨c0, c1, c2, c3, c4, c5, c6⟩ := hc.1
  have hb := hc.2.1
  rcases (by omega : k = 0 ∨ k = 1 ∨ k = 2 ∨ k = 3 ∨ k = 4 ∨ k = 5 ∨ k = 6) with z | z | z | z | z | z | z <;> rcases (by omega : a = 0 ∨ a = 1 ∨ a = 2) with y | y | y <;> subst z <;> subst y
  · exact body_at (k := 0) (a := 0) (n := 0) (v := 10) (by omega) (by omega) (by omega) (hb 0 (by omega)) (by decide)
  · exact body_at (k := 0) (a := 1) (n := 0) (v := 11) (by omega) (by omega) (by omega) (hb 1 (by omega)) (by decide)
  · exact body_at (k := 0) (a := 2) (n := 0) (v := 12) (by omega) (by omega) (by omega) (hb 2 (by omega)) (by decide)
  · exact Eq.trans (body_go (k := 1) (a := 0) (n := 0) (up := 0) hc (by omega) (by omega) (by omega) (hb 3 (by omega)) c1) (body_at (k := 0) (a := 0) (n := 1) (v := 10) (by omega) (by omega) (by omega) (hb 0 (by omega)) (by decide))
  · exact body_at (k := 1) (a := 1) (n := 0) (v := 20) (by omega) (by omega) (by omega) (hb 4 (by omega)) (by decide)
  · exact Eq.trans (body_go (k := 1) (a := 2) (n := 0) (up := 0) hc (by omega) (by omega) (by omega) (hb 5 (by omega)) c1) (body_at (k := 0) (a := 2) (n := 1) (v := 12) (by omega) (by omega) (by omega) (hb 2 (by omega)) (by decide))
  · exact body_at (k := 2) (a := 0) (n := 0) (v := 30) (by omega) (by omega) (by omega) (hb 6 (by omega)) (by decide)
  · exact Eq.trans (body_go (k := 2) (a := 1) (n := 0) (up := 0) hc (by omega) (by omega) (by omega) (hb 7 (by omega)) c2) (body_at (k := 0) (a := 1) (n := 1) (v := 11) (by omega) (by omega) (by omega) (hb 1 (by omega)) (by decide))
  · exact Eq.trans (body_go (k := 2) (a := 2) (n := 0) (up := 0) hc (by omega) (by omega) (by omega) (hb 8 (by omega)) c2) (body_at (k := 0) (a := 2) (n := 1) (v := 12) (by omega) (by omega) (by omega) (hb 2 (by omega)) (by decide))
  · exact Eq.trans (body_go (k := 3) (a := 0) (n := 0) (up := 0) hc (by omega) (by omega) (by omega) (hb 9 (by omega)) c3) (body_at (k := 0) (a := 0) (n := 1) (v := 10) (by omega) (by omega) (by omega) (hb 0 (by omega)) (by decide))
  · exact Eq.trans (body_go (k := 3) (a := 1) (n := 0) (up := 0) hc (by omega) (by omega) (by omega) (hb 10 (by omega)) c3) (body_at (k := 0) (a := 1) (n := 1) (v := 11) (by omega) (by omega) (by omega) (hb 1 (by omega)) (by decide))
  · exact body_at (k := 3) (a := 2) (n := 0) (v := 40) (by omega) (by omega) (by omega) (hb 11 (by omega)) (by decide)
  · exact body_at (k := 4) (a := 0) (n := 0) (v := 50) (by omega) (by omega) (by omega) (hb 12 (by omega)) (by decide)
  · exact body_at (k := 4) (a := 1) (n := 0) (v := 51) (by omega) (by omega) (by omega) (hb 13 (by omega)) (by decide)
  · exact Eq.trans (body_go (k := 4) (a := 2) (n := 0) (up := 1) hc (by omega) (by omega) (by omega) (hb 14 (by omega)) c4) (Eq.trans (body_go (k := 1) (a := 2) (n := 1) (up := 0) hc (by omega) (by omega) (by omega) (hb 5 (by omega)) c1) (body_at (k := 0) (a := 2) (n := 2) (v := 12) (by omega) (by omega) (by omega) (hb 2 (by omega)) (by decide)))
  · exact Eq.trans (body_go (k := 5) (a := 0) (n := 0) (up := 2) hc (by omega) (by omega) (by omega) (hb 15 (by omega)) c5) (body_at (k := 2) (a := 0) (n := 1) (v := 30) (by omega) (by omega) (by omega) (hb 6 (by omega)) (by decide))
  · exact Eq.trans (body_go (k := 5) (a := 1) (n := 0) (up := 2) hc (by omega) (by omega) (by omega) (hb 16 (by omega)) c5) (Eq.trans (body_go (k := 2) (a := 1) (n := 1) (up := 0) hc (by omega) (by omega) (by omega) (hb 7 (by omega)) c2) (body_at (k := 0) (a := 1) (n := 2) (v := 11) (by omega) (by omega) (by omega) (hb 1 (by omega)) (by decide)))
  · exact body_at (k := 5) (a := 2) (n := 0) (v := 60) (by omega) (by omega) (by omega) (hb 17 (by omega)) (by decide)
  · exact body_at (k := 6) (a := 0) (n := 0) (v := 71) (by omega) (by omega) (by omega) (hb 18 (by omega)) (by decide)
  · exact body_at (k := 6) (a := 1) (n := 0) (v := 70) (by omega) (by omega) (by omega) (hb 19 (by omega)) (by decide)
  · exact Eq.trans (body_go (k := 6) (a := 2) (n := 0) (up := 3) hc (by omega) (by omega) (by omega) (hb 20 (by omega)) c6) (body_at (k := 3) (a := 2) (n := 1) (v := 40) (by omega) (by omega) (by omega) (hb 11 (by omega)) (by decide))
