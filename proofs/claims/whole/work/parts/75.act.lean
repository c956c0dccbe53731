/-! the reference's acts -/
def mNote (b : Int) (J : Fn) : Fn := if J 92 61 < 20 then up (up J 137 (J 92 61).toNat b) 92 61 (J 92 61 + 1) else up J 92 61 (J 92 61 + 1)
def mLog : List Int → Fn → Fn
  | [], J => J
  | b :: l, J => mLog l (mNote b J)
theorem mLog_app : ∀ (l m : List Int) (J : Fn), mLog (l ++ m) J = mLog m (mLog l J)
  | [], _, _ => rfl
  | b :: l, m, J => mLog_app l m (mNote b J)
theorem mNote_fr {I J : Fn} {b : Int} (h : Fr [137, 1061] I J) : Fr [137, 1061] I (mNote b J) := by
  unfold mNote
  split
  · exact (h.up rfl).up rfl
  · exact h.up rfl
theorem mNote_n {J : Fn} {b : Int} : (mNote b J) 92 61 = J 92 61 + 1 := by
  unfold mNote
  split <;> exact upx _ _ _ _
theorem mLog_fr {I : Fn} : ∀ {l : List Int} {J : Fn}, Fr [137, 1061] I J → Fr [137, 1061] I (mLog l J)
  | [], _, h => h
  | b :: l, J, h => mLog_fr (l := l) (J := mNote b J) (mNote_fr h)
theorem mLog_n : ∀ {l : List Int} {J : Fn}, (mLog l J) 92 61 = J 92 61 + l.length
  | [], J => by show J 92 61 = J 92 61 + ((0 : Nat) : Int); omega
  | b :: l, J => by
    show (mLog l (mNote b J)) 92 61 = _
    rw [mLog_n, mNote_n]
    simp only [List.length_cons]
    omega
theorem mLog_v : ∀ {l : List Int} {J : Fn} {n k : Nat}, J 92 61 = n → k < 20 → (mLog l J) 137 k = if n ≤ k ∧ k < n + l.length then l.getD (k - n) 0 else J 137 k
  | [], J, n, k, hn, hk => by
    rw [if_neg (by simp only [List.length_nil]; omega)]
    rfl
  | b :: l, J, n, k, hn, hk => by
    show (mLog l (mNote b J)) 137 k = _
    rw [mLog_v (n := n + 1) (by rw [mNote_n, hn]; omega) hk]
    simp only [List.length_cons]
    have key : (mNote b J) 137 k = if k = n then b else J 137 k := by
      unfold mNote
      by_cases e : J 92 61 < 20
      · rw [if_pos e, up_ne (by decide), up_eq, hn, Int.toNat_natCast]
        by_cases z : k = n
        · rw [if_pos ⟨rfl, z⟩, if_pos z]
        · rw [if_neg (fun y => z y.2), if_neg z]
      · rw [if_neg e, up_ne (by decide), if_neg (by omega)]
    by_cases q : n + 1 ≤ k ∧ k < n + 1 + l.length
    · rw [if_pos q, if_pos (by omega)]
      obtain ⟨m, hm⟩ : ∃ m, k - n = m + 1 := ⟨k - n - 1, by omega⟩
      rw [hm, show k - (n + 1) = m by omega]
      rfl
    · rw [if_neg q, key]
      by_cases z : k = n
      · rw [if_pos z, if_pos (by omega), z, Nat.sub_self]
        rfl
      · rw [if_neg z, if_neg (by omega)]
section ACT
variable {M L : Fn} {c K v x : Int}
theorem m_note {d : Nat} {J : Fn} {b : Int} (h : 0 ≤ J 92 61 ∧ J 92 61 ≤ 2000) : CallD (d + 1) 219 [vr 92, vi b] (S J L) = some (none, S (mNote b J) L) := by
  unfold mNote
  by_cases e : J 92 61 < 20
  · rw [if_pos e]
    exact (e219_2 rfl (by omega) (by omega) (w32_id (by omega) (by omega)))
  · rw [if_neg e]
    exact (e219_1 rfl (by omega) (w32_id (by omega) (by omega)))
theorem m_cr {d : Nat} {J : Fn} (hn : 0 ≤ J 92 61 ∧ J 92 61 ≤ 1000) : CallD (d + 2) 220 [vr 92, vi c, vi x] (S J L) = some (some (vi (w32 (x + c))), S (mLog [10] J) L) := by
  have nt := m_note (d := d) (L := L) (J := J) (b := 10) (by omega)
  exact (e220_1 nt rfl)
theorem m_R {d : Nat} {J : Fn} (hc : 0 ≤ c ∧ c < 6) (hK : M 95 c.toNat = K) (hK6 : 0 ≤ K ∧ K ≤ 6) (hv : M 96 c.toNat = v) (hJ : Fr [137, 1061] M J) (hn : 0 ≤ J 92 61 ∧ J 92 61 ≤ 900) : CallD (d + 3) 218 [vr 92, vi c, vi x] (S J L) = some (some (vi (arV K c v x)), S (mLog (arL K) J) L) := by
  have g1 : J 95 c.toNat = K := (hJ 95 _ rfl).trans hK
  have nt := fun b => m_note (d := d + 1) (L := L) (J := J) (b := b) (by omega)
  have cr := fun b x => m_cr (d := d) (L := L) (c := c) (x := x) (J := mNote b J) (by rw [mNote_n]; omega)
  have cr0 := m_cr (d := d) (L := L) (c := c) (x := x) (J := J) (by omega)
  rcases (by omega : K = 0 ∨ K = 1 ∨ K = 2 ∨ K = 3 ∨ K = 4 ∨ K = 5 ∨ K = 6) with z | z | z | z | z | z | z <;> subst z
  · exact (e218_6 (by omega) g1 (by omega) (by omega) (by omega) (by omega) (by omega) cr0)
  · exact (e218_6 (by omega) g1 (by omega) (by omega) (by omega) (by omega) (by omega) cr0)
  · exact (e218_1 (by omega) g1 rfl (nt 30) rfl (cr 30 _))
  · exact (e218_2 (by omega) g1 rfl cr0)
  · exact (e218_3 (by omega) g1 rfl (nt 50) (cr 50 _) rfl)
  · exact (e218_4 (by omega) g1 rfl (nt 30) rfl (cr 30 _))
  · have g2 : (mLog [10] (mNote 71 J)) 96 c.toNat = v := ((mLog_fr (mNote_fr hJ)) 96 _ rfl).trans hv
    exact (e218_5 (by omega) g1 rfl (nt 71) (cr 71 _) g2 rfl)
theorem m_cw {d : Nat} {J : Fn} (hc : 0 ≤ c ∧ c < 6) (hK : M 95 c.toNat = K) (hK6 : 0 ≤ K ∧ K ≤ 6) (hv : M 96 c.toNat = v) (hJ : Fr [137, 1061] M J) (hn : 0 ≤ J 92 61 ∧ J 92 61 ≤ 800) : CallD (d + 4) 223 [vr 92, vi c, vi x] (S J L) = some (some (vi (acV K c v x)), S (mLog (acL K) J) L) := by
  have nt := m_note (d := d + 2) (L := L) (J := J) (b := 11) (by omega)
  have r := m_R (d := d) (L := L) (x := x) (J := mNote 11 J) hc hK hK6 hv (mNote_fr hJ) (by rw [mNote_n]; omega)
  have g2 : (mLog (arL K) (mNote 11 J)) 96 c.toNat = v := ((mLog_fr (mNote_fr hJ)) 96 _ rfl).trans hv
  exact (e223_1 nt r (by omega) g2 rfl)
theorem m_rw {d : Nat} {J : Fn} (hc : 0 ≤ c ∧ c < 6) (hK : M 95 c.toNat = K) (hK6 : 0 ≤ K ∧ K ≤ 6) (hv : M 96 c.toNat = v) (hJ : Fr [137, 1061] M J) (hn : 0 ≤ J 92 61 ∧ J 92 61 ≤ 700) : CallD (d + 5) 222 [vr 92, vi c, vi x] (S J L) = some (some (vi (aeV K c v x)), S (mLog (aeL K) J) L) := by
  have nt := m_note (d := d + 3) (L := L) (J := J) (b := 20) (by omega)
  have r := m_cw (d := d) (L := L) (x := x) (J := mNote 20 J) hc hK hK6 hv (mNote_fr hJ) (by rw [mNote_n]; omega)
  exact (e222_1 nt r rfl)
theorem m_W {d : Nat} {J : Fn} (hc : 0 ≤ c ∧ c < 6) (hK : M 95 c.toNat = K) (hK6 : 0 ≤ K ∧ K ≤ 6) (hv : M 96 c.toNat = v) (hJ : Fr [137, 1061] M J) (hn : 0 ≤ J 92 61 ∧ J 92 61 ≤ 600) : CallD (d + 6) 221 [vr 92, vi c, vi x] (S J L) = some (some (vi (awV K c v x)), S (mLog (awL K) J) L) := by
  have g1 : J 95 c.toNat = K := (hJ 95 _ rfl).trans hK
  have nt := fun b => m_note (d := d + 4) (L := L) (J := J) (b := b) (by omega)
  have cw := m_cw (d := d + 1) (L := L) (x := x) hc hK hK6 hv hJ (by omega)
  rcases (by omega : K = 0 ∨ K = 1 ∨ K = 2 ∨ K = 3 ∨ K = 4 ∨ K = 5 ∨ K = 6) with z | z | z | z | z | z | z <;> subst z
  · exact (e221_4 (by omega) g1 (by omega) (by omega) (by omega) cw)
  · have r := m_rw (d := d) (L := L) (x := x) hc hK hK6 hv hJ (by omega)
    exact (e221_1 (by omega) g1 rfl r)
  · exact (e221_4 (by omega) g1 (by omega) (by omega) (by omega) cw)
  · exact (e221_4 (by omega) g1 (by omega) (by omega) (by omega) cw)
  · have r := m_rw (d := d) (L := L) (x := w32 (x + 1)) hc hK hK6 hv (mNote_fr (b := 51) hJ) (by rw [mNote_n]; omega)
    exact (e221_2 (by omega) g1 rfl (nt 51) rfl r)
  · exact (e221_4 (by omega) g1 (by omega) (by omega) (by omega) cw)
  · have r := m_cw (d := d + 1) (L := L) (x := x) hc hK hK6 hv (mNote_fr (b := 70) hJ) (by rw [mNote_n]; omega)
    have cr := m_cr (d := d + 3) (L := L) (c := c) (x := 2) (J := mLog (acL 6) (mNote 70 J)) (by
      rw [mLog_n, mNote_n, show ((acL 6).length : Int) = 3 from rfl]; omega)
    rw [show mLog (awL 6) J = mLog [10] (mLog (acL 6) (mNote 70 J)) from mLog_app (acL 6) [10] _]
    exact (e221_3 (by omega) g1 rfl (nt 70) r cr rfl)
theorem m_ct {d : Nat} {J : Fn} (hc : 0 ≤ c ∧ c < 6) (hK : M 95 c.toNat = K) (hK6 : 0 ≤ K ∧ K ≤ 6) (hv : M 96 c.toNat = v) (hJ : Fr [137, 1061] M J) (hn : 0 ≤ J 92 61 ∧ J 92 61 ≤ 500) : CallD (d + 7) 225 [vr 92, vi c, vi x] (S J L) = some (some (vi (aqV K c v x)), S (mLog (aqL K) J) L) := by
  have nt := m_note (d := d + 5) (L := L) (J := J) (b := 12) (by omega)
  have r := m_W (d := d) (L := L) (x := x) (J := mNote 12 J) hc hK hK6 hv (mNote_fr hJ) (by rw [mNote_n]; omega)
  exact (e225_1 nt r rfl)
theorem m_T {d : Nat} {J : Fn} (hc : 0 ≤ c ∧ c < 6) (hK : M 95 c.toNat = K) (hK6 : 0 ≤ K ∧ K ≤ 6) (hv : M 96 c.toNat = v) (hJ : Fr [137, 1061] M J) (hn : 0 ≤ J 92 61 ∧ J 92 61 ≤ 400) : CallD (d + 8) 224 [vr 92, vi c, vi x] (S J L) = some (some (vi (atV K c v x)), S (mLog (atL K) J) L) := by
  have g1 : J 95 c.toNat = K := (hJ 95 _ rfl).trans hK
  have nt := fun b => m_note (d := d + 6) (L := L) (J := J) (b := b) (by omega)
  have ct := m_ct (d := d) (L := L) (x := x) hc hK hK6 hv hJ (by omega)
  have len := awL_len K
  have fin : 0 ≤ J 92 61 ∧ J 92 61 ≤ 400 → (K = 3 ∨ K = 6) → CallD (d + 7) 221 [vr 92, vi c, vi 1] (S (mLog (aqL K) (mNote 40 J)) L) = some (some (vi (awV K c v 1)), S (mLog (awL K) (mLog (aqL K) (mNote 40 J))) L) := fun _ _ => m_W (d := d + 1) (L := L) (x := 1) hc hK hK6 hv (mLog_fr (mNote_fr hJ)) (by
    rw [mLog_n, mNote_n]
    unfold aqL
    simp only [List.length_cons]
    omega)
  have ct40 := m_ct (d := d) (L := L) (x := x) hc hK hK6 hv (mNote_fr (b := 40) hJ) (by rw [mNote_n]; omega)
  rcases (by omega : K = 0 ∨ K = 1 ∨ K = 2 ∨ K = 3 ∨ K = 4 ∨ K = 5 ∨ K = 6) with z | z | z | z | z | z | z <;> subst z
  · exact (e224_5 (by omega) g1 (by omega) (by omega) (by omega) (by omega) ct)
  · exact (e224_5 (by omega) g1 (by omega) (by omega) (by omega) (by omega) ct)
  · exact (e224_5 (by omega) g1 (by omega) (by omega) (by omega) (by omega) ct)
  · rw [show mLog (atL 3) J = mLog (awL 3) (mLog (aqL 3) (mNote 40 J)) from mLog_app (aqL 3) (awL 3) _]
    exact (e224_1 (by omega) g1 rfl (nt 40) ct40 (fin hn (.inl rfl)) rfl)
  · exact (e224_2 (by omega) g1 rfl ct)
  · have r := m_ct (d := d) (L := L) (x := w32 (x - c)) hc hK hK6 hv (mNote_fr (b := 60) hJ) (by rw [mNote_n]; omega)
    exact (e224_3 (by omega) g1 rfl (nt 60) rfl r)
  · rw [show mLog (atL 6) J = mLog (awL 6) (mLog (aqL 6) (mNote 40 J)) from mLog_app (aqL 6) (awL 6) _]
    exact (e224_4 (by omega) g1 rfl (nt 40) ct40 (fin hn (.inr rfl)) rfl)
end ACT
/-- Rel after an act -/
theorem Rel.acted {I F L : Fn} (h : Rel I L) (hf : Fr [86, 87, 1061, 137] I F) (hA : AC F) : Rel F L := by
  obtain ⟨h1, h2, h3, h4, h5, h6, h7, h8⟩ := h
  have e : F 38 1 = I 38 1 := hf 38 1 rfl
  refine ⟨?_, WM_fr0 (WM_fr h2 hf (by decide)) hf (by decide), ?_, TX_fr h4 hf (by decide), HL_fr h5 hf (by decide), hA, TP_fr h7 hf (by decide) (Fr.refl [] L) (by decide), CS_fr h8 hf (by decide)⟩
  · rw [e]; exact WC_fr h1 hf (by decide)
  · rw [e]; exact IM_fr h3 hf (by decide)
theorem Rel.logged {I L : Fn} {l : List Int} (h : Rel I L) (hl : l.length ≤ 100) : Rel (mLog l (up (cLog l (up I 86 1 0)) 92 61 0)) L := by
  have f1 : Fr [86, 87] (up I 86 1 0) (cLog l (up I 86 1 0)) := cLog_fr (Fr.refl _ _)
  have f2 : Fr [137, 1061] (up (cLog l (up I 86 1 0)) 92 61 0) (mLog l (up (cLog l (up I 86 1 0)) 92 61 0)) := mLog_fr (Fr.refl _ _)
  have n1 : (cLog l (up I 86 1 0)) 86 1 = 0 + l.length := by rw [cLog_n, upx]
  have n2 : (mLog l (up (cLog l (up I 86 1 0)) 92 61 0)) 92 61 = 0 + l.length := by rw [mLog_n, upx]
  have n3 : (mLog l (up (cLog l (up I 86 1 0)) 92 61 0)) 86 1 = 0 + l.length := by rw [f2 86 1 rfl, up_ne (by decide)]; exact n1
  refine h.acted ?_ ⟨?_, ?_, fun k hk hk2 => ?_⟩
  · have g : Fr [86, 87, 1061, 137] I (cLog l (up I 86 1 0)) := ((Fr.refl [86, 87, 1061, 137] I).up rfl).trans (f1.mono (by decide))
    exact (g.up rfl).trans (f2.mono (by decide))
  · rw [n3]; unfold rng; omega
  · rw [n2, n3]
  · rw [n3] at hk2
    rw [mLog_v (J := up (cLog l (up I 86 1 0)) 92 61 0) (n := 0) (by rw [upx]; rfl) hk, if_pos (by omega), f2 87 k rfl, up_ne (by decide), cLog_v (J := up I 86 1 0) (n := 0) (by rw [upx]; rfl) hk, if_pos (by omega)]
theorem arL_len3 (K : Int) : (arL K).length ≤ 100 ∧ ((awL K).length ≤ 100 ∧ (atL K).length ≤ 100) := by
  have h1 := arL_len K
  have h2 := awL_len K
  refine ⟨by omega, by omega, ?_⟩
  unfold atL aqL
  repeat' split
  all_goals (simp only [List.length_cons, List.length_append]; omega)
theorem k_act {I L : Fn} {a b x : Int} (h : Rel I L) : SameI 122 217 [vi a, vi b, vi x] I L := by
  have hn := h.2.1.2.1
  have hr := h.bags
  have hr' := hr
  unfold rng at hr'
  have z := h.logged (l := []) (by decide)
  have z' : Rel (up (up I 86 1 0) 92 61 0) L := z
  by_cases ha : 0 ≤ a ∧ a < I 10 3
  · have hc : a.toNat < 6 := by omega
    have hbc := h.bagC hc
    have hm := h.bagM hc
    have hk := K0bag hc
    obtain ⟨b0, b1, b2, _⟩ := hbc
    unfold rng at b1
    have e1 := bagAt1 (d := 58) (L := L) ha hr
    by_cases hb : 0 ≤ b ∧ b ≤ 2
    · have h0 : Rel (up (up I 86 1 0) 92 61 0) L := z'
      -- the class runs on the state with its counter at 0
      have hI1 : ∀ j, (up I 86 1 0) (17 + a.toNat) j = I (17 + a.toNat) j := fun j => up_ne (by omega)
      have both : ∀ (l : List Int) (v : Int), l.length ≤ 100 → CallD 58 235 [vr 86, vr (17 + a.toNat), vi (I (17 + a.toNat) 1), vi b, vi x, vi 0] (S (up I 86 1 0) L) = some (some (vi v), S (cLog l (up I 86 1 0)) L) → CallD 60 217 [vr 92, vi a, vi b, vi x] (S (cLog l (up I 86 1 0)) L) = some (some (vi v), S (mLog l (up (cLog l (up I 86 1 0)) 92 61 0)) L) → SameI 122 217 [vi a, vi b, vi x] I L := by
        intro l v hl g1 g2
        have g3 : CallD 59 123 [vr 86, vr (17 + a.toNat), vi b, vi x] (S (up I 86 1 0) L) = some (some (vi v), S (cLog l (up I 86 1 0)) L) := (e123_1 (by assumption) (hI1 1) g1)
        exact ⟨_, _, _, _, _, (e122_3 e1 (by omega) (by omega) g3), g2, h.logged hl⟩
      have hRu : Rel (up I 86 1 0) L → True := fun _ => trivial
      have lens := arL_len3 (I (17 + a.toNat) 1)
      have cst : ∀ l, CallD 59 149 [vr 92, vi a] (S (up (cLog l (up I 86 1 0)) 92 61 0) L) = some (some (vi 1), S (up (cLog l (up I 86 1 0)) 92 61 0) L) := fun l => by
        have f1 : Fr [86, 87] (up I 86 1 0) (cLog l (up I 86 1 0)) := cLog_fr (Fr.refl _ _)
        exact mC1 (d := 57) (by rw [up_nj (by decide), f1 92 2 rfl, up_ne (by decide)]; exact hn) hr ha
      have M95 : ∀ l, (up (cLog l (up I 86 1 0)) 92 61 0) 95 a.toNat = I (17 + a.toNat) 1 := fun l => by
        have f1 : Fr [86, 87] (up I 86 1 0) (cLog l (up I 86 1 0)) := cLog_fr (Fr.refl _ _)
        rw [up_ne (by decide), f1 95 _ rfl, up_ne (by decide)]; exact hm.1
      have M96 : ∀ l, (up (cLog l (up I 86 1 0)) 92 61 0) 96 a.toNat = I (17 + a.toNat) 2 := fun l => by
        have f1 : Fr [86, 87] (up I 86 1 0) (cLog l (up I 86 1 0)) := cLog_fr (Fr.refl _ _)
        rw [up_ne (by decide), f1 96 _ rfl, up_ne (by decide)]; exact hm.2.1
      have nn : (0 : Int) ≤ (up I 86 1 0) 86 1 ∧ (up I 86 1 0) 86 1 ≤ 400 := by rw [upx]; decide
      have mn : ∀ l, (0 : Int) ≤ (up (cLog l (up I 86 1 0)) 92 61 0) 92 61 ∧ (up (cLog l (up I 86 1 0)) 92 61 0) 92 61 ≤ 400 := fun l => by rw [upx]; decide
      have fc : Fr [86, 87] I (up I 86 1 0) := (Fr.refl _ _).up rfl
      have ea : ((a.toNat : Nat) : Int) = a := Int.toNat_of_nonneg ha.1
      rcases (by omega : b = 0 ∨ b = 1 ∨ b = 2) with y | y | y <;> subst y
      · have g1 := c_R (d := 54) (x := x) (p := 0) h hc fc (by omega) (by omega)
        rw [ea] at g1
        have g2 := m_R (d := 56) (L := L) (x := x) (J := up (cLog (arL (I (17 + a.toNat) 1)) (up I 86 1 0)) 92 61 0) (by omega) (M95 (arL (I (17 + a.toNat) 1))) (by omega) (M96 (arL (I (17 + a.toNat) 1))) (Fr.refl _ _) (by have := mn (arL (I (17 + a.toNat) 1)); omega)
        exact both _ _ lens.1 g1 (e217_4 (cst _) (by omega) (mI1 (by omega)) (by omega) (by omega) g2)
      · have g1 := c_W (d := 51) (x := x) (p := 0) h hc fc (by omega) (by omega)
        rw [ea] at g1
        have g2 := m_W (d := 53) (L := L) (x := x) (J := up (cLog (awL (I (17 + a.toNat) 1)) (up I 86 1 0)) 92 61 0) (by omega) (M95 (awL (I (17 + a.toNat) 1))) (by omega) (M96 (awL (I (17 + a.toNat) 1))) (Fr.refl _ _) (by have := mn (awL (I (17 + a.toNat) 1)); omega)
        exact both _ _ lens.2.1 g1 (e217_3 (cst _) (by omega) (mI1 (by omega)) (by omega) (by omega) (by omega) g2)
      · have g1 := c_T (d := 49) (x := x) (p := 0) h hc fc (by omega) (by omega)
        rw [ea] at g1
        have g2 := m_T (d := 51) (L := L) (x := x) (J := up (cLog (atL (I (17 + a.toNat) 1)) (up I 86 1 0)) 92 61 0) (by omega) (M95 (atL (I (17 + a.toNat) 1))) (by omega) (M96 (atL (I (17 + a.toNat) 1))) (Fr.refl _ _) (by have := mn (atL (I (17 + a.toNat) 1)); omega)
        exact both _ _ lens.2.2 g1 (e217_2 (cst _) (by omega) (mI1 (by omega)) (by omega) (by omega) (by omega) g2)
    · have c1 : (up (up I 86 1 0) 92 61 0) 92 2 = I 10 3 := by rw [up_nj (by decide), up_ne (by decide)]; exact hn
      by_cases q : b < 0
      · exact ⟨_, _, _, _, _, (e122_2 e1 (by omega)), (e217_5 (mC1 c1 hr ha) (by omega) (mI0 hb) (by omega)), z'⟩
      · exact ⟨_, _, _, _, _, (e122_4 e1 (by omega) (by omega)), (e217_5 (mC1 c1 hr ha) (by omega) (mI0 hb) (by omega)), z'⟩
  · have c1 : (up (up I 86 1 0) 92 61 0) 92 2 = I 10 3 := by rw [up_nj (by decide), up_ne (by decide)]; exact hn
    exact ⟨_, _, _, _, _, (e122_1 (bagAt0 ha hr)), (e217_1 (mC0 c1 hr ha) (by omega)), z'⟩
