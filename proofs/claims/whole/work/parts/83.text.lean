/-! THE TEXT: the class's clauses and hall -/
def clD : Int × (Int × Nat) := (0, 0, 0)
/-- clauses and codes, as the class lays them -/
def CEx (h : Nat) (cl : CL) (T : List Int) (J : Fn) : Prop := J h 0 = cl.length ∧ (J h 5 = T.length ∧ ((∀ i, i < cl.length → J (h + 1) i = (cl.getD i clD).1 ∧ (J (h + 2) i = (cl.getD i clD).2.1 ∧ J (h + 3) i = (cl.getD i clD).2.2)) ∧ ∀ i, i < T.length → J (h + 4) i = T.getD i 0))
theorem CEx.place {h : Nat} {cl : CL} {T : List Int} {J : Fn} (hh : 45 ≤ h) (a : CEx h cl T J) (v : Int) : CEx h cl T (up J 36 2 v) := by
  obtain ⟨a1, a2, a3, a4⟩ := a
  refine ⟨?_, ?_, fun i hi => ?_, fun i hi => ?_⟩
  · rw [up_ne (by omega)]; exact a1
  · rw [up_ne (by omega)]; exact a2
  · rw [up_ne (by omega), up_ne (by omega), up_ne (by omega)]; exact a3 i hi
  · rw [up_ne (by omega)]; exact a4 i hi
theorem CEx.put {h : Nat} {cl : CL} {T cs : List Int} {J J' : Fn} (hh : 45 ≤ h) (a : CEx h cl T J) (x : COx h J J' cs) : CEx h cl (T ++ cs) J' := by
  obtain ⟨a1, a2, a3, a4⟩ := a
  obtain ⟨x1, x2, x3, x4⟩ := x
  refine ⟨?_, ?_, fun i hi => ?_, fun i hi => ?_⟩
  · rw [x1 h 0 (by omega) (by omega) (by omega)]; exact a1
  · rw [x2, a2, List.length_append]; omega
  · rw [x1 (h + 1) i (by omega) (by omega) (by omega), x1 (h + 2) i (by omega) (by omega) (by omega), x1 (h + 3) i (by omega) (by omega) (by omega)]; exact a3 i hi
  · rw [List.length_append] at hi
    by_cases q : i < T.length
    · rw [x4 i (by omega), a4 i q, gD_l q]
    · have := x3 (i - T.length) (by omega)
      rw [a2, Int.toNat_natCast, show T.length + (i - T.length) = i by omega] at this
      rw [this, gD_r (by omega)]
theorem cD_l {a b : CL} {i : Nat} (h : i < a.length) : (a ++ b).getD i clD = a.getD i clD := by
  rw [List.getD_eq_getElem?_getD, List.getD_eq_getElem?_getD, List.getElem?_append_left h]
theorem cD_r {a b : CL} {i : Nat} (h : a.length ≤ i) : (a ++ b).getD i clD = b.getD (i - a.length) clD := by
  rw [List.getD_eq_getElem?_getD, List.getD_eq_getElem?_getD, List.getElem?_append_right h]
section TEXT
variable {I L : Fn} {h : Nat}
/-- Hall.closeClause -/
theorem c_close {d : Nat} {J : Fn} {w v : Int} {cl : CL} {T : List Int} (hH : isH h) (hh : 45 ≤ h) (a : CEx h cl T J) (hl : cl.length < 10) : ∃ J', CallD (d + 1) 62 [vr h, vi w, vi v] (S J L) = some (none, S J' L) ∧ (CEx h (cl ++ [(w, v, T.length)]) T J' ∧ (J' 36 2 = J 36 2 ∧ CFx h J J')) := by
  obtain ⟨hk, ⟨r1, r2, r3, r4⟩, k1, k2, k3, k4⟩ := isH_K hH
  obtain ⟨a1, a2, a3, a4⟩ := a
  have e1 : (up J (h + 1) cl.length w) h 0 = cl.length := by rw [up_ne (by omega)]; exact a1
  have e2 : (up (up J (h + 1) cl.length w) (h + 2) cl.length v) h 0 = cl.length := by rw [up_ne (by omega)]; exact e1
  have e3 : (up (up J (h + 1) cl.length w) (h + 2) cl.length v) h 5 = T.length := by rw [up_ne (by omega), up_ne (by omega)]; exact a2
  have e4 : (up (up (up J (h + 1) cl.length w) (h + 2) cl.length v) (h + 3) cl.length T.length) h 0 = cl.length := by rw [up_ne (by omega)]; exact e2
  refine ⟨up (up (up (up J (h + 1) cl.length w) (h + 2) cl.length v) (h + 3) cl.length T.length) h 0 ((cl.length : Int) + 1), ?_, ⟨?_, ?_, fun i hi => ?_, fun i hi => ?_⟩, ?_, ?_⟩
  · exact (e62_2 (by assumption) a1 (by omega) r1 (by assumption) (by omega) (by omega) r2 e1 (by assumption) (by omega) (by omega) r3 e2 e3 (by assumption) (by omega) (by omega) e4 (w32_id (by omega) (by omega)) (by omega))
  · rw [upx, List.length_append]
    show (cl.length : Int) + 1 = ((cl.length + 1 : Nat) : Int)
    omega
  · rw [up_nj (by omega), up_ne (by omega)]; exact e3
  · rw [List.length_append] at hi
    have hi' : i < cl.length + 1 := hi
    have v1 : ∀ i, (up (up (up (up J (h + 1) cl.length w) (h + 2) cl.length v) (h + 3) cl.length T.length) h 0 ((cl.length : Int) + 1)) (h + 1) i = up J (h + 1) cl.length w (h + 1) i := fun i => by rw [up_ne (by omega), up_ne (by omega), up_ne (by omega)]
    have v2 : ∀ i, (up (up (up (up J (h + 1) cl.length w) (h + 2) cl.length v) (h + 3) cl.length T.length) h 0 ((cl.length : Int) + 1)) (h + 2) i = up (up J (h + 1) cl.length w) (h + 2) cl.length v (h + 2) i := fun i => by rw [up_ne (by omega), up_ne (by omega)]
    have v3 : ∀ i, (up (up (up (up J (h + 1) cl.length w) (h + 2) cl.length v) (h + 3) cl.length T.length) h 0 ((cl.length : Int) + 1)) (h + 3) i = up (up (up J (h + 1) cl.length w) (h + 2) cl.length v) (h + 3) cl.length T.length (h + 3) i := fun i => by rw [up_ne (by omega)]
    rw [v1, v2, v3]
    by_cases q : i < cl.length
    · simp (disch := omega) only [up_nj, up_ne]
      rw [cD_l q]
      exact a3 i q
    · have : i = cl.length := by omega
      subst this
      rw [cD_r (Nat.le_refl _), Nat.sub_self, upx, upx, upx]
      exact ⟨rfl, rfl, rfl⟩
  · rw [up_ne (by omega), up_ne (by omega), up_ne (by omega), up_ne (by omega)]; exact a4 i hi
  · rw [up_ne (by omega), up_ne (by omega), up_ne (by omega), up_ne (by omega)]
  · exact ((((CFx.refl h J).hall _ (by omega)).hall _ (by omega)).hall _ (by omega)).hall _ (by omega)
/-- what a clause leaves -/
def KO (h : Nat) (cl : CL) (T : List Int) (J J' : Fn) (c : PC) : Prop := CFx h J J' ∧ (J' 36 2 = c.2.1 ∧ (c.1 = true → CEx h (cl ++ [(c.2.2.1, c.2.2.2.1, (T ++ c.2.2.2.2).length)]) (T ++ c.2.2.2.2) J'))
theorem KO.bad {cl : CL} {T : List Int} {J J' : Fn} {p : Nat} {a : Int × (Int × List Int)} (h1 : CFx h J J') (e : J' 36 2 = p) : KO h cl T J J' (false, p, a) := ⟨h1, e, fun z => absurd (show false = true from z) (by decide)⟩
theorem c_clause {d : Nat} {J : Fn} {p : Nat} {cl : CL} {T : List Int} (hT : TX I) (hS : CS I) (hH : isH h) (hh : 45 ≤ h) (hc : CFx h I J) (hp : J 36 2 = p) (hp2 : p ≤ (I 36 1).toNat) (a : CEx h cl T J) (hl : cl.length < 10) (hn : T.length ≤ p) : ∃ J', CallD (d + 16) 39 [vr 36, vr h] (S J L) = some (some (vi (bI (pCl (txt I) p).1)), S J' L) ∧ KO h cl T J J' (pCl (txt I) p) := by
  have hk := (isH_K hH).1
  have h70 := isH_lt hH
  have tt := txt_TXT hT
  have f100 := tt.2.2
  have cs : ∀ {K : Fn}, CFx h I K → CS K := fun hK => CS_fr hS (hK.fr hh h70) (by decide)
  have w := pW_ok tt hp2
  have wd := c_word (d := d + 9) (L := L) hT (cs hc) hh hc hp hp2
  have c1 := hc.place ((pW (txt I) p).2 : Nat)
  have a1 := a.place hh ((pW (txt I) p).2 : Nat)
  have d1 := (CFx.refl h J).place ((pW (txt I) p).2 : Nat)
  unfold pCl
  by_cases e1 : (pW (txt I) p).1 < 0
  · rw [if_pos e1]
    refine ⟨_, ?_, KO.bad d1 (upx _ _ _ _)⟩
    exact (e39_1 wd (by omega))
  rw [if_neg e1]
  by_cases e2 : txt I (pW (txt I) p).2 = 32
  · rw [if_pos e2]
    have l2 := tt.lt (p := (pW (txt I) p).2) (by rw [e2]; decide)
    have s1 := c_skip1 (d := d + 13) (L := L) hT hh c1 (upx _ _ _ _) (by omega) e2
    have c2 := c1.place (((pW (txt I) p).2 + 1 : Nat) : Int)
    have a2 := a1.place hh (((pW (txt I) p).2 + 1 : Nat) : Int)
    have d2 := d1.place (((pW (txt I) p).2 + 1 : Nat) : Int)
    obtain ⟨J3, n1, n2, n3, n4⟩ := c_num (d := d + 13) (L := L) (p := (pW (txt I) p).2 + 1) hT hh c2 (upx _ _ _ _) (by omega)
    have pn := pNum_ok tt (p := (pW (txt I) p).2 + 1) (by omega)
    have d3 : CFx h J J3 := d2.trans (fun k j e _ => n4 k j e)
    have a3 : CEx h cl T J3 := by
      have := a2.put hh (COx.sq n4 hh)
      rw [List.append_nil] at this
      exact this
    by_cases e3 : (pNum (txt I) ((pW (txt I) p).2 + 1)).1 < 0
    · rw [if_pos e3]
      refine ⟨J3, ?_, KO.bad d3 n3⟩
      exact (e39_6 wd (by omega) s1 (by decide) n1 (by omega))
    rw [if_neg e3]
    by_cases e4 : (pW (txt I) p).1 = 3
    · rw [if_pos e4]
      obtain ⟨J4, g1, g2, g3, g4⟩ := c_close (d := d + 14) (L := L) (w := (pW (txt I) p).1) (v := (pNum (txt I) ((pW (txt I) p).2 + 1)).1) hH hh a3 hl
      refine ⟨J4, ?_, d3.trans g4, g3.trans n3, fun _ => ?_⟩
      · exact (e39_2 wd (by omega) s1 (by decide) n1 (by omega) e4 (by assumption) g1)
      · rw [e4] at g2
        show CEx h (cl ++ [(3, _, (T ++ []).length)]) (T ++ []) J4
        rw [List.append_nil]
        exact g2
    rw [if_neg e4]
    by_cases e5 : txt I (pNum (txt I) ((pW (txt I) p).2 + 1)).2 = 32
    · rw [if_pos e5]
      have l5 := tt.lt (p := (pNum (txt I) ((pW (txt I) p).2 + 1)).2) (by rw [e5]; decide)
      have s2 := c_skip1 (d := d + 13) (L := L) hT hh n2 n3 (by omega) e5
      have c4 := n2.place (((pNum (txt I) ((pW (txt I) p).2 + 1)).2 + 1 : Nat) : Int)
      have a4 := a3.place hh (((pNum (txt I) ((pW (txt I) p).2 + 1)).2 + 1 : Nat) : Int)
      have d4 := d3.place (((pNum (txt I) ((pW (txt I) p).2 + 1)).2 + 1 : Nat) : Int)
      have j5 := a4.2.1
      obtain ⟨J5, f1, f2⟩ := c_eith (e := 12) (r := 4) (d := d) (dp := 0) (L := L) hT hH hh (c_one hT hS hH hh 4 (Nat.le_refl _)) (fun q hq => GP_one tt 4 q hq) c4 (upx _ _ _ _) (by omega) (by rw [j5]; omega)
      cases ho : (pEith (pOne (txt I) 4) (txt I) ((pNum (txt I) ((pW (txt I) p).2 + 1)).2 + 1)).1 with
      | true =>
        rw [ho] at f1
        have a5 := a4.put hh (f2.ok ho)
        obtain ⟨J6, g1, g2, g3, g4⟩ := c_close (d := d + 14) (L := L) (w := (pW (txt I) p).1) (v := (pNum (txt I) ((pW (txt I) p).2 + 1)).1) hH hh a5 hl
        refine ⟨J6, ?_, (d4.trans f2.1).trans g4, g3.trans f2.2.1, fun _ => g2⟩
        exact (e39_4 wd (by omega) s1 (by decide) n1 (by omega) e4 s2 (by decide) f1 (by decide) (by assumption) g1)
      | false =>
        rw [ho] at f1
        refine ⟨J5, ?_, d4.trans f2.1, f2.2.1, fun z => absurd (show false = true from z) (by decide)⟩
        exact (e39_5 wd (by omega) s1 (by decide) n1 (by omega) e4 s2 (by decide) f1 rfl)
    · rw [if_neg e5]
      have s2 := c_skip0 (d := d + 13) (L := L) hT hh n2 n3 e5
      refine ⟨J3, ?_, KO.bad d3 n3⟩
      exact (e39_3 wd (by omega) s1 (by decide) n1 (by omega) e4 s2 rfl)
  · rw [if_neg e2]
    have s1 := c_skip0 (d := d + 13) (L := L) hT hh c1 (upx _ _ _ _) e2
    refine ⟨_, ?_, KO.bad d1 (upx _ _ _ _)⟩
    exact (e39_7 wd (by omega) s1 rfl)
/-- what a reading of the whole leaves -/
def HO (I : Fn) (h : Nat) (J' : Fn) (x : PH) : Prop := CFx h I J' ∧ (x.1 = true → CEx h x.2.2.1 x.2.2.2 J')
def hrv (x : PH) : Int := if x.1 = true then -1 else (x.2.1 : Nat)
theorem c_h0 {d i : Nat} {J : Fn} {p : Nat} (hp : J 36 2 = p) : y37_17 (CallD d) h 0 i J L = some (some (vi p), S J L) := by
  by_cases q : 10 ≤ i
  · exact (y37_17_1 (by omega) rfl hp)
  · exact (y37_17_4 (by omega) rfl rfl hp)
theorem c_hl {d : Nat} (hT : TX I) (hS : CS I) (hH : isH h) (hh : 45 ≤ h) : ∀ (f i : Nat) (p : Nat) (cl : CL) (T : List Int) (J : Fn), i + f = 10 → 1 ≤ i → CFx h I J → J 36 2 = p → p ≤ (I 36 1).toNat → CEx h cl T J → cl.length = i → T.length ≤ p → ∃ J', y37_17 (CallD (d + 16)) h 1 i J L = some (some (vi (hrv (pH (txt I) (I 36 1).toNat f p cl T))), S J' L) ∧ HO I h J' (pH (txt I) (I 36 1).toNat f p cl T)
  | 0, i, p, cl, T, J, hi, hi1, hc, hp, hp2, a, hl, hn => by
    have e1 : J 36 1 = I 36 1 := hc 36 1 (by omega) (by omega)
    have hT1 := hT.1
    unfold rng at hT1
    unfold pH
    by_cases q : (I 36 1).toNat ≤ p
    · rw [if_pos q]
      refine ⟨J, ?_, hc, fun _ => a⟩
      exact (y37_17_3 (by omega) (by decide) hp e1 (by omega))
    · rw [if_neg q]
      refine ⟨J, ?_, hc, fun z => absurd (show false = true from z) (by decide)⟩
      show _ = some (some (vi (p : Nat)), _)
      exact (y37_17_2 (by omega) (by decide) hp e1 (by omega))
  | f + 1, i, p, cl, T, J, hi, hi1, hc, hp, hp2, a, hl, hn => by
    have e1 : J 36 1 = I 36 1 := hc 36 1 (by omega) (by omega)
    have hT1 := hT.1
    unfold rng at hT1
    have tt := txt_TXT hT
    have f100 := tt.2.2
    unfold pH
    by_cases q : (I 36 1).toNat ≤ p
    · rw [if_pos q]
      refine ⟨J, ?_, hc, fun _ => a⟩
      exact (y37_17_9 (by omega) (by decide) hp e1 (by omega) (by decide) (by omega))
    rw [if_neg q]
    by_cases e59 : txt I p = 59
    · rw [if_pos e59]
      have s1 := c_skip1 (d := d + 14) (L := L) hT hh hc hp (by omega) e59
      obtain ⟨J1, f1, f2, f3, f4⟩ := c_clause (d := d) (L := L) (p := p + 1) hT hS hH hh (hc.place _) (upx _ _ _ _) (by omega) (a.place hh _) (by omega) (by omega)
      have c1 : CFx h I J1 := (hc.place ((p + 1 : Nat) : Int)).trans f2
      have gc := GC_ok tt (p := p + 1) (by omega)
      cases ho : (pCl (txt I) (p + 1)).1 with
      | true =>
        rw [ho] at f1
        rw [if_pos rfl]
        have g := gc.2 ho
        obtain ⟨J', z1, z2⟩ := c_hl (d := d) hT hS hH hh f (i + 1) _ _ _ J1 (by omega) (by omega) c1 f3 gc.1.2 (f4 ho) (by rw [List.length_append, hl]; rfl) (by rw [List.length_append]; omega)
        refine ⟨J', ?_, z2⟩
        rw [show ((i + 1 : Nat) : Int) = (i : Int) + 1 by omega] at z1
        refine Eq.trans (y37_17_12 (by omega) (by decide) hp e1 (by omega) s1 (by decide) f1 (by decide) (w32_id (by omega) (by omega))) ?_
        exact z1
      | false =>
        rw [ho] at f1
        rw [if_neg (by decide)]
        refine ⟨J1, ?_, c1, fun z => absurd (show false = true from z) (by decide)⟩
        refine Eq.trans (y37_17_11 (by omega) (by decide) hp e1 (by omega) s1 (by decide) f1 rfl (w32_id (by omega) (by omega))) ?_
        rw [show (i : Int) + 1 = ((i + 1 : Nat) : Int) by omega]
        exact c_h0 f3
    · rw [if_neg e59]
      have s1 := c_skip0 (d := d + 14) (L := L) hT hh hc hp e59
      refine ⟨J, ?_, hc, fun z => absurd (show false = true from z) (by decide)⟩
      refine Eq.trans (y37_17_10 (by omega) (by decide) hp e1 (by omega) s1 rfl (w32_id (by omega) (by omega))) ?_
      rw [show (i : Int) + 1 = ((i + 1 : Nat) : Int) by omega]
      exact c_h0 hp
/-- Text.readInto -/
theorem c_readInto {d : Nat} (hT : TX I) (hS : CS I) (hH : isH h) (hh : 45 ≤ h) : ∃ J', CallD (d + 17) 37 [vr 36, vr h] (S I L) = some (some (vi (hrv (pHall (txt I) (I 36 1).toNat))), S J' L) ∧ HO I h J' (pHall (txt I) (I 36 1).toNat) := by
  have hk := (isH_K hH).1
  have tt := txt_TXT hT
  have hT1 := hT.1
  unfold rng at hT1
  have c0 : CFx h I (up (up (up I h 0 0) h 5 0) 36 2 0) := (((CFx.refl h I).hall _ (by omega)).hall _ (by omega)).place _
  have a0 : CEx h [] [] (up (up (up I h 0 0) h 5 0) 36 2 0) := by
    refine ⟨?_, ?_, fun i hi => by simp only [List.length_nil] at hi; omega, fun i hi => by simp only [List.length_nil] at hi; omega⟩
    · rw [up_ne (by omega), up_nj (by omega), upx]; rfl
    · rw [up_ne (by omega), upx]; rfl
  have clr : CallD (d + 16) 38 [vr h] (S I L) = some (none, S (up (up I h 0 0) h 5 0) L) := (e38_1 (by assumption) (by omega))
  obtain ⟨J1, f1, f2, f3, f4⟩ := c_clause (d := d) (L := L) (p := 0) hT hS hH hh c0 (upx _ _ _ _) (Nat.zero_le _) a0 (by decide) (Nat.le_refl _)
  have c1 : CFx h I J1 := c0.trans f2
  have gc := GC_ok tt (p := 0) (Nat.zero_le _)
  unfold pHall
  cases ho : (pCl (txt I) 0).1 with
  | true =>
    rw [ho] at f1
    rw [if_pos rfl]
    have g := gc.2 ho
    obtain ⟨J', z1, z2⟩ := c_hl (d := d) (L := L) hT hS hH hh 9 1 _ _ _ J1 (by omega) (by omega) c1 f3 gc.1.2 (f4 ho) rfl (by rw [List.nil_append]; omega)
    refine ⟨J', ?_, z2⟩
    refine Eq.trans (e37_1 (by assumption) clr f1) ?_
    exact z1
  | false =>
    rw [ho] at f1
    rw [if_neg (by decide)]
    refine ⟨J1, ?_, c1, fun z => absurd (show false = true from z) (by decide)⟩
    refine Eq.trans (e37_1 (by assumption) clr f1) ?_
    exact c_h0 (i := 1) f3
end TEXT
