/-! THE TEXT: codes that the class puts -/
/-- codes come behind those that are there; the rest but the place stays -/
def COx (h : Nat) (J J' : Fn) (cs : List Int) : Prop := (∀ k j, ¬ (k = 36 ∧ j = 2) → ¬ (k = h ∧ j = 5) → k ≠ h + 4 → J' k j = J k j) ∧ (J' h 5 = J h 5 + cs.length ∧ ((∀ i, i < cs.length → J' (h + 4) ((J h 5).toNat + i) = cs.getD i 0) ∧ ∀ i, i < (J h 5).toNat → J' (h + 4) i = J (h + 4) i))
theorem COx.refl (h : Nat) (J : Fn) : COx h J J [] := ⟨fun _ _ _ _ _ => rfl, by show J h 5 = J h 5 + ((0 : Nat) : Int); omega, fun i hi => by simp only [List.length_nil] at hi; omega, fun _ _ => rfl⟩
theorem gD_l {a b : List Int} {i : Nat} (h : i < a.length) : (a ++ b).getD i 0 = a.getD i 0 := by
  rw [List.getD_eq_getElem?_getD, List.getD_eq_getElem?_getD, List.getElem?_append_left h]
theorem gD_r {a b : List Int} {i : Nat} (h : a.length ≤ i) : (a ++ b).getD i 0 = b.getD (i - a.length) 0 := by
  rw [List.getD_eq_getElem?_getD, List.getD_eq_getElem?_getD, List.getElem?_append_right h]
theorem COx.trans {h : Nat} {J K M : Fn} {a b : List Int} (h0 : 0 ≤ J h 5) (x : COx h J K a) (y : COx h K M b) : COx h J M (a ++ b) := by
  obtain ⟨x1, x2, x3, x4⟩ := x
  obtain ⟨y1, y2, y3, y4⟩ := y
  refine ⟨fun k j e1 e2 e3 => (y1 k j e1 e2 e3).trans (x1 k j e1 e2 e3), ?_, fun i hi => ?_, fun i hi => ?_⟩
  · rw [y2, x2, List.length_append]
    omega
  · rw [List.length_append] at hi
    by_cases q : i < a.length
    · rw [y4 _ (by omega), x3 i q]
      rw [gD_l q]
    · have := y3 (i - a.length) (by omega)
      rw [show (K h 5).toNat + (i - a.length) = (J h 5).toNat + i by omega] at this
      rw [this, gD_r (by omega)]
  · rw [y4 i (by omega), x4 i hi]
theorem COx.place {h : Nat} {J K : Fn} {a : List Int} (hh : 45 ≤ h) (x : COx h J K a) (v : Int) : COx h J (up K 36 2 v) a := by
  obtain ⟨x1, x2, x3, x4⟩ := x
  refine ⟨fun k j e1 e2 e3 => ?_, ?_, fun i hi => ?_, fun i hi => ?_⟩
  · rw [up_eq, if_neg e1]; exact x1 k j e1 e2 e3
  · rw [up_ne (by omega)]; exact x2
  · rw [up_ne (by omega)]; exact x3 i hi
  · rw [up_ne (by omega)]; exact x4 i hi
theorem COx.ctx {h : Nat} {I J K : Fn} {a : List Int} (c : CFx h I J) (x : COx h J K a) : CFx h I K := by
  intro k j e1 e2
  rw [x.1 k j e1 (by omega) (by omega)]
  exact c k j e1 e2
theorem COx.sq {h : Nat} {J K : Fn} (hk : ∀ k j, ¬ (k = 36 ∧ j = 2) → K k j = J k j) (hh : 45 ≤ h) : COx h J K [] := by
  refine ⟨fun k j e1 _ _ => hk k j e1, ?_, fun i hi => by simp only [List.length_nil] at hi; omega, fun i _ => hk _ _ (by omega)⟩
  rw [hk h 5 (by omega)]
  show J h 5 = J h 5 + ((0 : Nat) : Int)
  omega
theorem w32_s {p : Nat} (h : p ≤ 1000) : w32 ((p : Int) + 1) = ((p + 1 : Nat) : Int) := by
  rw [show ((p + 1 : Nat) : Int) = (p : Int) + 1 by omega]
  exact w32_id (by omega) (by omega)
theorem w32_d {r : Nat} (h : r ≤ 4) : w32 (4 - ((r + 1 : Nat) : Int) + 1) = 4 - (r : Int) := by
  rw [show 4 - ((r + 1 : Nat) : Int) + 1 = 4 - (r : Int) by omega]
  exact w32_id (by omega) (by omega)
section TEXT
variable {I L : Fn} {h : Nat}
theorem c_put {d : Nat} {J : Fn} {x : Int} (hH : isH h) (hh : 45 ≤ h) (hn : 0 ≤ J h 5 ∧ J h 5 < 100) : ∃ J', CallD (d + 1) 61 [vr h, vi x] (S J L) = some (none, S J' L) ∧ (COx h J J' [x] ∧ J' 36 2 = J 36 2) := by
  obtain ⟨hk, ⟨r1, r2, r3, r4⟩, k1, k2, k3, k4⟩ := isH_K hH
  have e5 : up J (h + 4) (J h 5).toNat x h 5 = J h 5 := up_ne (by omega)
  refine ⟨up (up J (h + 4) (J h 5).toNat x) h 5 (J h 5 + 1), ?_, ⟨fun k j e1 e2 e3 => ?_, ?_, fun i hi => ?_, fun i hi => ?_⟩, ?_⟩
  · exact (e61_2 (by assumption) rfl (by omega) r4 (by assumption) (by omega) (by omega) e5 (w32_id (by omega) (by omega)) (by omega))
  · rw [up_eq, if_neg e2, up_ne e3]
  · rw [upx]
    rfl
  · have : i = 0 := by simp only [List.length_cons, List.length_nil] at hi; omega
    subst this
    rw [up_ne (by omega)]
    exact upx _ _ _ _
  · rw [up_ne (by omega), up_nj (by omega)]
  · rw [up_ne (by omega), up_ne (by omega)]
/-- what a reading leaves -/
def PO (h : Nat) (J J' : Fn) (x : PR) : Prop := CFx h J J' ∧ (J' 36 2 = x.2.1 ∧ (x.1 = true → COx h J J' x.2.2))
abbrev HLX : List Nat := [3002, 45, 46, 47, 48, 49, 50, 51, 52, 53, 54, 55, 56, 57, 58, 59, 60, 61, 62, 63, 64, 65, 66, 67, 68, 69, 70, 71, 72, 73, 74]
theorem HLX_in : ∀ k, k < 75 → 45 ≤ k → HLX.elem k = true := by decide
theorem CFx.fr {J : Fn} (c : CFx h I J) (h1 : 45 ≤ h) (h2 : h ≤ 70) : Fr HLX I J := by
  intro k j e
  refine c k j (fun q => ?_) (fun q => ?_)
  · rw [q.1, q.2] at e
    exact absurd e (by decide)
  · have : ky k j = k := by
      unfold ky
      have b1 : Nat.beq k 92 = false := by
        cases z : Nat.beq k 92 with
        | false => rfl
        | true => have := Nat.eq_of_beq_eq_true z; omega
      have b2 : Nat.beq k 10 = false := by
        cases z : Nat.beq k 10 with
        | false => rfl
        | true => have := Nat.eq_of_beq_eq_true z; omega
      have b3 : Nat.beq k 36 = false := by
        cases z : Nat.beq k 36 with
        | false => rfl
        | true => have := Nat.eq_of_beq_eq_true z; omega
      rw [b1, b2, b3]; rfl
    rw [this, HLX_in k (by omega) (by omega)] at e
    cases e
theorem isH_lt (hH : isH h) : h ≤ 70 := by
  rcases hH with q | ⟨f, hf, q⟩ <;> omega
theorem COx.cf {J K : Fn} {a : List Int} (x : COx h J K a) : CFx h J K := x.ctx (CFx.refl h J)
theorem c_test {d : Nat} {J : Fn} {p : Nat} (hT : TX I) (hS : CS I) (hH : isH h) (hh : 45 ≤ h) (hc : CFx h I J) (hp : J 36 2 = p) (hp2 : p ≤ (I 36 1).toNat) (hn : 0 ≤ J h 5 ∧ J h 5 ≤ p) : ∃ J', CallD (d + 5) 52 [vr 36, vr h] (S J L) = some (some (vi (bI (pTest (txt I) p).1)), S J' L) ∧ PO h J J' (pTest (txt I) p) := by
  have hk := (isH_K hH).1
  have h70 := isH_lt hH
  have tt := txt_TXT hT
  have cs : ∀ {K : Fn}, CFx h I K → CS K := fun hK => CS_fr hS (hK.fr hh h70) (by decide)
  have f100 := tt.2.2
  have s0 := c_sign (d := d + 3) (L := L) hT hh hc hp
  have l0 := c_lix (d := d) (L := L) (cs hc) (tt.1 p)
  have lr := lix_rng (txt I p)
  have sr := six_rng (txt I (p + 1))
  unfold pTest
  by_cases e1 : lix (txt I p) < 0
  · rw [if_pos e1]
    refine ⟨J, ?_, CFx.refl h J, hp, fun z => absurd (show false = true from z) (by decide)⟩
    exact (e52_4 s0 (i2c_id (tt.1 p)).1 l0 (by omega))
  rw [if_neg e1]
  have hl1 := tt.lt (lix_nz e1)
  have c1 := hc.place ((p + 1 : Nat) : Int)
  have s1 := c_sign (d := d + 3) (L := L) (p := p + 1) hT hh c1 (upx _ _ _ _)
  have l1 := c_six (d := d) (L := L) (cs c1) (tt.1 (p + 1))
  by_cases e2 : six (txt I (p + 1)) < 0
  · rw [if_pos e2]
    refine ⟨up J 36 2 ((p + 1 : Nat) : Int), ?_, (CFx.refl h J).place _, upx _ _ _ _, fun z => absurd (show false = true from z) (by decide)⟩
    exact (e52_3 s0 (i2c_id (tt.1 p)).1 l0 (by omega) hp (w32_s (by omega)) s1 (i2c_id (tt.1 (p + 1))).1 l1 (by omega))
  rw [if_neg e2]
  have hl2 := tt.lt (six_nz e2)
  have c2 := c1.place ((p + 2 : Nat) : Int)
  obtain ⟨J3, n1, n2, n3, n4⟩ := c_num (d := d + 2) (L := L) (p := p + 2) hT hh c2 (upx _ _ _ _) (by omega)
  have pn := pNum_ok tt (p := p + 2) (by omega)
  have q3 : ∀ k j, ¬ (k = 36 ∧ j = 2) → J3 k j = J k j := fun k j z => by
    rw [n4 k j z, up_eq, if_neg z, up_eq, if_neg z]
  have x0 : COx h J J3 [] := COx.sq q3 hh
  by_cases e3 : (pNum (txt I) (p + 2)).1 < 0
  · rw [if_pos e3]
    refine ⟨J3, ?_, x0.cf, n3, fun z => absurd (show false = true from z) (by decide)⟩
    exact (e52_2 s0 (i2c_id (tt.1 p)).1 l0 (by omega) hp (w32_s (by omega)) s1 (i2c_id (tt.1 (p + 1))).1 l1 (by omega) (upx _ _ _ _) (w32_s (p := p + 1) (by omega)) n1 (by omega))
  rw [if_neg e3]
  have j5 : J3 h 5 = J h 5 := q3 h 5 (by omega)
  obtain ⟨J4, g1, g2, g3⟩ := c_put (d := d + 2) (L := L) (J := J3) (x := (lix (txt I p) * 3 + six (txt I (p + 1))) * 100 + (pNum (txt I) (p + 2)).1) hH hh (by rw [j5]; omega)
  have x1 := x0.trans hn.1 g2
  refine ⟨J4, ?_, x1.cf, g3.trans n3, fun _ => x1⟩
  have pt : CallD (d + 4) 60 [vr h, vi (lix (txt I p)), vi (six (txt I (p + 1))), vi (pNum (txt I) (p + 2)).1] (S J3 L) = some (none, S J4 L) := (e60_1 (w32_id (by omega) (by omega)) (w32_id (by omega) (by omega)) (w32_id (by omega) (by omega)) (w32_id (by omega) (by omega)) (by assumption) g1)
  exact (e52_1 s0 (i2c_id (tt.1 p)).1 l0 (by omega) hp (w32_s (by omega)) s1 (i2c_id (tt.1 (p + 1))).1 l1 (by omega) (upx _ _ _ _) (w32_s (p := p + 1) (by omega)) n1 (by omega) (by assumption) pt)
/-- the class reads a T's part -/
def OneOK (I L : Fn) (h r e : Nat) (dp : Int) : Prop := ∀ (d : Nat) (J : Fn) (p : Nat), CFx h I J → J 36 2 = p → p ≤ (I 36 1).toNat → 0 ≤ J h 5 ∧ J h 5 ≤ p → ∃ J', CallD (d + e) 51 [vr 36, vr h, vi dp] (S J L) = some (some (vi (bI (pOne (txt I) r p).1)), S J' L) ∧ PO h J J' (pOne (txt I) r p)
theorem PO.ok {J J' : Fn} {x : PR} (h1 : PO h J J' x) (e : x.1 = true) : COx h J J' x.2.2 := h1.2.2 e
theorem PO.bad {J J' : Fn} {p : Nat} {a : List Int} (h1 : CFx h J J') (e : J' 36 2 = p) : PO h J J' (false, p, a) := ⟨h1, e, fun z => absurd (show false = true from z) (by decide)⟩
theorem c_el {e r d : Nat} {dp : Int} {J0 : Fn} {p0 : Nat} (hT : TX I) (hH : isH h) (hh : 45 ≤ h) (h1 : OneOK I L h r (e + 2) dp) (hg : ∀ p, p ≤ (I 36 1).toNat → GP (I 36 1).toNat p (pOne (txt I) r p)) (hc0 : CFx h I J0) (hn0 : 0 ≤ J0 h 5 ∧ J0 h 5 ≤ p0) : ∀ (n x4 p : Nat) (o : Bool) (cs : List Int) (J : Fn), x4 + n = 100 → x4 + 3 ≤ p → COx h J0 J cs → J 36 2 = p → LPO (I 36 1).toNat p0 p o cs → ∃ J', y50_16 (CallD (d + (e + 2))) h dp (bI o) x4 J L = some (some (vi (bI (pLoop (pOne (txt I) r) (txt I) n p o cs).1)), S J' L) ∧ PO h J0 J' (pLoop (pOne (txt I) r) (txt I) n p o cs)
  | 0, x4, p, o, cs, J, hx, hxp, hC, hp, hl => by
    have := (txt_TXT hT).2.2
    have := hl.1
    omega
  | n + 1, x4, p, o, cs, J, hx, hxp, hC, hp, hl => by
    have hk := (isH_K hH).1
    have tt := txt_TXT hT
    have f100 := tt.2.2
    have hc := hC.ctx hc0
    have hl1 := hl.1
    have hl2 := hl.2.1
    have j5 := hC.2.1
    have sg := c_sign (d := d + (e + 1)) (L := L) hT hh hc hp
    have ih := c_el (d := d) hT hH hh h1 hg hc0 hn0 n (x4 + 1)
    rw [show ((x4 + 1 : Nat) : Int) = (x4 : Int) + 1 by omega] at ih
    unfold pLoop
    by_cases e38 : txt I p = 38
    · rw [if_pos e38]
      have hlt := tt.lt (p := p) (by rw [e38]; decide)
      have C1 := hC.place hh ((p + 1 : Nat) : Int)
      have g := hg (p + 1) (by omega)
      have n5 : up J 36 2 ((p + 1 : Nat) : Int) h 5 = J h 5 := up_ne (by omega)
      obtain ⟨J1, f1, f2⟩ := h1 d (up J 36 2 ((p + 1 : Nat) : Int)) (p + 1) (C1.ctx hc0) (upx _ _ _ _) (by omega) (by rw [n5, j5]; omega)
      cases ho : (pOne (txt I) r (p + 1)).1 with
      | true =>
        rw [ho] at f1
        rw [if_pos rfl]
        have C2 := C1.trans hn0.1 (f2.ok ho)
        have L2 := LP_and hl g ho
        have l2 := L2.2.1
        have l3 := L2.1
        simp only [List.length_append, List.length_cons, List.length_nil] at l2
        have j5' := C2.2.1
        simp only [List.length_append] at j5'
        obtain ⟨J2, q1, q2, q3⟩ := c_put (d := d + (e + 1)) (L := L) (J := J1) (x := -2) hH hh (by rw [j5']; omega)
        have C3 := C2.trans hn0.1 q2
        obtain ⟨J', z1, z2⟩ := ih (pOne (txt I) r (p + 1)).2.1 o _ J2 (by omega) (by have := (g.2 ho).1; omega) C3 (q3.trans f2.2.1) L2
        refine ⟨J', ?_, z2⟩
        cases o
        · refine Eq.trans (y50_16_7 (by omega) sg e38 (by omega) rfl (by omega) hp (w32_s (by omega)) f1 (by decide) e38 (by assumption) q1 (w32_id (by omega) (by omega))) ?_
          exact z1
        · refine Eq.trans (y50_16_4 (by omega) sg e38 (by omega) (by decide) hp (w32_s (by omega)) f1 (by decide) e38 (by assumption) q1 (w32_id (by omega) (by omega))) ?_
          exact z1
      | false =>
        rw [ho] at f1
        rw [if_neg (by decide)]
        refine ⟨J1, ?_, PO.bad ((C1.cf).trans f2.1) f2.2.1⟩
        cases o
        · exact (y50_16_8 (by omega) sg e38 (by omega) rfl (by omega) hp (w32_s (by omega)) f1 rfl)
        · exact (y50_16_5 (by omega) sg e38 (by omega) (by decide) hp (w32_s (by omega)) f1 rfl)
    rw [if_neg e38]
    by_cases e124 : txt I p = 124
    · rw [if_pos e124]
      have hlt := tt.lt (p := p) (by rw [e124]; decide)
      have g := hg (p + 1) (by omega)
      -- first the OR that was open, then the sign is passed
      obtain ⟨J1, C1, P1, s1⟩ : ∃ J1, COx h J0 J1 (cs ++ orL o) ∧ (J1 36 2 = p ∧ (o = true → CallD (d + (e + 2)) 61 [vr h, vi (-3)] (S J L) = some (none, S J1 L)) ∧ (o = false → J1 = J)) := by
        cases o
        · refine ⟨J, ?_, hp, fun z => absurd z (by decide), fun _ => rfl⟩
          rw [show cs ++ orL false = cs from List.append_nil cs]
          exact hC
        · have l2 : cs.length + 1 + p0 ≤ p := hl2
          obtain ⟨J1, q1, q2, q3⟩ := c_put (d := d + (e + 1)) (L := L) (J := J) (x := -3) hH hh (by rw [j5]; omega)
          exact ⟨J1, hC.trans hn0.1 q2, q3.trans hp, fun _ => q1, fun z => absurd z (by decide)⟩
      have C2 := C1.place hh ((p + 1 : Nat) : Int)
      have E1 := (LP_end hl).2 rfl
      have El : (cs ++ orL o).length + p0 ≤ p := E1.2.1
      have n5 : up J1 36 2 ((p + 1 : Nat) : Int) h 5 = J1 h 5 := up_ne (by omega)
      have j51 := C1.2.1
      obtain ⟨J2, f1, f2⟩ := h1 d (up J1 36 2 ((p + 1 : Nat) : Int)) (p + 1) (C2.ctx hc0) (upx _ _ _ _) (by omega) (by rw [n5, j51]; omega)
      cases ho : (pOne (txt I) r (p + 1)).1 with
      | true =>
        rw [ho] at f1
        rw [if_pos rfl]
        have C3 := C2.trans hn0.1 (f2.ok ho)
        obtain ⟨J', z1, z2⟩ := ih (pOne (txt I) r (p + 1)).2.1 true _ J2 (by omega) (by have := (g.2 ho).1; omega) C3 f2.2.1 (LP_or hl g ho)
        refine ⟨J', ?_, z2⟩
        cases o
        · have e1 := s1.2 rfl
          subst e1
          refine Eq.trans (y50_16_45 (by omega) sg e38 e124 e124 rfl rfl e124 hp (w32_s (by omega)) f1 (by decide) e38 (w32_id (by omega) (by omega))) ?_
          exact z1
        · refine Eq.trans (y50_16_48 (by omega) sg e38 e124 e124 (by decide) (by assumption) (s1.1 rfl) (by decide) P1 (w32_s (by omega)) f1 (by decide) e38 (w32_id (by omega) (by omega))) ?_
          exact z1
      | false =>
        rw [ho] at f1
        rw [if_neg (by decide)]
        refine ⟨J2, ?_, PO.bad ((C2.cf).trans f2.1) f2.2.1⟩
        cases o
        · have e1 := s1.2 rfl
          subst e1
          exact (y50_16_47 (by omega) sg e38 e124 e124 rfl rfl e124 hp (w32_s (by omega)) f1 rfl)
        · exact (y50_16_50 (by omega) sg e38 e124 e124 (by decide) (by assumption) (s1.1 rfl) (by decide) P1 (w32_s (by omega)) f1 rfl)
    · rw [if_neg e124]
      cases o
      · refine ⟨J, ?_, hC.cf, hp, fun _ => ?_⟩
        · exact (y50_16_57 (by omega) sg e38 e124 rfl)
        · show COx h J0 J (cs ++ orL false)
          rw [show cs ++ orL false = cs from List.append_nil cs]
          exact hC
      · have l2 : cs.length + 1 + p0 ≤ p := hl2
        obtain ⟨J1, q1, q2, q3⟩ := c_put (d := d + (e + 1)) (L := L) (J := J) (x := -3) hH hh (by rw [j5]; omega)
        have C1 := hC.trans hn0.1 q2
        refine ⟨J1, ?_, C1.cf, q3.trans hp, fun _ => C1⟩
        exact (y50_16_58 (by omega) sg e38 e124 (by decide) (by assumption) q1)
theorem c_eith {e r d : Nat} {dp : Int} {J : Fn} {p : Nat} (hT : TX I) (hH : isH h) (hh : 45 ≤ h) (h1 : OneOK I L h r (e + 2) dp) (hg : ∀ p, p ≤ (I 36 1).toNat → GP (I 36 1).toNat p (pOne (txt I) r p)) (hc : CFx h I J) (hp : J 36 2 = p) (hp2 : p ≤ (I 36 1).toNat) (hn : 0 ≤ J h 5 ∧ J h 5 ≤ p) : ∃ J', CallD (d + (e + 3)) 50 [vr 36, vr h, vi dp] (S J L) = some (some (vi (bI (pEith (pOne (txt I) r) (txt I) p).1)), S J' L) ∧ PO h J J' (pEith (pOne (txt I) r) (txt I) p) := by
  obtain ⟨J1, f1, f2⟩ := h1 d J p hc hp hp2 hn
  have g := hg p hp2
  unfold pEith
  cases ho : (pOne (txt I) r p).1 with
  | true =>
    rw [ho] at f1
    rw [if_pos rfl]
    obtain ⟨J', z1, z2⟩ := c_el (d := d) hT hH hh h1 hg hc hn 100 0 (pOne (txt I) r p).2.1 false _ J1 (by omega) (by have := (g.2 ho).1; omega) (f2.ok ho) f2.2.1 (LP_start g ho)
    refine ⟨J', ?_, z2⟩
    refine Eq.trans (e50_1 f1 (by decide)) ?_
    exact z1
  | false =>
    rw [ho] at f1
    rw [if_neg (by decide)]
    refine ⟨J1, ?_, PO.bad f2.1 f2.2.1⟩
    exact (e50_2 f1 rfl)
theorem c_one (hT : TX I) (hS : CS I) (hH : isH h) (hh : 45 ≤ h) : ∀ r : Nat, r ≤ 4 → OneOK I L h r (6 + 2 * r) (4 - r)
  | 0, _ => by
    intro d J p hc hp hp2 hn
    have tt := txt_TXT hT
    have sg := c_sign (d := d + 4) (L := L) hT hh hc hp
    unfold pOne
    by_cases e33 : txt I p = 33
    · rw [if_pos e33]
      refine ⟨J, ?_, PO.bad (CFx.refl h J) hp⟩
      exact (e51_5 sg (by omega) (by omega))
    rw [if_neg e33]
    by_cases e40 : txt I p = 40
    · rw [if_pos e40]
      refine ⟨J, ?_, PO.bad (CFx.refl h J) hp⟩
      exact (e51_10 sg (by omega) (by omega) (by omega))
    rw [if_neg e40]
    obtain ⟨J', f1, f2⟩ := c_test (d := d) (L := L) hT hS hH hh hc hp hp2 hn
    refine ⟨J', ?_, f2⟩
    exact (e51_11 sg (by omega) (by omega) f1 (by cases (pTest (txt I) p).1 <;> decide))
  | r + 1, hr => by
    intro d J p hc hp hp2 hn
    have tt := txt_TXT hT
    have f100 := tt.2.2
    have hk := (isH_K hH).1
    have ih := c_one hT hS hH hh r (by omega)
    rw [show d + (6 + 2 * (r + 1)) = d + (4 + 2 * r + 3) + 1 by omega]
    have sg := c_sign (d := d + (4 + 2 * r + 2)) (L := L) hT hh hc hp
    unfold pOne
    by_cases e33 : txt I p = 33
    · rw [if_pos e33]
      have hlt := tt.lt (p := p) (by rw [e33]; decide)
      have g := GP_one tt r (p + 1) (by omega)
      have n5 : up J 36 2 ((p + 1 : Nat) : Int) h 5 = J h 5 := up_ne (by omega)
      obtain ⟨J1, f1, f2⟩ := ih d (up J 36 2 ((p + 1 : Nat) : Int)) (p + 1) (hc.place _) (upx _ _ _ _) (by omega) (by rw [n5]; omega)
      rw [show d + (6 + 2 * r) = d + (4 + 2 * r + 2) by omega] at f1
      have C0 : COx h J (up J 36 2 ((p + 1 : Nat) : Int)) [] := (COx.refl h J).place hh _
      cases ho : (pOne (txt I) r (p + 1)).1 with
      | true =>
        rw [ho] at f1
        rw [if_pos rfl]
        have C1 := C0.trans hn.1 (f2.ok ho)
        rw [List.nil_append] at C1
        have gg := g.2 ho
        have g1 := g.1
        have j5 := C1.2.1
        obtain ⟨J2, q1, q2, q3⟩ := c_put (d := d + (4 + 2 * r + 1)) (L := L) (J := J1) (x := -1) hH hh (by rw [j5]; omega)
        have C2 := C1.trans hn.1 q2
        refine ⟨J2, ?_, C2.cf, q3.trans f2.2.1, fun _ => C2⟩
        have rn : CallD (d + (4 + 2 * r + 2) + 1) 234 [vr 36, vr h, vi (4 - (r : Int))] (S (up J 36 2 ((p + 1 : Nat) : Int)) L) = some (some (vi 1), S J2 L) := (e234_1 f1 (by decide) (by assumption) q1)
        exact (e51_1 sg e33 (by omega) hp (w32_s (by omega)) (by omega) (w32_d (by omega)) rn rfl)
      | false =>
        rw [ho] at f1
        rw [if_neg (by decide)]
        refine ⟨J1, ?_, PO.bad ((hc.place (((p + 1 : Nat) : Int)) |> fun _ => C0.cf).trans f2.1) f2.2.1⟩
        have rn : CallD (d + (4 + 2 * r + 2) + 1) 234 [vr 36, vr h, vi (4 - (r : Int))] (S (up J 36 2 ((p + 1 : Nat) : Int)) L) = some (some (vi 0), S J1 L) := (e234_2 f1 rfl)
        exact (e51_1 sg e33 (by omega) hp (w32_s (by omega)) (by omega) (w32_d (by omega)) rn rfl)
    rw [if_neg e33]
    by_cases e40 : txt I p = 40
    · rw [if_pos e40]
      have hlt := tt.lt (p := p) (by rw [e40]; decide)
      have hg : ∀ p, p ≤ (I 36 1).toNat → GP (I 36 1).toNat p (pOne (txt I) r p) := fun q hq => GP_one tt r q hq
      have g := GP_eith tt hg (p := p + 1) (by omega)
      have n5 : up J 36 2 ((p + 1 : Nat) : Int) h 5 = J h 5 := up_ne (by omega)
      have ih' : OneOK I L h r (4 + 2 * r + 2) (4 - r) := by
        have := ih
        rw [show 6 + 2 * r = 4 + 2 * r + 2 by omega] at this
        exact this
      obtain ⟨J1, f1, f2⟩ := c_eith (d := d) hT hH hh ih' hg (J := up J 36 2 ((p + 1 : Nat) : Int)) (p := p + 1) (hc.place _) (upx _ _ _ _) (by omega) (by rw [n5]; omega)
      have C0 : COx h J (up J 36 2 ((p + 1 : Nat) : Int)) [] := (COx.refl h J).place hh _
      cases ho : (pEith (pOne (txt I) r) (txt I) (p + 1)).1 with
      | true =>
        rw [ho] at f1
        rw [if_pos rfl]
        have C1 := C0.trans hn.1 (f2.ok ho)
        rw [List.nil_append] at C1
        have g1 := g.1
        by_cases e41 : txt I (pEith (pOne (txt I) r) (txt I) (p + 1)).2.1 = 41
        · rw [if_pos e41]
          have sk := c_skip1 (d := d + (4 + 2 * r + 1)) (L := L) hT hh (C1.ctx hc) f2.2.1 (by omega) e41
          have C2 := C1.place hh (((pEith (pOne (txt I) r) (txt I) (p + 1)).2.1 + 1 : Nat) : Int)
          refine ⟨_, ?_, C2.cf, upx _ _ _ _, fun _ => C2⟩
          exact (e51_9 sg e33 e40 (by omega) hp (w32_s (by omega)) e40 (w32_d (by omega)) f1 (by decide) sk (by decide))
        · rw [if_neg e41]
          have sk := c_skip0 (d := d + (4 + 2 * r + 1)) (L := L) hT hh (C1.ctx hc) f2.2.1 e41
          refine ⟨J1, ?_, PO.bad C1.cf f2.2.1⟩
          exact (e51_8 sg e33 e40 (by omega) hp (w32_s (by omega)) e40 (w32_d (by omega)) f1 (by decide) sk rfl)
      | false =>
        rw [ho] at f1
        rw [if_neg (by decide)]
        refine ⟨J1, ?_, PO.bad (C0.cf.trans f2.1) f2.2.1⟩
        exact (e51_7 sg e33 e40 (by omega) hp (w32_s (by omega)) e40 (w32_d (by omega)) f1 rfl)
    rw [if_neg e40]
    obtain ⟨J', f1, f2⟩ := c_test (d := d + (2 * r + 2)) (L := L) hT hS hH hh hc hp hp2 hn
    rw [show d + (2 * r + 2) + 5 = d + (4 + 2 * r + 3) by omega] at f1
    refine ⟨J', ?_, f2⟩
    exact (e51_11 sg e33 e40 f1 (by cases (pTest (txt I) p).1 <;> decide))
end TEXT
