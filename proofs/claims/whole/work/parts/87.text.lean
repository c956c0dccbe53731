/-! THE TEXT: the reference's clauses and hall -/
section TEXT
variable {I L : Fn} {f fed : Nat} {t : Nat → Int} {A : Nat → Nat → Prop}
theorem m_second {d : Nat} {J : Fn} {p : Nat} (hT : TXM I t fed) (hc : MX f A I J) (hp : J 92 18 = p) (hp2 : p ≤ 1000) : CallD (d + 1) 156 [vr 92] (S J L) = some (some (vi (nx t fed (p + 1))), S J L) := by
  obtain ⟨h1, h2, h3⟩ := hT
  have h100 := h1.2.2
  have e1 : J 92 17 = fed := (hc.out (k := 92) (j := 17) (by omega)).trans h2
  unfold nx
  by_cases q : p + 1 < fed
  · rw [if_pos q]
    have e2 : J 106 (p + 1) = t (p + 1) := (hc.out (k := 106) (j := p + 1) (by omega)).trans (h3 (p + 1) q)
    exact (e156_2 hp (w32_s hp2) e1 (by omega) (w32_s hp2) (by omega) (show J 106 _ = t (p + 1) from e2))
  · rw [if_neg q]
    exact (e156_1 hp (w32_s hp2) e1 (by omega))
theorem lw_pos : ∀ w, w < 4 → ∀ i, i < 4 → 1 ≤ lw w i := by decide
theorem m_tw {d p w : Nat} (hT : TXM I t fed) (hS : ∀ j, j < 16 → I 114 j = lwL.getD j 0) (hw : w < 4) (hp : p ≤ fed) : ∀ (n k : Nat) (J : Fn), k + n = 4 → MX f A I J → J 92 18 = ((p + k : Nat) : Int) → ∃ J', y158_2 (CallD (d + 2)) ((w * 4 : Nat) : Int) 4 k J L = some (some (vi (if alF t p w n k = 4 ∧ t (p + 4) = 32 then 1 else 0)), S J' L) ∧ (MX f A I J' ∧ (J' 92 18 = ((if alF t p w n k = 4 ∧ t (p + 4) = 32 then p + 5 else p + alF t p w n k : Nat) : Int) ∧ ∀ a j, ¬ (a = 92 ∧ j = 18) → J' a j = J a j))
  | 0, k, J, hk, hc, h18 => by
    have f100 := hT.1.2.2
    have : k = 4 := by omega
    subst this
    have ea : alF t p w 0 4 = 4 := rfl
    rw [ea]
    by_cases e : t (p + 4) = 32
    · rw [if_pos ⟨rfl, e⟩, if_pos ⟨rfl, e⟩]
      have tk := m_takes1 (d := d) (L := L) hT hc h18 (by omega) ((nx_eq hT.1 (by decide)).mpr e)
      refine ⟨_, ?_, hc.reg (j := 18) _ (by omega), upx _ _ _ _, fun a j z => by rw [up_eq, if_neg z]⟩
      exact (y158_2_1 (by omega) tk (by decide))
    · rw [if_neg (fun z => e z.2), if_neg (fun z => e z.2)]
      have tk := m_takes0 (d := d) (L := L) hT hc h18 (x := 32) (fun z => e ((nx_eq hT.1 (by decide)).mp z))
      refine ⟨J, ?_, hc, h18, fun a j z => rfl⟩
      exact (y158_2_1 (by omega) tk (by decide))
  | n + 1, k, J, hk, hc, h18 => by
    have f100 := hT.1.2.2
    have l1 := lw_pos w hw k (by omega)
    have cl : J 114 (w * 4 + k) = lw w k := (hc.out (k := 114) (j := w * 4 + k) (by omega)).trans (hS (w * 4 + k) (by omega))
    have cl2 : J 114 (((w * 4 : Nat) : Int) + k).toNat = lw w k := by
      rw [show (((w * 4 : Nat) : Int) + k).toNat = w * 4 + k by omega]
      exact cl
    by_cases e : t (p + k) = lw w k
    · have ea : alF t p w (n + 1) k = alF t p w n (k + 1) := if_pos e
      rw [ea]
      have tk := m_takes1 (d := d) (L := L) hT hc h18 (by omega) ((nx_eq hT.1 l1).mpr e)
      obtain ⟨J', z1, z2, z3, z4⟩ := m_tw (d := d) hT hS hw hp n (k + 1) (up J 92 18 ((p + k + 1 : Nat) : Int)) (by omega) (hc.reg (j := 18) _ (by omega)) (by rw [upx, show p + (k + 1) = p + k + 1 by omega])
      refine ⟨J', ?_, z2, z3, fun a j z => by rw [z4 a j z, up_eq, if_neg z]⟩
      rw [show ((k + 1 : Nat) : Int) = (k : Int) + 1 by omega] at z1
      refine Eq.trans (y158_2_2 (by omega) (w32_id (by omega) (by omega)) (by omega) cl2 tk (by decide) (w32_id (by omega) (by omega))) ?_
      exact z1
    · have ea : alF t p w (n + 1) k = k := if_neg e
      rw [ea, if_neg (by omega), if_neg (by omega)]
      have tk := m_takes0 (d := d) (L := L) hT hc h18 (x := lw w k) (fun z => e ((nx_eq hT.1 l1).mp z))
      refine ⟨J, ?_, hc, h18, fun a j z => rfl⟩
      exact (y158_2_3 (by omega) (w32_id (by omega) (by omega)) (by omega) cl2 tk rfl)
def hok (t : Nat → Int) (p : Nat) : Prop := ¬ (pW t p).1 < 0 ∧ t (pW t p).2 = 32
theorem hwd_lt (t : Nat → Int) (p : Nat) : hwd t p < 4 := by
  unfold hwd
  repeat' split
  all_goals omega
theorem m_head {c d p : Nat} {J : Fn} (hT : TXM I t fed) (hS : ∀ j, j < 16 → I 114 j = lwL.getD j 0) (hc10 : c < 60) (hA : A 108 c) (hc : MX f A I J) (hp : J 92 18 = p) (hp2 : p ≤ fed) : ∃ J', (hok t p → CallD (d + 4) 155 [vr 92, vi c] (S J L) = some (some (vi 1), S J' L) ∧ J' 92 18 = (((pW t p).2 + 1 : Nat) : Int)) ∧ ((¬ hok t p → CallD (d + 4) 155 [vr 92, vi c] (S J L) = some (some (vi 0), S J' L) ∧ J' 92 18 = ((pW t p).2 : Nat)) ∧ (MX f A I J' ∧ (J' 108 c = (hwd t p : Nat) ∧ ∀ a j, ¬ (a = 92 ∧ j = 18) → ¬ (a = 108 ∧ j = c) → J' a j = J a j))) := by
  have f100 := hT.1.2.2
  have s2 := m_second (d := d + 2) (L := L) hT hc hp (by omega)
  have s1 := m_next (d := d + 2) (L := L) hT hc hp
  have hw := hwd_lt t p
  have c1 : MX f A I (up J 108 c (hwd t p : Nat)) := hc.cla _ (by omega) hA
  obtain ⟨J', z1, z2, z3, z4⟩ := m_tw (d := d) (L := L) hT hS hw hp2 4 0 (up J 108 c (hwd t p : Nat)) (by omega) c1 (by rw [up_ne (by decide)]; exact hp)
  have tw : CallD (d + 3) 158 [vr 92, vi ((hwd t p * 4 : Nat) : Int), vi 4] (S (up J 108 c (hwd t p : Nat)) L) = some (some (vi (if alF t p (hwd t p) 4 0 = 4 ∧ t (p + 4) = 32 then 1 else 0)), S J' L) := by
    refine Eq.trans (e158_1) ?_
    exact z1
  have rk : rok 1 (if alF t p (hwd t p) 4 0 = 4 ∧ t (p + 4) = 32 then 1 else 0) = true := by split <;> decide
  have ci : ((c : Nat) : Int).toNat = c := Int.toNat_natCast c
  have all : CallD (d + 4) 155 [vr 92, vi c] (S J L) = some (some (vi (if alF t p (hwd t p) 4 0 = 4 ∧ t (p + 4) = 32 then 1 else 0)), S J' L) := by
    revert tw
    unfold hwd at rk ⊢
    by_cases e1 : t p = 98
    · simp only [if_pos e1] at rk ⊢
      intro tw
      rw [(nx_eq hT.1 (by decide)).mpr e1] at s1
      exact (e155_1 s2 s1 rfl (by omega) tw rk)
    simp only [if_neg e1] at rk ⊢
    have n1 : ¬ nx t fed p = 98 := fun z => e1 ((nx_eq hT.1 (by decide)).mp z)
    by_cases e2 : t p = 115
    · simp only [if_pos e2] at rk ⊢
      intro tw
      rw [(nx_eq hT.1 (by decide)).mpr e2] at s1
      exact (e155_2 s2 s1 rfl (by omega) tw rk)
    simp only [if_neg e2] at rk ⊢
    have n2 : ¬ nx t fed p = 115 := fun z => e2 ((nx_eq hT.1 (by decide)).mp z)
    by_cases e3 : t (p + 1) = 111
    · simp only [if_pos e3] at rk ⊢
      intro tw
      rw [(nx_eq hT.1 (by decide)).mpr e3] at s2
      exact (e155_6 s2 s1 n1 n2 rfl (by omega) rfl tw rk)
    simp only [if_neg e3] at rk ⊢
    have n3 : ¬ nx t fed (p + 1) = 111 := fun z => e3 ((nx_eq hT.1 (by decide)).mp z)
    intro tw
    exact (e155_3 s2 s1 n1 n2 n3 (by omega) n3 tw rk)
  have pw : pW t p = if alF t p (hwd t p) 4 0 = 4 then (((hwd t p : Nat) : Int), p + 4) else (-1, p + alF t p (hwd t p) 4 0) := rfl
  have iff : hok t p ↔ (alF t p (hwd t p) 4 0 = 4 ∧ t (p + 4) = 32) := by
    unfold hok
    rw [pw]
    by_cases e : alF t p (hwd t p) 4 0 = 4
    · rw [if_pos e]
      exact ⟨fun z => ⟨e, z.2⟩, fun z => ⟨by dsimp only; omega, z.2⟩⟩
    · rw [if_neg e]
      exact ⟨fun z => absurd (show (-1 : Int) < 0 by decide) z.1, fun z => absurd z.1 e⟩
  refine ⟨J', fun z => ?_, fun z => ?_, z2, ?_, fun a j h1 h2 => ?_⟩
  · have z' := iff.mp z
    rw [if_pos z'] at all z3
    refine ⟨all, ?_⟩
    rw [pw, if_pos z'.1]
    exact z3
  · have z' : ¬ (alF t p (hwd t p) 4 0 = 4 ∧ t (p + 4) = 32) := fun q => z (iff.mpr q)
    rw [if_neg z'] at all z3
    refine ⟨all, ?_⟩
    rw [pw]
    by_cases e : alF t p (hwd t p) 4 0 = 4
    · rw [if_pos e]
      rw [e] at z3
      exact z3
    · rw [if_neg e]
      exact z3
  · rw [z4 108 c (by omega)]
    exact upx _ _ _ _
  · rw [z4 a j h1, up_eq, if_neg h2]
/-- a clause -/
theorem m_clause {c d p : Nat} {T : List Int} {J : Fn} (hT : TXM I t fed) (hS : ∀ j, j < 16 → I 114 j = lwL.getD j 0) (hf : f < 6) (hc10 : c < 60) (hA : ∀ k, 108 ≤ k → k ≤ 111 → A k c) (hc : MX f A I J) (h : MTx f p T J) (hp : p ≤ fed) (hl : T.length ≤ p) : ((pCl t p).1 = true → ∃ J', CallD (d + 6) 154 [vr 92, vi c] (S J L) = some (some (vi 1), S J' L) ∧ (MX f A I J' ∧ (MTx f (pCl t p).2.1 (T ++ (pCl t p).2.2.2.2) J' ∧ (J' 108 c = (pCl t p).2.2.1 ∧ (J' 109 c = (pCl t p).2.2.2.1 ∧ (((pCl t p).2.2.1 ≠ 3 → J' 110 c = 100 * f + (T.length : Nat) ∧ J' 111 c = 100 * f + ((T ++ (pCl t p).2.2.2.2).length : Nat)) ∧ ∀ k j, (107 ≤ k ∧ k ≤ 111) → j ≠ c → J' k j = J k j)))))) ∧ ((pCl t p).1 = false → ∃ J', CallD (d + 6) 154 [vr 92, vi c] (S J L) = some (some (vi 0), S J' L) ∧ (MX f A I J' ∧ J' 92 18 = (pCl t p).2.1)) := by
  have tt := hT.1
  have f100 := tt.2.2
  have w := pW_ok tt hp
  have hw4 := hwd_lt t p
  obtain ⟨J1, k1, k2, k3, k4, k5⟩ := m_head (c := c) (d := d + 1) (L := L) hT hS hc10 (hA 108 (by omega) (by omega)) hc h.1 hp
  have ci : ((c : Nat) : Int).toNat = c := Int.toNat_natCast c
  have bad : ¬ hok t p → (pCl t p).1 = false ∧ (pCl t p).2.1 = (pW t p).2 := by
    intro z
    unfold pCl
    by_cases e1 : (pW t p).1 < 0
    · rw [if_pos e1]; exact ⟨rfl, rfl⟩
    · rw [if_neg e1, if_neg (fun q => z ⟨e1, q⟩)]; exact ⟨rfl, rfl⟩
  by_cases hk : hok t p
  · obtain ⟨g1, g2⟩ := k1 hk
    obtain ⟨e1, e2⟩ := hk
    have l2 := tt.lt (p := (pW t p).2) (by rw [e2]; decide)
    have hwv : (hwd t p : Int) = (pW t p).1 := by
      unfold pW at e1 ⊢
      by_cases q : alF t p (hwd t p) 4 0 = 4
      · rw [if_pos q]
      · rw [if_neg q] at e1
        exact absurd (show (-1 : Int) < 0 by decide) e1
    have t1 : MTx f ((pW t p).2 + 1) T J1 := ⟨g2, (k5 92 28 (by omega) (by omega)).trans h.2.1, fun i hi => (k5 112 _ (by omega) (by omega)).trans (h.2.2 i hi)⟩
    have pn := pNum_ok tt (p := (pW t p).2 + 1) (by omega)
    have ep : pCl t p = if (pNum t ((pW t p).2 + 1)).1 < 0 then (false, (pNum t ((pW t p).2 + 1)).2, 0, 0, []) else if (pW t p).1 = 3 then (true, (pNum t ((pW t p).2 + 1)).2, 3, (pNum t ((pW t p).2 + 1)).1, []) else if t (pNum t ((pW t p).2 + 1)).2 = 32 then ((pEith (pOne t 4) t ((pNum t ((pW t p).2 + 1)).2 + 1)).1, (pEith (pOne t 4) t ((pNum t ((pW t p).2 + 1)).2 + 1)).2.1, (pW t p).1, (pNum t ((pW t p).2 + 1)).1, (pEith (pOne t 4) t ((pNum t ((pW t p).2 + 1)).2 + 1)).2.2) else (false, (pNum t ((pW t p).2 + 1)).2, 0, 0, []) := by
      unfold pCl
      rw [if_neg e1, if_pos e2]
    rw [ep]
    by_cases e3 : (pNum t ((pW t p).2 + 1)).1 < 0
    · rw [if_pos e3]
      obtain ⟨n1, n2⟩ := m_num0 (d := d + 2) (L := L) hT k3 g2 e3
      refine ⟨fun z => absurd (show false = true from z) (by decide), fun _ => ⟨J1, ?_, k3, ?_⟩⟩
      · exact (e154_6 g1 (by decide) n1 rfl)
      · show J1 92 18 = ((pNum t ((pW t p).2 + 1)).2 : Nat)
        rw [n2]; exact g2
    rw [if_neg e3]
    obtain ⟨J2, n1, n2, n3, n4, n5, n6⟩ := m_num1 (d := d + 2) (L := L) hT k3 g2 (by omega) e3
    have j108 : J2 108 c = (hwd t p : Nat) := (n5 108 c (by omega)).trans k4
    have c2 : MX f A I (up J2 109 c (pNum t ((pW t p).2 + 1)).1) := n4.cla _ (by omega) (hA 109 (by omega) (by omega))
    have t2 : MTx f (pNum t ((pW t p).2 + 1)).2 T (up J2 109 c (pNum t ((pW t p).2 + 1)).1) := ⟨(up_ne (by decide)).trans n3, (up_ne (by decide)).trans ((n5 92 28 (by omega)).trans t1.2.1), fun i hi => (up_ne (by decide)).trans ((n5 112 _ (by omega)).trans (t1.2.2 i hi))⟩
    have fr2 : ∀ k j, (107 ≤ k ∧ k ≤ 111) → j ≠ c → (up J2 109 c (pNum t ((pW t p).2 + 1)).1) k j = J k j := fun k j h1 h2 => by
      rw [up_nj h2, n5 k j (by omega), k5 k j (by omega) (by omega)]
    by_cases e4 : (pW t p).1 = 3
    · rw [if_pos e4]
      refine ⟨fun _ => ⟨_, ?_, c2, ?_, (up_ne (by decide)).trans (j108.trans (hwv.trans e4)), upx _ _ _ _, fun z => absurd rfl z, fr2⟩, fun z => absurd (show true = false from z) (by decide)⟩
      · have v3 : ((hwd t p : Nat) : Int) = 3 := hwv.trans e4
        exact (e154_2 g1 (by decide) n1 (by decide) n2 (by omega) j108 v3)
      · show MTx f (pNum t ((pW t p).2 + 1)).2 (T ++ []) _
        rw [List.append_nil]
        exact t2
    rw [if_neg e4]
    have v3 : ¬ ((hwd t p : Nat) : Int) = 3 := fun z => e4 (hwv.symm.trans z)
    by_cases e5 : t (pNum t ((pW t p).2 + 1)).2 = 32
    · rw [if_pos e5]
      have l5 := tt.lt (p := (pNum t ((pW t p).2 + 1)).2) (by rw [e5]; decide)
      have tk := m_takes1 (d := d + 3) (L := L) hT c2 t2.1 (by omega) ((nx_eq tt (by decide)).mpr e5)
      have c3 : MX f A I (up (up J2 109 c (pNum t ((pW t p).2 + 1)).1) 92 18 (((pNum t ((pW t p).2 + 1)).2 + 1 : Nat) : Int)) := c2.reg (j := 18) _ (by omega)
      have t3 : MTx f ((pNum t ((pW t p).2 + 1)).2 + 1) T (up (up J2 109 c (pNum t ((pW t p).2 + 1)).1) 92 18 (((pNum t ((pW t p).2 + 1)).2 + 1 : Nat) : Int)) := ⟨upx _ _ _ _, (up_nj (by decide)).trans t2.2.1, fun i hi => (up_ne (by decide)).trans (t2.2.2 i hi)⟩
      obtain ⟨q1, q2⟩ := m_takesE (c := c) (d := d) (L := L) hT hf hc10 ⟨hA 110 (by omega) (by omega), hA 111 (by omega) (by omega)⟩ c3 t3 (by omega) (by omega)
      refine ⟨fun z => ?_, fun z => ?_⟩
      · obtain ⟨J4, z1, z2, z3, z4, z5, z6⟩ := q1 z
        refine ⟨J4, ?_, z2, z3, ?_, ?_, fun _ => ⟨z4, z5⟩, fun k j h1 h2 => ?_⟩
        · exact (e154_5 g1 (by decide) n1 (by decide) n2 (by omega) j108 v3 tk (by decide) z1 (by decide))
        · rw [z6 108 c (by omega) (by omega), up_ne (by decide), up_ne (by decide)]
          exact j108.trans hwv
        · rw [z6 109 c (by omega) (by omega), up_ne (by decide)]
          exact upx _ _ _ _
        · rw [z6 k j h1 (by omega), up_ne (by omega)]
          exact fr2 k j h1 h2
      · obtain ⟨J4, z1, z2, z3⟩ := q2 z
        refine ⟨J4, ?_, z2, z3⟩
        exact (e154_4 g1 (by decide) n1 (by decide) n2 (by omega) j108 v3 tk (by decide) z1 rfl)
    · rw [if_neg e5]
      have tk := m_takes0 (d := d + 3) (L := L) hT c2 t2.1 (x := 32) (fun z => e5 ((nx_eq tt (by decide)).mp z))
      refine ⟨fun z => absurd (show false = true from z) (by decide), fun _ => ⟨_, ?_, c2, t2.1⟩⟩
      exact (e154_3 g1 (by decide) n1 (by decide) n2 (by omega) j108 v3 tk rfl)
  · obtain ⟨g1, g2⟩ := k2 hk
    obtain ⟨b1, b2⟩ := bad hk
    refine ⟨fun z => absurd (b1.symm.trans z) (by decide), fun _ => ⟨J1, ?_, k3, ?_⟩⟩
    · exact (e154_1 g1 rfl)
    · rw [b2]; exact g2
/-- where a clause's codes begin -/
def stE (cl : CL) : Nat → Nat
  | 0 => 0
  | i + 1 => (cl.getD i clD).2.2
def MEc (f : Nat) (cl : CL) (J : Fn) : Prop := ∀ i, i < cl.length → J 108 (10 * f + i) = (cl.getD i clD).1 ∧ (J 109 (10 * f + i) = (cl.getD i clD).2.1 ∧ ((cl.getD i clD).1 ≠ 3 → J 110 (10 * f + i) = 100 * f + (stE cl i : Nat) ∧ J 111 (10 * f + i) = 100 * f + ((cl.getD i clD).2.2 : Nat)))
def AH (f : Nat) : Nat → Nat → Prop := fun k j => (k = 107 ∧ j = f) ∨ (108 ≤ k ∧ (10 * f ≤ j ∧ j < 10 * f + 10))
def pG (t : Nat → Int) (fed fuel p : Nat) (cl : CL) (T : List Int) : PH := if (pCl t p).1 = true then pH t fed fuel (pCl t p).2.1 (cl ++ [((pCl t p).2.2.1, (pCl t p).2.2.2.1, (T ++ (pCl t p).2.2.2.2).length)]) (T ++ (pCl t p).2.2.2.2) else (false, (pCl t p).2.1, [], [])
theorem pHall_G (t : Nat → Int) (fed : Nat) : pHall t fed = pG t fed 9 0 [] [] := rfl
theorem stE_l {a b : CL} : ∀ {i : Nat}, i ≤ a.length → stE (a ++ b) i = stE a i
  | 0, _ => rfl
  | i + 1, h => by
    show ((a ++ b).getD i clD).2.2 = (a.getD i clD).2.2
    rw [cD_l (by omega)]
def GL (t : Nat → Int) (fed : Nat) (I L : Fn) (f d fuel : Nat) : Prop := ∀ (n p : Nat) (cl : CL) (T : List Int) (J : Fn), n + fuel = 9 → MX f (AH f) I J → MTx f p T J → p ≤ fed → T.length ≤ p → cl.length = n → MEc f cl J → stE cl n = T.length → ((pG t fed fuel p cl T).1 = true → ∃ J', y153_15 (CallD (d + 6)) f n J L = some (some (vi 1), S J' L) ∧ (MX f (AH f) I J' ∧ (J' 107 f = ((pG t fed fuel p cl T).2.2.1.length : Nat) ∧ (MEc f (pG t fed fuel p cl T).2.2.1 J' ∧ MTx f (pG t fed fuel p cl T).2.1 (pG t fed fuel p cl T).2.2.2 J')))) ∧ ((pG t fed fuel p cl T).1 = false → ∃ J', y153_15 (CallD (d + 6)) f n J L = some (some (vi 0), S J' L) ∧ (MX f (AH f) I J' ∧ J' 92 18 = (pG t fed fuel p cl T).2.1))
theorem m_gstep {d fuel : Nat} (hT : TXM I t fed) (hS : ∀ j, j < 16 → I 114 j = lwL.getD j 0) (hf : f < 6) (ih : ∀ k, fuel = k + 1 → GL t fed I L f d k) : GL t fed I L f d fuel := by
  intro n p cl T J hn hc h hp hl hcl hE hst
  have tt := hT.1
  have f100 := tt.2.2
  have gc := GC_ok tt hp
  obtain ⟨q1, q2⟩ := m_clause (c := 10 * f + n) (A := AH f) (d := d) (L := L) hT hS hf (by omega) (fun k h1 h2 => .inr ⟨h1, by omega, by omega⟩) hc h hp hl
  have w2 : w32 (10 * (f : Int) + n) = ((10 * f + n : Nat) : Int) := by rw [show ((10 * f + n : Nat) : Int) = 10 * (f : Int) + n by omega]; exact w32_id (by omega) (by omega)
  unfold pG
  cases ho : (pCl t p).1 with
  | false =>
    rw [if_neg (by decide)]
    refine ⟨fun z => absurd (show false = true from z) (by decide), fun _ => ?_⟩
    obtain ⟨J1, z1, z2, z3⟩ := q2 ho
    refine ⟨J1, ?_, z2, z3⟩
    exact (y153_15_5 (w32_id (by omega) (by omega)) w2 z1 rfl)
  | true =>
    rw [if_pos rfl]
    clear w2
    have w2 := fun (_ : Unit) => (show w32 (10 * (f : Int) + n) = ((10 * f + n : Nat) : Int) by rw [show ((10 * f + n : Nat) : Int) = 10 * (f : Int) + n by omega]; exact w32_id (by omega) (by omega))
    obtain ⟨J1, z1, z2, z3, z4, z5, z6, z7⟩ := q1 ho
    obtain ⟨g1, g2, g3, g4, g5, g6⟩ := gc.2 ho
    have g0 := gc.1
    generalize hx : pCl t p = x at *
    have c2 : MX f (AH f) I (up J1 107 f ((n + 1 : Nat) : Int)) := z2.cla _ (by omega) (.inl ⟨rfl, rfl⟩)
    have t2 : MTx f x.2.1 (T ++ x.2.2.2.2) (up J1 107 f ((n + 1 : Nat) : Int)) := ⟨(up_ne (by decide)).trans z3.1, (up_ne (by decide)).trans z3.2.1, fun i hi => (up_ne (by decide)).trans (z3.2.2 i hi)⟩
    have len : (cl ++ [(x.2.2.1, x.2.2.2.1, (T ++ x.2.2.2.2).length)]).length = n + 1 := by rw [List.length_append, hcl]; rfl
    have E2 : MEc f (cl ++ [(x.2.2.1, x.2.2.2.1, (T ++ x.2.2.2.2).length)]) (up J1 107 f ((n + 1 : Nat) : Int)) := by
      intro i hi
      rw [len] at hi
      rw [up_ne (by decide), up_ne (by decide), up_ne (by decide), up_ne (by decide)]
      by_cases z : i < n
      · rw [cD_l (by omega), stE_l (by omega), z7 108 _ (by omega) (by omega), z7 109 _ (by omega) (by omega), z7 110 _ (by omega) (by omega), z7 111 _ (by omega) (by omega)]
        exact hE i (by omega)
      · have : i = n := by omega
        subst this
        rw [cD_r (by omega), stE_l (by omega), hst, hcl, Nat.sub_self]
        exact ⟨z4, z5, z6⟩
    have st2 : stE (cl ++ [(x.2.2.1, x.2.2.2.1, (T ++ x.2.2.2.2).length)]) (n + 1) = (T ++ x.2.2.2.2).length := by
      show ((cl ++ [(x.2.2.1, x.2.2.2.1, (T ++ x.2.2.2.2).length)]).getD n clD).2.2 = _
      rw [cD_r (by omega), hcl, Nat.sub_self]
      rfl
    have j17 : J1 92 17 = fed := (z2.out (k := 92) (j := 17) (by omega)).trans hT.2.1
    have l2 : (T ++ x.2.2.2.2).length ≤ x.2.1 := by rw [List.length_append]; omega
    generalize hcl2 : (cl ++ [(x.2.2.1, x.2.2.2.1, (T ++ x.2.2.2.2).length)]) = cl2 at *
    generalize hT2 : T ++ x.2.2.2.2 = T2 at *
    have wn : ((n + 1 : Nat) : Int) = (n : Int) + 1 := by omega
    by_cases qf : fed ≤ x.2.1
    · have ph : pH t fed fuel x.2.1 cl2 T2 = (true, x.2.1, cl2, T2) := by
        cases fuel with
        | zero => exact if_pos qf
        | succ k => exact if_pos qf
      rw [ph]
      refine ⟨fun _ => ⟨_, ?_, c2, ?_, E2, t2⟩, fun z => absurd (show true = false from z) (by decide)⟩
      · rw [wn]
        exact (y153_15_4 (w32_id (by omega) (by omega)) (w2 ()) z1 (by decide) (w32_id (by omega) (by omega)) (by omega) z3.1 j17 (by omega))
      · rw [upx, len]
    · cases fuel with
      | zero =>
        rw [show pH t fed 0 x.2.1 cl2 T2 = (false, x.2.1, [], []) from if_neg qf]
        refine ⟨fun z => absurd (show false = true from z) (by decide), fun _ => ⟨_, ?_, c2, t2.1⟩⟩
        rw [wn]
        exact (y153_15_1 (w32_id (by omega) (by omega)) (w2 ()) z1 (by decide) (w32_id (by omega) (by omega)) (by omega) z3.1 j17 (by omega) (by omega))
      | succ k =>
        by_cases e59 : t x.2.1 = 59
        · have ph : pH t fed (k + 1) x.2.1 cl2 T2 = pG t fed k (x.2.1 + 1) cl2 T2 := (if_neg qf).trans (if_pos e59)
          rw [ph]
          have tk := m_takes1 (d := d + 4) (L := L) hT c2 t2.1 (by omega) ((nx_eq tt (by decide)).mpr e59)
          have t3 : MTx f (x.2.1 + 1) T2 (up (up J1 107 f ((n + 1 : Nat) : Int)) 92 18 ((x.2.1 + 1 : Nat) : Int)) := ⟨upx _ _ _ _, (up_nj (by decide)).trans t2.2.1, fun i hi => (up_ne (by decide)).trans (t2.2.2 i hi)⟩
          obtain ⟨r1, r2⟩ := ih k rfl (n + 1) (x.2.1 + 1) cl2 T2 _ (by omega) (c2.reg (j := 18) _ (by omega)) t3 (by omega) (by omega) len (fun i hi => by
            rw [up_ne (by decide), up_ne (by decide), up_ne (by decide), up_ne (by decide)]
            exact E2 i hi) st2
          have start : y153_15 (CallD (d + 6)) f n J L = y153_15 (CallD (d + 6)) f ((n + 1 : Nat) : Int) (up (up J1 107 f ((n + 1 : Nat) : Int)) 92 18 ((x.2.1 + 1 : Nat) : Int)) L := by
            rw [wn] at tk ⊢
            exact (y153_15_2 (w32_id (by omega) (by omega)) (w2 ()) z1 (by decide) (w32_id (by omega) (by omega)) (by omega) z3.1 j17 (by omega) (by omega) tk (by decide))
          refine ⟨fun z => ?_, fun z => ?_⟩
          · obtain ⟨J', e1, e2⟩ := r1 z
            exact ⟨J', start.trans e1, e2⟩
          · obtain ⟨J', e1, e2⟩ := r2 z
            exact ⟨J', start.trans e1, e2⟩
        · rw [show pH t fed (k + 1) x.2.1 cl2 T2 = (false, x.2.1, [], []) from (if_neg qf).trans (if_neg e59)]
          have tk := m_takes0 (d := d + 4) (L := L) hT c2 t2.1 (x := 59) (fun z => e59 ((nx_eq tt (by decide)).mp z))
          refine ⟨fun z => absurd (show false = true from z) (by decide), fun _ => ⟨_, ?_, c2, t2.1⟩⟩
          rw [wn] at tk ⊢
          exact (y153_15_3 (w32_id (by omega) (by omega)) (w2 ()) z1 (by decide) (w32_id (by omega) (by omega)) (by omega) z3.1 j17 (by omega) (by omega) tk rfl)
theorem m_gl {d : Nat} (hT : TXM I t fed) (hS : ∀ j, j < 16 → I 114 j = lwL.getD j 0) (hf : f < 6) : ∀ fuel, GL t fed I L f d fuel
  | 0 => m_gstep hT hS hf (fun k h => by omega)
  | k + 1 => m_gstep hT hS hf (fun k' h => by
    have : k' = k := by omega
    subst this
    exact m_gl hT hS hf k')
/-- goesText -/
theorem m_goes {d : Nat} (hT : TXM I t fed) (hS : ∀ j, j < 16 → I 114 j = lwL.getD j 0) (hf : f < 6) : ((pHall t fed).1 = true → ∃ J', CallD (d + 7) 153 [vr 92, vi f] (S I L) = some (some (vi 1), S J' L) ∧ (MX f (AH f) I J' ∧ (J' 107 f = ((pHall t fed).2.2.1.length : Nat) ∧ (MEc f (pHall t fed).2.2.1 J' ∧ MTx f (pHall t fed).2.1 (pHall t fed).2.2.2 J')))) ∧ ((pHall t fed).1 = false → ∃ J', CallD (d + 7) 153 [vr 92, vi f] (S I L) = some (some (vi 0), S J' L) ∧ (MX f (AH f) I J' ∧ J' 92 18 = (pHall t fed).2.1)) := by
  have c0 : MX f (AH f) I (up (up I 92 18 0) 92 28 (100 * f)) := ((MX.refl f (AH f) I).reg (j := 18) 0 (by omega)).reg (j := 28) _ (by omega)
  have t0 : MTx f 0 [] (up (up I 92 18 0) 92 28 (100 * f)) := ⟨by rw [up_nj (by decide)]; exact upx _ _ _ _, by rw [upx]; show 100 * (f : Int) = 100 * f + ((0 : Nat) : Int); omega, fun i hi => by simp only [List.length_nil] at hi; omega⟩
  obtain ⟨r1, r2⟩ := m_gl (d := d) (L := L) hT hS hf 9 0 0 [] [] _ (by omega) c0 t0 (Nat.zero_le _) (Nat.le_refl _) rfl (fun i hi => by simp only [List.length_nil] at hi; omega) rfl
  rw [pHall_G]
  have start : CallD (d + 7) 153 [vr 92, vi f] (S I L) = y153_15 (CallD (d + 6)) f ((0 : Nat) : Int) (up (up I 92 18 0) 92 28 (100 * f)) L := by
    exact (e153_1 (w32_id (by omega) (by omega)))
  refine ⟨fun z => ?_, fun z => ?_⟩
  · obtain ⟨J', e1, e2⟩ := r1 z
    exact ⟨J', start.trans e1, e2⟩
  · obtain ⟨J', e1, e2⟩ := r2 z
    exact ⟨J', start.trans e1, e2⟩
end TEXT
