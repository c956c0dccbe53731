/-! one instruction of the abstract machine is one of the machine -/
noncomputable def W0 : List Jvm.Cond := lw_tbl.filter goodWord
noncomputable def wsm (m : Nat) : List Jvm.Cond := Jvm.Cond.code (mY m) (mB m) (mL m) (mR m) :: W0
def rmX (d nc ns : Nat) : Room := { frames := d, cells := nc, slots := ns, locals := 64 * d }
def ksum : List (Nat × Nat) → Nat
  | [] => 0
  | q :: r => q.2 + ksum r
noncomputable def hasW (p : Nat) (w : Jvm.Cond) : Bool := decide (lw_tbl[p]? = some w) && goodWord w
theorem hasW_in {p : Nat} {w : Jvm.Cond} (h : hasW p w = true) : w ∈ W0 := by
  unfold hasW at h
  rw [Bool.and_eq_true, decide_eq_true_eq] at h
  exact List.mem_filter.mpr ⟨List.mem_of_getElem? h.1, h.2⟩
noncomputable def tyF (c j : Nat) : FieldType := (parseFieldDescriptor (TT c j).2.2.1).getD .int
/-- a field's row: class below 12, the field's place, its type, its words -/
noncomputable def okF (own idx e p : Nat) : Bool :=
  if e / 1000 = 12 then (decide (e = 12002) && hasW p (.fieldLink (cn own) idx (cn 12) "value" "[B")) || (decide (e = 12010) && hasW p (.fieldLink (cn own) idx (cn 12) "coder" "B"))
  else decide (e / 1000 < 12) && (decide (e / 10 % 100 < nF (e / 1000)) && (decide (e % 10 = fty (e / 1000) (e / 10 % 100)) && (decide ((TT (e / 1000) (e / 10 % 100)).1 = cn (e / 1000)) &&
    hasW p (.fieldLink (cn own) idx (cn (e / 1000)) (TT (e / 1000) (e / 10 % 100)).2.1 (TT (e / 1000) (e / 10 % 100)).2.2.1))))
noncomputable def okK (own idx k : Nat) (v : Int) (p : Nat) : Bool := match k with
  | 0 => hasW p (.constant (cn own) idx (Int32.ofInt v)) && decide ((Int32.ofInt v).toInt = v)
  | 1 => hasW p (.constantLong (cn own) idx (Int64.ofInt v)) && decide ((Int64.ofInt v).toInt = v)
  | 2 => decide (own = 3) && (decide (v = 2 ∨ v = 3 ∨ v = 4) && decide (idx = (stxt (v.toNat - 2)).1))
  | _ => false
noncomputable def stName (k : Nat) : Nat × (String × String) := match k with
  | 0 => (0, ("ABOVE", "[I"))
  | 1 => (9, ("BODIES", "[I"))
  | 2 => (12, ("COMPACT_STRINGS", "Z"))
  | _ => (14, ("SIOOBE_FORMATTER", "Ljava/util/function/BiFunction;"))
noncomputable def okG (own idx k z p : Nat) : Bool := match z with
  | 0 => hasW p (.fieldLink (cn own) idx (cn (stName k).1) (stName k).2.1 (stName k).2.2)
  | _ => decide (k = 0) && (decide (nth nestP p ≠ none) && decide ((nth nestP p).bind (fun q => lw_tbl[q]?) = some (.fieldLinkNest (cn own) idx (cn 0) "ABOVE" "[I" (cn 0))))
noncomputable def okC (own idx k c : Nat) (ps : List Nat) : Bool := match k, ps with
  | 0, [a, b, d, e] => hasW a (.methodLink (cn own) idx (mY c)) && (hasW b (.instanceMethod (mY c)) && (hasW d (.selects (mY c).cls (mY c) (mY c)) && (hasW e (.initialized (mY c).cls) && (decide (c < nM) && (!mS c && decide ((mY c).name ≠ "<init>"))))))
  | 1, [a, b, d] => hasW a (.methodLink (cn own) idx (mY c)) && (hasW b (.static (mY c)) && (hasW d (.initialized (mY c).cls) && (decide (c < nM) && mS c)))
  | 2, [a, b, d] => hasW a (.methodLink (cn own) idx (mY c)) && (hasW b (.instanceMethod (mY c)) && (hasW d (.initialized (mY c).cls) && (decide (c < nM) && (!mS c && (decide ((mY c).name = "<init>") && decide (mR c = none))))))
  | 3, [b, d] => decide (∃ p ∈ nestP, lw_tbl[p]? = some (.methodLinkNest (cn own) idx (mY c) (cn 0))) && (hasW b (.instanceMethod (mY c)) && (hasW d (.initialized (mY c).cls) && (decide (c < nM) && (!mS c && (decide ((mY c).name = "<init>") && decide (mR c = none))))))
  | 4, [b, d] => decide (∃ p ∈ nestP, lw_tbl[p]? = some (.methodLinkNest (cn own) idx (mY c) (cn 0))) && (hasW b (.static (mY c)) && (hasW d (.initialized (mY c).cls) && (decide (c < nM) && mS c)))
  | 5, [a, b, d] => hasW a (.methodLink (cn own) idx Lib.objectInit) && (hasW b (.instanceMethod Lib.objectInit) && hasW d (.code Lib.objectInit ⟨#[0xb1]⟩ 1 none))
  | 6, [a, b, d, e] => match c with
    | 0 => hasW a (.methodLink (cn own) idx Lib.Math.min.name) && (hasW b (.static Lib.Math.min.name) && (hasW d (.initialized "java/lang/Math") && hasW e (.code Lib.Math.min.name Lib.Math.min.code 2 (some .int))))
    | 1 => hasW a (.methodLink (cn own) idx Lib.Math.max.name) && (hasW b (.static Lib.Math.max.name) && (hasW d (.initialized "java/lang/Math") && hasW e (.code Lib.Math.max.name Lib.Math.max.code 2 (some .int))))
    | 2 => hasW a (.methodLink (cn own) idx arraycopyName) && (hasW b (.native arraycopyName) && (hasW d (.static arraycopyName) && hasW e (.initialized "java/lang/System")))
    | _ => false
  | _, _ => false
noncomputable def okN (own idx e : Nat) (ps : List Nat) : Bool := match ps with
  | [a, b, d] => decide (e / 100 < 12) && (decide (e % 100 = nF (e / 100)) && (hasW a (.classLink (cn own) idx (cn (e / 100))) && (hasW b (.instantiable (cn (e / 100)) (e % 100)) && hasW d (.initialized (cn (e / 100))))))
  | _ => false
noncomputable def okA (own idx c p : Nat) : Bool := decide (c = 2 ∨ c = 5) && hasW p (.classLink (cn own) idx (cn c))
/-- a method's row: its code among the words, its room, its name, its arguments, its answer -/
noncomputable def okM (m : Nat) : Bool := match nth codeP m with
  | some p => hasW p (.code (mY m) (mB m) (mL m) (mR m)) && (decide (mL m ≤ 40) && (plainName (mY m).cls && (decide ((mY m).cls ≠ "java/lang/invoke/MethodHandle" ∧ (mY m).cls ≠ "java/lang/invoke/VarHandle") &&
    (decide ((parseMethodDescriptor (mY m).desc).map (fun d => d.parameters.length) = some (bif mS m then nar m else nar m - 1)) && (decide (0 < nar m ∨ mS m = true) && (decide ((mY m).cls = cn (mO m)) && (decide (mlc m = mL m) && ((bif mS m then decide (rcv m = 0) else bif decide ((mY m).name = "<init>") then decide (rcv m = 1) else decide (rcv m = mO m + 2)) && (decide (mO m < 13 ∨ mS m = true) && (match mR m with
      | none => true
      | some .int => decide (rkd m = 0)
      | some .boolean => decide (rkd m = 1)
      | some .char => decide (rkd m = 2)
      | some .byte => decide (rkd m = 3)
      | some .long => true
      | some (.object _) => true
      | _ => false))))))))))
  | none => false
def tyOk : Nat → FieldType → Bool
  | 0, .int => true
  | 1, .long => true
  | 2, .object _ => true
  | 2, .array _ => true
  | 3, .boolean => true
  | _, _ => false
noncomputable def okT (c : Nat) : Bool := (u_ws (cn c) (TT c) (nF c)).all (fun w => decide (w ∈ lw_tbl) && goodWord w) && ((List.range (nF c)).all (fun k => decide (parseFieldDescriptor (TT c k).2.2.1 = some (tyF c k)) && tyOk (fty c k) (tyF c k)) &&
  decide (∀ a, a < nF c → ∀ b, b < nF c → a ≠ b → (TT c a).2.1 ≠ (TT c b).2.1))
