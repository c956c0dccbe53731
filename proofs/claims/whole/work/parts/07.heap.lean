/-! the heap: cells 0 .. 8 are constants (8: the script), from 9 on those that were made, one behind the other from an address on -/
def adr (base : Nat) (adc : Nat → Nat) (k : Nat) : Nat := if k < 9 then adc k else base + (k - 9)
def wl (base : Nat) (es : List va_E) : va_W := es.mapIdx (fun i e => (base + i, e))
theorem wl_get {base : Nat} {es : List va_E} {i : Nat} {e : va_E} (h : es[i]? = some e) : (wl base es)[i]? = some (base + i, e) := by
  unfold wl
  rw [List.getElem?_mapIdx, h]
  rfl
theorem wl_inv {base : Nat} {es : List va_E} {i : Nat} {q : Nat × va_E} (h : (wl base es)[i]? = some q) : ∃ e, es[i]? = some e ∧ q = (base + i, e) := by
  unfold wl at h
  rw [List.getElem?_mapIdx] at h
  cases he : es[i]? with
  | none => rw [he] at h; cases h
  | some e => rw [he] at h; cases h; exact ⟨e, rfl, rfl⟩
theorem wl_set {base : Nat} {es : List va_E} {i : Nat} {e : va_E} : (wl base es).set i (base + i, e) = wl base (es.set i e) := by
  apply List.ext_getElem?
  intro j
  unfold wl
  rw [List.getElem?_mapIdx, List.getElem?_set, List.getElem?_set, List.getElem?_mapIdx]
  by_cases h : i = j
  · subst h
    simp only [List.length_mapIdx, if_true]
    split <;> simp
  · simp [h]
theorem wl_app {base : Nat} {es : List va_E} {e : va_E} : wl base (es ++ [e]) = wl base es ++ [(base + es.length, e)] := by
  unfold wl
  rw [List.mapIdx_append]
  show _ ++ [(base + (0 + es.length), e)] = _
  rw [Nat.zero_add]
theorem wl_D {base : Nat} {es : List va_E} : va_D (fun q => base ≤ q) (wl base es) := by
  refine ⟨fun i j p q h1 h2 e => ?_, fun k q h => ?_⟩
  · obtain ⟨e1, -, rfl⟩ := wl_inv h1
    obtain ⟨e2, -, rfl⟩ := wl_inv h2
    simp at e
    exact e
  · obtain ⟨e1, -, rfl⟩ := wl_inv h
    exact Nat.le_add_right _ _
def K0c : List (Nat × Nat) := [(100, 7), (100, 21), (12, 2), (12, 2), (12, 2), (103, 16), (103, 6), (103, 3), (199, 0)]
def cIs : List (List Int) := [[-1, 0, 0, 0, 1, 2, 3], [10, 11, 12, 0, 20, 0, 30, 0, 0, 0, 0, 40, 50, 51, 0, 0, 0, 60, 71, 70, 0], [], [], [], [114, 101, 97, 100, 98, 108, 117, 114, 115, 108, 111, 119, 114, 111, 111, 109], [98, 100, 107, 116, 103, 99], [60, 61, 62]]
def cI (k j : Nat) : Int := ((nth cIs k).bind (fun l => nth l j)).getD 0
def cR (k j : Nat) : Option Nat := bif (Nat.beq j 0 && (Nat.ble 2 k && Nat.ble k 4)) then some (k + 3) else none
def fvl (σ : Sto) (k j ty : Nat) : AV := match ty with
  | 0 => vi (σ.1 k j)
  | 1 => vl (σ.2.1 k j)
  | 2 => avr (σ.2.2.1 k j)
  | _ => vi (σ.1 k j)
def ER (ad : Nat → Nat) (tys : List (ClassId × FieldType)) (σ : Sto) (k t n : Nat) (e : va_E) : Prop := match e with
  | .inr (c, fs) => t = c ∧ c < 12 ∧ n = nF c ∧ fs.length = n ∧ ∀ j, j < n → ∃ v, fs[j]? = some v ∧ VR ad (fvl σ k j (fty c j)) v
  | .inl (cA, m, .inl f) => m = n ∧ ((t = 100 ∧ (cA, FieldType.int) ∈ tys) ∨ (t = 102 ∧ (cA, FieldType.boolean) ∈ tys)) ∧ ∀ j, j < n → (f j).toInt = σ.1 k j
  | .inl (cA, m, .inr (.inl f)) => m = n ∧ (t = 101 ∧ (cA, FieldType.long) ∈ tys) ∧ ∀ j, j < n → (f j).toInt = σ.2.1 k j
  | .inl (cA, m, .inr (.inr (.inr (.inr f)))) => m = n ∧ (∃ c, c < 12 ∧ t = 110 + c ∧ (cA, FieldType.object (cn c)) ∈ tys) ∧ ∀ j, j < n → f j = (σ.2.2.1 k j).map ad
  | _ => False
def CR (σ : Sto) : Prop := ∀ k, k < 9 → nth σ.2.2.2 k = nth K0c k ∧ ∀ j, σ.1 k j = cI k j ∧ σ.2.2.1 k j = cR k j
def HR (base : Nat) (adc : Nat → Nat) (D : va_G) (U : State) (σ : Sto) (H : Heap) : Prop := ∃ (es : List va_E) (tys : List (ClassId × FieldType)), va_K D clst tys U ∧ va_P D clst (wl base es) H ∧ es.length + 9 = σ.2.2.2.length ∧
  (∀ i e, es[i]? = some e → ∃ t n, nth σ.2.2.2 (9 + i) = some (t, n) ∧ ER (adr base adc) tys σ (9 + i) t n e) ∧ CR σ
def slen : List Nat := [16, 6, 3]
def sbyt : List (List Int32) := [[114, 101, 97, 100, 98, 108, 117, 114, 115, 108, 111, 119, 114, 111, 111, 109], [98, 100, 107, 116, 103, 99], [60, 61, 62]]
def stxt (i : Nat) : Nat × String := match i with
  | 0 => (60, "readblurslowroom")
  | 1 => (84, "bdktgc")
  | _ => (89, "<=>")
def EnvX (base : Nat) (adc : Nat → Nat) (U : State) (H : Heap) : Prop :=
  (∀ p ∈ nestP, ∀ w, lw_tbl[p]? = some w → va_Nw w U) ∧
  va_Z (cn 0) "ABOVE" "[I" (.ref (adc 0)) (fun q => base ≤ q) U H ∧ va_Z (cn 9) "BODIES" "[I" (.ref (adc 1)) (fun q => base ≤ q) U H ∧
  va_Z (cn 12) "COMPACT_STRINGS" "Z" (.int 1) (fun q => base ≤ q) U H ∧ va_Zq (cn 14) "SIOOBE_FORMATTER" "Ljava/util/function/BiFunction;" (fun q => base ≤ q) U H ∧
  va_T .int (adc 0) 7 (fun j => .int (Int32.ofInt (cI 0 j))) (fun q => base ≤ q) U H ∧ va_T .int (adc 1) 21 (fun j => .int (Int32.ofInt (cI 1 j))) (fun q => base ≤ q) U H ∧
  vk_S 3 slen sbyt (fun i => adc (2 + i)) (fun i => adc (5 + i)) (fun q => base ≤ q) U H ∧ (∀ i, i < 3 → vk_R (cn 3) (stxt i).1 (stxt i).2 (adc (2 + i)) U) ∧ (∀ c, c = 2 ∨ c = 5 → va_AO (cn c) U)
theorem nth_get {α : Type} : ∀ (l : List α) (i : Nat), nth l i = l[i]?
  | [], i => by cases i <;> rfl
  | a :: r, 0 => rfl
  | a :: r, i + 1 => by rw [List.getElem?_cons_succ]; exact nth_get r i
theorem nth_lt {α : Type} {l : List α} {i : Nat} {a : α} (h : nth l i = some a) : i < l.length := by
  rw [nth_get] at h
  exact (List.getElem?_eq_some_iff.mp h).1
theorem nbeq (x y : Nat) : Nat.beq x y = decide (x = y) := by
  cases h : Nat.beq x y with
  | true => rw [decide_eq_true (Nat.eq_of_beq_eq_true h)]
  | false => rw [decide_eq_false (Nat.ne_of_beq_eq_false h)]
theorem nble (x y : Nat) : Nat.ble x y = decide (x ≤ y) := by
  cases h : Nat.ble x y with
  | true => rw [decide_eq_true (Nat.le_of_ble_eq_true h)]
  | false => rw [decide_eq_false (fun q => by rw [Nat.ble_eq_true_of_le q] at h; cases h)]
theorem up_eq {α : Type} (f : Nat → Nat → α) (k j : Nat) (v : α) (a b : Nat) : up f k j v a b = if a = k ∧ b = j then v else f a b := by
  unfold up
  rw [nbeq, nbeq]
  by_cases h1 : a = k <;> by_cases h2 : b = j <;> simp [h1, h2]
theorem up_ne {α : Type} {f : Nat → Nat → α} {k j : Nat} {v : α} {a b : Nat} (h : a ≠ k) : up f k j v a b = f a b := by
  rw [up_eq, if_neg (fun q => h q.1)]
theorem zr_eq {α : Type} (f : Nat → Nat → α) (k : Nat) (v : α) (a b : Nat) : zr f k v a b = if a = k then v else f a b := by
  unfold zr
  rw [nbeq]
  by_cases h1 : a = k <;> simp [h1]
theorem cpy_eq {α : Type} (f : Nat → Nat → α) (s sp d dp n a b : Nat) : cpy f s sp d dp n a b = if a = d ∧ (dp ≤ b ∧ b < dp + n) then f s (sp + (b - dp)) else f a b := by
  unfold cpy
  rw [nbeq, nble, nble]
  by_cases h1 : a = d <;> by_cases h2 : dp ≤ b <;> by_cases h3 : b + 1 ≤ dp + n <;> simp only [h1, h2, h3, Nat.lt_iff_add_one_le, decide_true, decide_false, Bool.and_true, Bool.and_false, Bool.true_and, cond_true, cond_false, and_true, and_false, true_and, false_and, if_true, if_false]
/-- what is held of a cell when the store changes elsewhere -/
theorem ER.same {ad : Nat → Nat} {tys : List (ClassId × FieldType)} {σ σ' : Sto} {k t n : Nat} {e : va_E} (h : ER ad tys σ k t n e) (h1 : ∀ j, σ'.1 k j = σ.1 k j) (h2 : ∀ j, σ'.2.1 k j = σ.2.1 k j) (h3 : ∀ j, σ'.2.2.1 k j = σ.2.2.1 k j) : ER ad tys σ' k t n e := by
  have hf : ∀ j ty, fvl σ' k j ty = fvl σ k j ty := by
    intro j ty
    unfold fvl
    split <;> simp only [h1, h2, h3]
  rcases e with ⟨cA, m, f | f | f | f | f⟩ | ⟨c, fs⟩
  · obtain ⟨a, b, c⟩ := h
    exact ⟨a, b, fun j hj => by rw [h1]; exact c j hj⟩
  · obtain ⟨a, b, c⟩ := h
    exact ⟨a, b, fun j hj => by rw [h2]; exact c j hj⟩
  · exact h
  · exact h
  · obtain ⟨a, b, c⟩ := h
    exact ⟨a, b, fun j hj => by rw [h3]; exact c j hj⟩
  · obtain ⟨a, b, c, d, e⟩ := h
    exact ⟨a, b, c, d, fun j hj => by rw [hf]; exact e j hj⟩
theorem ER.tys {ad : Nat → Nat} {tys tys' : List (ClassId × FieldType)} {σ : Sto} {k t n : Nat} {e : va_E} (h : ER ad tys σ k t n e) (hs : ∀ x ∈ tys, x ∈ tys') : ER ad tys' σ k t n e := by
  rcases e with ⟨cA, m, f | f | f | f | f⟩ | ⟨c, fs⟩
  · obtain ⟨a, b, c⟩ := h
    exact ⟨a, b.imp (fun q => ⟨q.1, hs _ q.2⟩) (fun q => ⟨q.1, hs _ q.2⟩), c⟩
  · obtain ⟨a, b, c⟩ := h
    exact ⟨a, ⟨b.1, hs _ b.2⟩, c⟩
  · exact h
  · exact h
  · obtain ⟨a, ⟨c, b1, b2, b3⟩, d⟩ := h
    exact ⟨a, ⟨c, b1, b2, hs _ b3⟩, d⟩
  · exact h
def isNest : Jvm.Cond → Bool
  | .fieldLinkNest .. => true
  | .methodLinkNest .. => true
  | _ => false
theorem nest_ok {p : Nat} (hp : p ∈ nestP) {w : Jvm.Cond} (hw : lw_tbl[p]? = some w) : isNest w = true := by
  have h2 : nestP.all (fun p => (lw_tbl[p]?).all isNest) = true := by decide +kernel
  have h3 := List.all_eq_true.mp h2 p hp
  rw [hw] at h3
  exact h3
theorem EnvX.next {base : Nat} {adc : Nat → Nat} {s U : State} {H : Heap} (h : EnvX base adc s s.heap) (hW : s.WarmedH U.vm) (hq : ∀ a, a < s.heap.size → ¬ base ≤ a → H[a]? = s.heap[a]?) : EnvX base adc U H := by
  obtain ⟨a, b, c, d, e, f, g, i, j, o⟩ := h
  have hv := hW.alike
  refine ⟨fun p hp w hw => ?_, (b.moved hv).kept hq, (c.moved hv).kept hq, (d.moved hv).kept hq, (e.moved hv).kept hq, (f.moved hv).kept hq, (g.moved hv).kept hq, (i.moved hv).kept hq, fun i hi => (j i hi).warm hW, fun c hc => (o c hc).moved hv⟩
  have h1 := a p hp w hw
  have hk := nest_ok hp hw
  cases w <;> first | exact va_Nw.warmF hW h1 | exact va_Nw.warmM hW h1 | exact absurd hk Bool.false_ne_true
theorem EnvX.frame {base : Nat} {adc : Nat → Nat} {u U : State} {H : Heap} (h : EnvX base adc u H) (hv : u.vm = U.vm) : EnvX base adc U H := by
  obtain ⟨a, b, c, d, e, f, g, i, j, o⟩ := h
  have hA : u.vm.Alike U.vm := by rw [hv]; exact Vm.Alike.refl _
  refine ⟨fun p hp w hw => ?_, b.moved hA, c.moved hA, d.moved hA, e.moved hA, f.moved hA, g.moved hA, i.moved hA, fun i hi => (j i hi).same hv.symm, fun c hc => (o c hc).moved hA⟩
  have h1 := a p hp w hw
  have hk := nest_ok hp hw
  cases w <;> first | exact va_Nw.same rfl hv h1 | exact absurd hk Bool.false_ne_true
theorem HR.moved {base : Nat} {adc : Nat → Nat} {D : va_G} {u U : State} {σ : Sto} {H : Heap} (h : HR base adc D u σ H) (hv : u.vm.Alike U.vm) : HR base adc D U σ H := by
  obtain ⟨es, tys, h1, h2⟩ := h
  exact ⟨es, tys, h1.moved hv, h2⟩
