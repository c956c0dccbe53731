theorem upx {α : Type} (f : Nat → Nat → α) (k j : Nat) (v : α) : up f k j v k j = v := by
  unfold up
  rw [Nat.beq_refl, Nat.beq_refl]
  rfl
theorem upj {α : Type} (f : Nat → Nat → α) (k j : Nat) (v : α) (a b : Nat) (h : Nat.beq b j = false) : up f k j v a b = f a b := by
  unfold up
  rw [h, Bool.and_false]
  rfl
section RETS
variable {F : Cal} {m pc len : Nat} {ls : List AV} {σ : Sto}
theorem p_ri {x : Int} (hf : fch (cde m) pc = some (.ireturn, len)) (hk : rok (rkd m) x = true) : RunX none F m pc ls [vi x] σ = some (some (vi x), σ) := by
  rw [Run_ret hf (v := some (some (vi x))) (by show some (bif rok (rkd m) x then some (some (vi x)) else none) = _; rw [hk]; rfl)]
  rfl
theorem p_rl {x : Int} (hf : fch (cde m) pc = some (.lreturn, len)) : RunX none F m pc ls [vl x] σ = some (some (vl x), σ) := Run_ret hf (v := some (some (vl x))) rfl
theorem p_ra {k : Nat} (hf : fch (cde m) pc = some (.areturn, len)) : RunX none F m pc ls [vr k] σ = some (some (vr k), σ) := Run_ret hf (v := some (some (vr k))) rfl
theorem p_rn (hf : fch (cde m) pc = some (.areturn, len)) : RunX none F m pc ls [vn] σ = some (some vn, σ) := Run_ret hf (v := some (some vn)) rfl
theorem p_rv (hf : fch (cde m) pc = some (.return_, len)) : RunX none F m pc ls [] σ = some (none, σ) := Run_ret hf (v := some none) rfl
end RETS
