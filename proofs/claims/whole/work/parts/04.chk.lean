set_option maxRecDepth 100000 in
theorem chk_all : (List.range 235).all chkM = true := by decide +kernel
theorem chk_of {m : Nat} (h : m < 235) : chkM m = true := List.all_eq_true.mp chk_all m (List.mem_range.mpr h)
