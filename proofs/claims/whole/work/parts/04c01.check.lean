/-! THE START: check 1 -/
set_option maxRecDepth 100000 in
theorem st_c1 : st_chk1 1 = true := by decide +kernel
