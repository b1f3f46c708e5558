/-! THE START: check 2 -/
set_option maxRecDepth 100000 in
theorem st_c2 : st_chk1 2 = true := by decide +kernel
