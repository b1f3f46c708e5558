/-! THE START: check 3 -/
set_option maxRecDepth 100000 in
theorem st_c3 : st_chk1 3 = true := by decide +kernel
