/-! THE START: check 6 -/
set_option maxRecDepth 100000 in
theorem st_c6 : st_chk1 6 = true := by decide +kernel
