/-! THE START: check 9 -/
set_option maxRecDepth 100000 in
theorem st_c9 : st_chk1 9 = true := by decide +kernel
