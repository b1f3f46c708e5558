/-! THE START: check 11 -/
set_option maxRecDepth 100000 in
theorem st_c11 : st_chk1 11 = true := by decide +kernel
