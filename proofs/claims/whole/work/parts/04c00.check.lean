/-! THE START: check 0 -/
set_option maxRecDepth 100000 in
theorem st_c0 : st_chk1 0 = true := by decide +kernel
