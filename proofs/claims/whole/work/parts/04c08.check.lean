/-! THE START: check 8 -/
set_option maxRecDepth 100000 in
theorem st_c8 : st_chk1 8 = true := by decide +kernel
