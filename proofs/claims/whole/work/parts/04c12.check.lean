/-! THE START: check 12 -/
set_option maxRecDepth 100000 in
theorem st_c12 : st_chk1 12 = true := by decide +kernel
