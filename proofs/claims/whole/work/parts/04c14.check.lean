/-! THE START: check 14 -/
set_option maxRecDepth 100000 in
theorem st_c14 : st_chk1 14 = true := by decide +kernel
