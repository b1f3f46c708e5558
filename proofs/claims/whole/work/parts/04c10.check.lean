/-! THE START: check 10 -/
set_option maxRecDepth 100000 in
theorem st_c10 : st_chk1 10 = true := by decide +kernel
