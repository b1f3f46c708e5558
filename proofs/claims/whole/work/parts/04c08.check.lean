/-! THE START: check 8 -/
set_option maxRecDepth 100000 in
theorem st_q8 : st_chq 8 = true := by decide +kernel
theorem st_c8 : st_chk1 8 = true := st_of_q st_q8
