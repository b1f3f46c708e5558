/-! THE START: check 6 -/
set_option maxRecDepth 100000 in
theorem st_q6 : st_chq 6 = true := by decide +kernel
theorem st_c6 : st_chk1 6 = true := st_of_q st_q6
