/-! THE START: check 9 -/
set_option maxRecDepth 100000 in
theorem st_q9 : st_chq 9 = true := by decide +kernel
theorem st_c9 : st_chk1 9 = true := st_of_q st_q9
