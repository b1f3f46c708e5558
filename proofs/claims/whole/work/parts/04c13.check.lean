/-! THE START: check 13 -/
set_option maxRecDepth 100000 in
theorem st_q13 : st_chq 13 = true := by decide +kernel
theorem st_c13 : st_chk1 13 = true := st_of_q st_q13
