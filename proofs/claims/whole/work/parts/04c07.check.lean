/-! THE START: check 7 -/
set_option maxRecDepth 100000 in
theorem st_q7 : st_chq 7 = true := by decide +kernel
theorem st_c7 : st_chk1 7 = true := st_of_q st_q7
