/-! THE START: check 5 -/
set_option maxRecDepth 100000 in
theorem st_q5 : st_chq 5 = true := by decide +kernel
theorem st_c5 : st_chk1 5 = true := st_of_q st_q5
