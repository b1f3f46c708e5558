/-! THE START: check 1 -/
set_option maxRecDepth 100000 in
theorem st_q1 : st_chq 1 = true := by decide +kernel
theorem st_c1 : st_chk1 1 = true := st_of_q st_q1
