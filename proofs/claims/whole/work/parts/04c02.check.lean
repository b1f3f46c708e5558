/-! THE START: check 2 -/
set_option maxRecDepth 100000 in
theorem st_q2 : st_chq 2 = true := by decide +kernel
theorem st_c2 : st_chk1 2 = true := st_of_q st_q2
