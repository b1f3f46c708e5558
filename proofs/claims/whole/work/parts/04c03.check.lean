/-! THE START: check 3 -/
set_option maxRecDepth 100000 in
theorem st_q3 : st_chq 3 = true := by decide +kernel
theorem st_c3 : st_chk1 3 = true := st_of_q st_q3
