/-! THE START: check 11 -/
set_option maxRecDepth 100000 in
theorem st_q11 : st_chq 11 = true := by decide +kernel
theorem st_c11 : st_chk1 11 = true := st_of_q st_q11
