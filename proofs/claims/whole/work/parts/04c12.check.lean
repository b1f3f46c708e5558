/-! THE START: check 12 -/
set_option maxRecDepth 100000 in
theorem st_q12 : st_chq 12 = true := by decide +kernel
theorem st_c12 : st_chk1 12 = true := st_of_q st_q12
