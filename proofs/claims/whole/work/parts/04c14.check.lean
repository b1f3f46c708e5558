/-! THE START: check 14 -/
set_option maxRecDepth 100000 in
theorem st_q14 : st_chq 14 = true := by decide +kernel
theorem st_c14 : st_chk1 14 = true := st_of_q st_q14
