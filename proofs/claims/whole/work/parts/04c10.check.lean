/-! THE START: check 10 -/
set_option maxRecDepth 100000 in
theorem st_q10 : st_chq 10 = true := by decide +kernel
theorem st_c10 : st_chk1 10 = true := st_of_q st_q10
