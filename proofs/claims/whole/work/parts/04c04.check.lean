/-! THE START: check 4 -/
set_option maxRecDepth 100000 in
theorem st_q4 : st_chq 4 = true := by decide +kernel
theorem st_c4 : st_chk1 4 = true := st_of_q st_q4
