/-! THE START: check 0 -/
set_option maxRecDepth 100000 in
theorem st_q0 : st_chq 0 = true := by decide +kernel
theorem st_c0 : st_chk1 0 = true := st_of_q st_q0
