/-! checks, on -/
set_option maxRecDepth 100000 in
theorem zk_134 : zchk 134 = true := by decide +kernel
set_option maxRecDepth 100000 in
theorem zw_134 : zMPw 134 (zmp 134) = true := by decide +kernel
