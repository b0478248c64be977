set_option maxRecDepth 100000 in
theorem y_chk_ok : y_chk y_r1 y_r2 = true := by decide +kernel
