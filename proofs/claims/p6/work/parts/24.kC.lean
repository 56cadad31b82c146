set_option maxRecDepth 100000 in
theorem am_kC4 : am_ca4.all am_ckC = true := by decide +kernel
set_option maxRecDepth 100000 in
theorem am_kC5 : am_ca5.all am_ckC = true := by decide +kernel
