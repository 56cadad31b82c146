set_option maxRecDepth 100000 in
theorem am_kC2 : am_ca2.all am_ckC = true := by decide +kernel
set_option maxRecDepth 100000 in
theorem am_kC3 : am_ca3.all am_ckC = true := by decide +kernel
