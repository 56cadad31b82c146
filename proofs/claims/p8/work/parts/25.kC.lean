set_option maxRecDepth 100000 in
theorem am_kC6 : am_ca6.all am_ckC = true := by decide +kernel
set_option maxRecDepth 100000 in
theorem am_kC7 : am_ca7.all am_ckC = true := by decide +kernel
