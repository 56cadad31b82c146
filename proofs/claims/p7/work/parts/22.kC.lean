set_option maxRecDepth 100000 in
theorem am_kC0 : am_ca0.all am_ckC = true := by decide +kernel
set_option maxRecDepth 100000 in
theorem am_kC1 : am_ca1.all am_ckC = true := by decide +kernel
