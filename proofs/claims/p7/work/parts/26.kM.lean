set_option maxRecDepth 100000 in
theorem am_kM0 : am_me0.all am_ckM = true := by decide +kernel
set_option maxRecDepth 100000 in
theorem am_kM1 : am_me1.all am_ckM = true := by decide +kernel
set_option maxRecDepth 100000 in
theorem am_kM2 : am_me2.all am_ckM = true := by decide +kernel
set_option maxRecDepth 100000 in
theorem am_kM3 : am_me3.all am_ckM = true := by decide +kernel
set_option maxRecDepth 100000 in
theorem am_kM4 : am_me4.all am_ckM = true := by decide +kernel
set_option maxRecDepth 100000 in
theorem am_kM5 : am_me5.all am_ckM = true := by decide +kernel
set_option maxRecDepth 100000 in
theorem am_kM6 : am_me6.all am_ckM = true := by decide +kernel
set_option maxRecDepth 100000 in
theorem am_kM7 : am_me7.all am_ckM = true := by decide +kernel
