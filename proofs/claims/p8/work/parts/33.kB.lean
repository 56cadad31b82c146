set_option maxRecDepth 100000 in
theorem am_kB170_0 : am_chk3 (am_mq 170) 0 = true := by decide +kernel
set_option maxRecDepth 100000 in
theorem am_kB170_40 : am_chk3 (am_mq 170) 40 = true := by decide +kernel
set_option maxRecDepth 100000 in
theorem am_kB170_80 : am_chk3 (am_mq 170) 80 = true := by decide +kernel
set_option maxRecDepth 100000 in
theorem am_kB170_120 : am_chk3 (am_mq 170) 120 = true := by decide +kernel
set_option maxRecDepth 100000 in
theorem am_kB170_160 : am_chk3 (am_mq 170) 160 = true := by decide +kernel
set_option maxRecDepth 100000 in
theorem am_kB170_200 : am_chk3 (am_mq 170) 200 = true := by decide +kernel
set_option maxRecDepth 100000 in
theorem am_kB170_240 : am_chk3 (am_mq 170) 240 = true := by decide +kernel
set_option maxRecDepth 100000 in
theorem am_kB170_280 : am_chk3 (am_mq 170) 280 = true := by decide +kernel
set_option maxRecDepth 100000 in
theorem am_kB170_320 : am_chk3 (am_mq 170) 320 = true := by decide +kernel
set_option maxRecDepth 100000 in
theorem am_kB170_360 : am_chk3 (am_mq 170) 360 = true := by decide +kernel
set_option maxRecDepth 100000 in
theorem am_kB170_400 : am_chk3 (am_mq 170) 400 = true := by decide +kernel
