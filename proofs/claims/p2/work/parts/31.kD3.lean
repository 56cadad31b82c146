set_option maxRecDepth 100000 in
theorem am_kD3_0 : ([208, 209, 210, 211, 212, 213, 214, 215, 216, 217, 218, 219, 220, 221, 222, 223, 224, 225, 226, 227, 228, 229, 230] : List Nat).all (fun y => am_chk2 (am_mq y)) = true := by decide +kernel
set_option maxRecDepth 100000 in
theorem am_kD3_1 : ([231, 232, 233, 234, 235, 236, 237, 238] : List Nat).all (fun y => am_chk2 (am_mq y)) = true := by decide +kernel
set_option maxRecDepth 100000 in
theorem am_kD3_2 : ([239, 240, 241, 242, 243, 244, 245, 246] : List Nat).all (fun y => am_chk2 (am_mq y)) = true := by decide +kernel
set_option maxRecDepth 100000 in
theorem am_kD3_3 : ([247, 248, 249, 250, 251, 252, 253, 254, 255, 256] : List Nat).all (fun y => am_chk2 (am_mq y)) = true := by decide +kernel
set_option maxRecDepth 100000 in
theorem am_kD3_4 : ([257, 258, 259, 260, 261, 262] : List Nat).all (fun y => am_chk2 (am_mq y)) = true := by decide +kernel
set_option maxRecDepth 100000 in
theorem am_kD3_5 : ([263, 264, 265, 266, 267] : List Nat).all (fun y => am_chk2 (am_mq y)) = true := by decide +kernel
set_option maxRecDepth 100000 in
theorem am_kD3_6 : ([268, 269, 270, 271, 272, 273, 274, 275, 276, 277] : List Nat).all (fun y => am_chk2 (am_mq y)) = true := by decide +kernel
