set_option maxRecDepth 100000 in
theorem am_kD2_0 : ([174, 175, 176, 177] : List Nat).all (fun y => am_chk2 (am_mq y)) = true := by decide +kernel
set_option maxRecDepth 100000 in
theorem am_kD2_1 : ([178] : List Nat).all (fun y => am_chk2 (am_mq y)) = true := by decide +kernel
set_option maxRecDepth 100000 in
theorem am_kD2_2 : ([179, 180, 181] : List Nat).all (fun y => am_chk2 (am_mq y)) = true := by decide +kernel
set_option maxRecDepth 100000 in
theorem am_kD2_3 : ([182, 183, 184, 185, 186, 187, 188, 189] : List Nat).all (fun y => am_chk2 (am_mq y)) = true := by decide +kernel
set_option maxRecDepth 100000 in
theorem am_kD2_4 : ([190, 191, 192, 193, 194, 195, 196, 197, 198] : List Nat).all (fun y => am_chk2 (am_mq y)) = true := by decide +kernel
set_option maxRecDepth 100000 in
theorem am_kD2_5 : ([199, 200, 201, 202, 203] : List Nat).all (fun y => am_chk2 (am_mq y)) = true := by decide +kernel
set_option maxRecDepth 100000 in
theorem am_kD2_6 : ([204, 205, 206, 207] : List Nat).all (fun y => am_chk2 (am_mq y)) = true := by decide +kernel
