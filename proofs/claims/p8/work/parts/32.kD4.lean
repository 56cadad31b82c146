set_option maxRecDepth 100000 in
theorem am_kD4_0 : ([278, 279, 280, 281] : List Nat).all (fun y => am_chk2 (am_mq y)) = true := by decide +kernel
set_option maxRecDepth 100000 in
theorem am_kD4_1 : ([282, 283, 284] : List Nat).all (fun y => am_chk2 (am_mq y)) = true := by decide +kernel
set_option maxRecDepth 100000 in
theorem am_kD4_2 : ([285, 286, 287, 288] : List Nat).all (fun y => am_chk2 (am_mq y)) = true := by decide +kernel
set_option maxRecDepth 100000 in
theorem am_kD4_3 : ([289, 290, 291, 292, 293] : List Nat).all (fun y => am_chk2 (am_mq y)) = true := by decide +kernel
set_option maxRecDepth 100000 in
theorem am_kD4_4 : ([294, 295, 296, 297, 298, 299, 300] : List Nat).all (fun y => am_chk2 (am_mq y)) = true := by decide +kernel
