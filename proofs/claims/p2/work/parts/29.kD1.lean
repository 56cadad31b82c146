set_option maxRecDepth 100000 in
theorem am_kD1_0 : ([130, 131, 132, 133, 134, 135, 136, 137, 138, 139, 140, 141, 142] : List Nat).all (fun y => am_chk2 (am_mq y)) = true := by decide +kernel
set_option maxRecDepth 100000 in
theorem am_kD1_1 : ([143, 144, 145] : List Nat).all (fun y => am_chk2 (am_mq y)) = true := by decide +kernel
set_option maxRecDepth 100000 in
theorem am_kD1_2 : ([146, 147, 148, 149, 150, 151, 152, 153] : List Nat).all (fun y => am_chk2 (am_mq y)) = true := by decide +kernel
set_option maxRecDepth 100000 in
theorem am_kD1_3 : ([154, 155, 156, 157, 158, 159, 160, 161] : List Nat).all (fun y => am_chk2 (am_mq y)) = true := by decide +kernel
set_option maxRecDepth 100000 in
theorem am_kD1_4 : ([162] : List Nat).all (fun y => am_chk2 (am_mq y)) = true := by decide +kernel
set_option maxRecDepth 100000 in
theorem am_kD1_5 : ([163, 164, 165, 166, 167, 168] : List Nat).all (fun y => am_chk2 (am_mq y)) = true := by decide +kernel
set_option maxRecDepth 100000 in
theorem am_kD1_6 : ([169, 171, 172, 173] : List Nat).all (fun y => am_chk2 (am_mq y)) = true := by decide +kernel
