theorem am_smod : ∀ s, s < 57 → ((BitVec.ofNat 64 s).smod 64#64).toNat = s := by decide +kernel
theorem am_255 : ∀ k, k < 32 → 8 ≤ k → (255#32).getLsbD k = false := by decide +kernel
theorem am_bits (w : Int64) (s : Nat) (hs : s ≤ 56) : (w.toUInt64 >>> UInt64.ofNat s).toInt64.toInt32 &&& 255 = ((w >>> Int64.ofNat s) &&& 255).toInt32 := by
  apply Int32.toBitVec_inj.mp
  apply BitVec.eq_of_getLsbD_eq
  intro k hk
  simp
  rw [am_smod s (by omega), Nat.mod_eq_of_lt (show s < 64 by omega)]
  by_cases h8 : k < 8
  · rw [BitVec.getLsbD_signExtend, BitVec.getLsbD_signExtend, BitVec.getLsbD_ushiftRight, BitVec.getLsbD_sshiftRight, if_pos (show k < 64 by omega), if_pos (show k < 64 by omega), if_pos (show s + k < 64 by omega)]
    simp [show ¬ 64 ≤ k by omega]
  · rw [am_255 k hk (by omega), Bool.and_false, Bool.and_false]

/-! ===== type ===== -/
/-- the loops' number: j - 1 -/
def am_lc (j : Nat) : Int32 := Int32.ofInt ((j : Int) - 1)
theorem am_lc_dec : ∀ j, j < 8 → am_lc (j + 1) + Int32.ofInt (-1) = am_lc j := by decide +kernel
theorem am_lc_lt0 : am_c .lt (am_lc 0) 0 = true := by decide +kernel
theorem am_lc_lt : ∀ j, j < 8 → am_c .lt (am_lc (j + 1)) 0 = false := by decide +kernel
theorem am_sh64 : ∀ j, j < 8 → ((Int8.ofInt 8).toInt32 * am_lc (j + 1)).toInt64.toUInt64 &&& Int64.toUInt64 63 = UInt64.ofNat (8 * j) ∧ ((Int8.ofInt 8).toInt32 * am_lc (j + 1)).toInt64 &&& 63 = Int64.ofNat (8 * j) := by decide +kernel
/-- the byte that the class takes, the byte that the reference takes -/
def am_cb (w : Int64) (i : Int32) : Int32 := (w.toUInt64 >>> (((Int8.ofInt 8).toInt32 * i).toInt64.toUInt64 &&& Int64.toUInt64 63)).toInt64.toInt32 &&& (Int16.ofInt 255).toInt32
def am_mb (w : Int64) (i : Int32) : Int32 := ((w >>> (((Int8.ofInt 8).toInt32 * i).toInt64 &&& 63)) &&& 255).toInt32
theorem am_cb_mb (w : Int64) {j : Nat} (hj : j < 8) : am_mb w (am_lc (j + 1)) = am_cb w (am_lc (j + 1)) := by
  unfold am_cb am_mb
  rw [(am_sh64 j hj).1, (am_sh64 j hj).2, show (Int16.ofInt 255).toInt32 = (255 : Int32) from by decide +kernel]
  exact (am_bits w (8 * j) (by omega)).symm
/-- a character that may be typed -/
def am_ty (c : Int32) : Bool := (!decide (c < 32) && decide (c ≤ 126)) || (decide (c = 9) || (decide (c = 10) || decide (c = 13)))
def am_zb (b : Bool) : Int32 := if b = true then 1 else 0
theorem am_b32 : (Int8.ofInt 32).toInt32 = (32 : Int32) := by decide +kernel
theorem am_b126 : (Int8.ofInt 126).toInt32 = (126 : Int32) := by decide +kernel
theorem am_b9 : (Int8.ofInt 9).toInt32 = (9 : Int32) := by decide +kernel
theorem am_b10 : (Int8.ofInt 10).toInt32 = (10 : Int32) := by decide +kernel
theorem am_b13 : (Int8.ofInt 13).toInt32 = (13 : Int32) := by decide +kernel
theorem am_b8 : (Int8.ofInt 8).toInt32 = (8 : Int32) := by decide +kernel
theorem am_s480 : (Int16.ofInt 480).toInt32 = (480 : Int32) := by decide +kernel
theorem am_zbn (b : Bool) : narrow FieldType.boolean (.int (am_zb b)) = .int (am_zb b) := by cases b <;> decide

theorem am_risLE {d : Nat} {h : List va_E} {c : Int32} : am_all am_thr 3000 (d + 1) 11 [.int c] h = some (.inl (some (.int (am_zb (decide (c = 10) || decide (c = 13))))), h, 0, 0) := by
  refine am_in_go (by rw [am_FisLE.2.1]; exact Nat.le_of_ble_eq_true rfl) ?_
  by_cases h1 : c = 10
  · rw [show am_zb (decide (c = 10) || decide (c = 13)) = 1 by simp [h1, am_zb]]
    refine am_x1 am_FisLE am_qisLE_0 rfl ?_
    refine am_x1 am_FisLE am_qisLE_1 rfl ?_
    refine am_xi am_qisLE_3 (b := true) (t := 12) (am_b am_b10 (decide_eq_true h1)) (by decide) ?_
    refine am_x1 am_FisLE am_qisLE_12 rfl ?_
    refine am_xj am_qisLE_13 (t := 17) (by decide) ?_
    exact am_xr am_qisLE_17 (by decide)
  · by_cases h2 : c = 13
    · rw [show am_zb (decide (c = 10) || decide (c = 13)) = 1 by simp [h2, am_zb]]
      refine am_x1 am_FisLE am_qisLE_0 rfl ?_
      refine am_x1 am_FisLE am_qisLE_1 rfl ?_
      refine am_xi am_qisLE_3 (b := false) (t := 12) (am_b am_b10 (decide_eq_false h1)) (by decide) ?_
      refine am_x1 am_FisLE am_qisLE_6 rfl ?_
      refine am_x1 am_FisLE am_qisLE_7 rfl ?_
      refine am_xi am_qisLE_9 (b := false) (t := 16) (am_b am_b13 (decide_eq_false (fun z => z h2))) (by decide) ?_
      refine am_x1 am_FisLE am_qisLE_12 rfl ?_
      refine am_xj am_qisLE_13 (t := 17) (by decide) ?_
      exact am_xr am_qisLE_17 (by decide)
    · rw [show am_zb (decide (c = 10) || decide (c = 13)) = 0 by simp [h1, h2, am_zb]]
      refine am_x1 am_FisLE am_qisLE_0 rfl ?_
      refine am_x1 am_FisLE am_qisLE_1 rfl ?_
      refine am_xi am_qisLE_3 (b := false) (t := 12) (am_b am_b10 (decide_eq_false h1)) (by decide) ?_
      refine am_x1 am_FisLE am_qisLE_6 rfl ?_
      refine am_x1 am_FisLE am_qisLE_7 rfl ?_
      refine am_xi am_qisLE_9 (b := true) (t := 16) (am_b am_b13 (decide_eq_true h2)) (by decide) ?_
      refine am_x1 am_FisLE am_qisLE_16 rfl ?_
      exact am_xr am_qisLE_17 (by decide)

theorem am_risTy {d : Nat} {h : List va_E} {c : Int32} : am_all am_thr 3000 (d + 2) 10 [.int c] h = some (.inl (some (.int (am_zb (am_ty c)))), h, 0, 0) := by
  refine am_in_go (by rw [am_FisTy.2.1]; exact Nat.le_of_ble_eq_true rfl) ?_
  by_cases h1 : c < 32
  · by_cases h3 : c = 9
    · rw [show am_ty c = true by simp [am_ty, h3], show am_zb true = 1 from rfl]
      refine am_x1 am_FisTy am_qisTy_0 rfl ?_
      refine am_x1 am_FisTy am_qisTy_1 rfl ?_
      refine am_xi am_qisTy_3 (b := true) (t := 12) (am_b am_b32 (decide_eq_true h1)) (by decide) ?_
      refine am_x1 am_FisTy am_qisTy_12 rfl ?_
      refine am_x1 am_FisTy am_qisTy_13 rfl ?_
      refine am_xi am_qisTy_15 (b := true) (t := 25) (am_b am_b9 (decide_eq_true h3)) (by decide) ?_
      refine am_x1 am_FisTy am_qisTy_25 rfl ?_
      refine am_xj am_qisTy_26 (t := 30) (by decide) ?_
      exact am_xr am_qisTy_30 (by decide)
    · by_cases h4 : (decide (c = 10) || decide (c = 13)) = true
      · rw [show am_ty c = true by unfold am_ty; rw [h4, Bool.or_true, Bool.or_true], show am_zb true = 1 from rfl]
        refine am_x1 am_FisTy am_qisTy_0 rfl ?_
        refine am_x1 am_FisTy am_qisTy_1 rfl ?_
        refine am_xi am_qisTy_3 (b := true) (t := 12) (am_b am_b32 (decide_eq_true h1)) (by decide) ?_
        refine am_x1 am_FisTy am_qisTy_12 rfl ?_
        refine am_x1 am_FisTy am_qisTy_13 rfl ?_
        refine am_xi am_qisTy_15 (b := false) (t := 25) (am_b am_b9 (decide_eq_false h3)) (by decide) ?_
        refine am_x1 am_FisTy am_qisTy_18 rfl ?_
        refine am_xc am_qisTy_19 (w := ([.int c], [])) rfl rfl am_risLE (Nat.le_refl _) ?_
        refine am_xz am_qisTy_22 (b := false) (t := 29) (by rw [h4]; decide) (by decide) ?_
        refine am_x1 am_FisTy am_qisTy_25 rfl ?_
        refine am_xj am_qisTy_26 (t := 30) (by decide) ?_
        exact am_xr am_qisTy_30 (by decide)
      · rw [Bool.not_eq_true] at h4
        rw [show am_ty c = false by unfold am_ty; rw [h4, decide_eq_false h3, decide_eq_true h1, Bool.not_true, Bool.false_and]; rfl, show am_zb false = 0 from rfl]
        refine am_x1 am_FisTy am_qisTy_0 rfl ?_
        refine am_x1 am_FisTy am_qisTy_1 rfl ?_
        refine am_xi am_qisTy_3 (b := true) (t := 12) (am_b am_b32 (decide_eq_true h1)) (by decide) ?_
        refine am_x1 am_FisTy am_qisTy_12 rfl ?_
        refine am_x1 am_FisTy am_qisTy_13 rfl ?_
        refine am_xi am_qisTy_15 (b := false) (t := 25) (am_b am_b9 (decide_eq_false h3)) (by decide) ?_
        refine am_x1 am_FisTy am_qisTy_18 rfl ?_
        refine am_xc am_qisTy_19 (w := ([.int c], [])) rfl rfl am_risLE (Nat.le_refl _) ?_
        refine am_xz am_qisTy_22 (b := true) (t := 29) (by rw [h4]; decide) (by decide) ?_
        refine am_x1 am_FisTy am_qisTy_29 rfl ?_
        exact am_xr am_qisTy_30 (by decide)
  · by_cases h2 : c ≤ 126
    · rw [show am_ty c = true by unfold am_ty; rw [decide_eq_false h1, decide_eq_true h2]; rfl, show am_zb true = 1 from rfl]
      refine am_x1 am_FisTy am_qisTy_0 rfl ?_
      refine am_x1 am_FisTy am_qisTy_1 rfl ?_
      refine am_xi am_qisTy_3 (b := false) (t := 12) (am_b am_b32 (decide_eq_false h1)) (by decide) ?_
      refine am_x1 am_FisTy am_qisTy_6 rfl ?_
      refine am_x1 am_FisTy am_qisTy_7 rfl ?_
      refine am_xi am_qisTy_9 (b := true) (t := 25) (am_b am_b126 (decide_eq_true h2)) (by decide) ?_
      refine am_x1 am_FisTy am_qisTy_25 rfl ?_
      refine am_xj am_qisTy_26 (t := 30) (by decide) ?_
      exact am_xr am_qisTy_30 (by decide)
    · by_cases h3 : c = 9
      · rw [show am_ty c = true by simp [am_ty, h3], show am_zb true = 1 from rfl]
        refine am_x1 am_FisTy am_qisTy_0 rfl ?_
        refine am_x1 am_FisTy am_qisTy_1 rfl ?_
        refine am_xi am_qisTy_3 (b := false) (t := 12) (am_b am_b32 (decide_eq_false h1)) (by decide) ?_
        refine am_x1 am_FisTy am_qisTy_6 rfl ?_
        refine am_x1 am_FisTy am_qisTy_7 rfl ?_
        refine am_xi am_qisTy_9 (b := false) (t := 25) (am_b am_b126 (decide_eq_false h2)) (by decide) ?_
        refine am_x1 am_FisTy am_qisTy_12 rfl ?_
        refine am_x1 am_FisTy am_qisTy_13 rfl ?_
        refine am_xi am_qisTy_15 (b := true) (t := 25) (am_b am_b9 (decide_eq_true h3)) (by decide) ?_
        refine am_x1 am_FisTy am_qisTy_25 rfl ?_
        refine am_xj am_qisTy_26 (t := 30) (by decide) ?_
        exact am_xr am_qisTy_30 (by decide)
      · by_cases h4 : (decide (c = 10) || decide (c = 13)) = true
        · rw [show am_ty c = true by unfold am_ty; rw [h4, Bool.or_true, Bool.or_true], show am_zb true = 1 from rfl]
          refine am_x1 am_FisTy am_qisTy_0 rfl ?_
          refine am_x1 am_FisTy am_qisTy_1 rfl ?_
          refine am_xi am_qisTy_3 (b := false) (t := 12) (am_b am_b32 (decide_eq_false h1)) (by decide) ?_
          refine am_x1 am_FisTy am_qisTy_6 rfl ?_
          refine am_x1 am_FisTy am_qisTy_7 rfl ?_
          refine am_xi am_qisTy_9 (b := false) (t := 25) (am_b am_b126 (decide_eq_false h2)) (by decide) ?_
          refine am_x1 am_FisTy am_qisTy_12 rfl ?_
          refine am_x1 am_FisTy am_qisTy_13 rfl ?_
          refine am_xi am_qisTy_15 (b := false) (t := 25) (am_b am_b9 (decide_eq_false h3)) (by decide) ?_
          refine am_x1 am_FisTy am_qisTy_18 rfl ?_
          refine am_xc am_qisTy_19 (w := ([.int c], [])) rfl rfl am_risLE (Nat.le_refl _) ?_
          refine am_xz am_qisTy_22 (b := false) (t := 29) (by rw [h4]; decide) (by decide) ?_
          refine am_x1 am_FisTy am_qisTy_25 rfl ?_
          refine am_xj am_qisTy_26 (t := 30) (by decide) ?_
          exact am_xr am_qisTy_30 (by decide)
        · rw [Bool.not_eq_true] at h4
          rw [show am_ty c = false by unfold am_ty; rw [h4, decide_eq_false h3, decide_eq_false h2, Bool.and_false]; rfl, show am_zb false = 0 from rfl]
          refine am_x1 am_FisTy am_qisTy_0 rfl ?_
          refine am_x1 am_FisTy am_qisTy_1 rfl ?_
          refine am_xi am_qisTy_3 (b := false) (t := 12) (am_b am_b32 (decide_eq_false h1)) (by decide) ?_
          refine am_x1 am_FisTy am_qisTy_6 rfl ?_
          refine am_x1 am_FisTy am_qisTy_7 rfl ?_
          refine am_xi am_qisTy_9 (b := false) (t := 25) (am_b am_b126 (decide_eq_false h2)) (by decide) ?_
          refine am_x1 am_FisTy am_qisTy_12 rfl ?_
          refine am_x1 am_FisTy am_qisTy_13 rfl ?_
          refine am_xi am_qisTy_15 (b := false) (t := 25) (am_b am_b9 (decide_eq_false h3)) (by decide) ?_
          refine am_x1 am_FisTy am_qisTy_18 rfl ?_
          refine am_xc am_qisTy_19 (w := ([.int c], [])) rfl rfl am_risLE (Nat.le_refl _) ?_
          refine am_xz am_qisTy_22 (b := true) (t := 29) (by rw [h4]; decide) (by decide) ?_
          refine am_x1 am_FisTy am_qisTy_29 rfl ?_
          exact am_xr am_qisTy_30 (by decide)

def am_bl (c : Int32) : Bool := decide (c = 9) || (decide (c = 10) || (decide (c = 13) || decide (c = 32)))
theorem am_rMBl {d : Nat} {h : List va_E} {c : Int32} : am_all am_thr 3000 (d + 1) 173 [.int c] h = some (.inl (some (.int (am_zb (am_bl c)))), h, 0, 0) := by
  refine am_in_go (by rw [am_FMBl.2.1]; exact Nat.le_of_ble_eq_true rfl) ?_
  by_cases h1 : c = 9
  · rw [show am_bl c = true by simp [am_bl, h1], show am_zb true = 1 from rfl]
    refine am_x1 am_FMBl am_qMBl_0 rfl ?_
    refine am_x1 am_FMBl am_qMBl_1 rfl ?_
    refine am_xi am_qMBl_3 (b := true) (t := 24) (am_b am_b9 (decide_eq_true h1)) (by decide) ?_
    refine am_x1 am_FMBl am_qMBl_24 rfl ?_
    refine am_xj am_qMBl_25 (t := 29) (by decide) ?_
    exact am_xr am_qMBl_29 (by decide)
  · by_cases h2 : c = 10
    · rw [show am_bl c = true by simp [am_bl, h2], show am_zb true = 1 from rfl]
      refine am_x1 am_FMBl am_qMBl_0 rfl ?_
      refine am_x1 am_FMBl am_qMBl_1 rfl ?_
      refine am_xi am_qMBl_3 (b := false) (t := 24) (am_b am_b9 (decide_eq_false h1)) (by decide) ?_
      refine am_x1 am_FMBl am_qMBl_6 rfl ?_
      refine am_x1 am_FMBl am_qMBl_7 rfl ?_
      refine am_xi am_qMBl_9 (b := true) (t := 24) (am_b am_b10 (decide_eq_true h2)) (by decide) ?_
      refine am_x1 am_FMBl am_qMBl_24 rfl ?_
      refine am_xj am_qMBl_25 (t := 29) (by decide) ?_
      exact am_xr am_qMBl_29 (by decide)
    · by_cases h3 : c = 13
      · rw [show am_bl c = true by simp [am_bl, h3], show am_zb true = 1 from rfl]
        refine am_x1 am_FMBl am_qMBl_0 rfl ?_
        refine am_x1 am_FMBl am_qMBl_1 rfl ?_
        refine am_xi am_qMBl_3 (b := false) (t := 24) (am_b am_b9 (decide_eq_false h1)) (by decide) ?_
        refine am_x1 am_FMBl am_qMBl_6 rfl ?_
        refine am_x1 am_FMBl am_qMBl_7 rfl ?_
        refine am_xi am_qMBl_9 (b := false) (t := 24) (am_b am_b10 (decide_eq_false h2)) (by decide) ?_
        refine am_x1 am_FMBl am_qMBl_12 rfl ?_
        refine am_x1 am_FMBl am_qMBl_13 rfl ?_
        refine am_xi am_qMBl_15 (b := true) (t := 24) (am_b am_b13 (decide_eq_true h3)) (by decide) ?_
        refine am_x1 am_FMBl am_qMBl_24 rfl ?_
        refine am_xj am_qMBl_25 (t := 29) (by decide) ?_
        exact am_xr am_qMBl_29 (by decide)
      · by_cases h4 : c = 32
        · rw [show am_bl c = true by simp [am_bl, h4], show am_zb true = 1 from rfl]
          refine am_x1 am_FMBl am_qMBl_0 rfl ?_
          refine am_x1 am_FMBl am_qMBl_1 rfl ?_
          refine am_xi am_qMBl_3 (b := false) (t := 24) (am_b am_b9 (decide_eq_false h1)) (by decide) ?_
          refine am_x1 am_FMBl am_qMBl_6 rfl ?_
          refine am_x1 am_FMBl am_qMBl_7 rfl ?_
          refine am_xi am_qMBl_9 (b := false) (t := 24) (am_b am_b10 (decide_eq_false h2)) (by decide) ?_
          refine am_x1 am_FMBl am_qMBl_12 rfl ?_
          refine am_x1 am_FMBl am_qMBl_13 rfl ?_
          refine am_xi am_qMBl_15 (b := false) (t := 24) (am_b am_b13 (decide_eq_false h3)) (by decide) ?_
          refine am_x1 am_FMBl am_qMBl_18 rfl ?_
          refine am_x1 am_FMBl am_qMBl_19 rfl ?_
          refine am_xi am_qMBl_21 (b := false) (t := 28) (am_b am_b32 (decide_eq_false (fun z => z h4))) (by decide) ?_
          refine am_x1 am_FMBl am_qMBl_24 rfl ?_
          refine am_xj am_qMBl_25 (t := 29) (by decide) ?_
          exact am_xr am_qMBl_29 (by decide)
        · rw [show am_bl c = false by simp [am_bl, h1, h2, h3, h4], show am_zb false = 0 from rfl]
          refine am_x1 am_FMBl am_qMBl_0 rfl ?_
          refine am_x1 am_FMBl am_qMBl_1 rfl ?_
          refine am_xi am_qMBl_3 (b := false) (t := 24) (am_b am_b9 (decide_eq_false h1)) (by decide) ?_
          refine am_x1 am_FMBl am_qMBl_6 rfl ?_
          refine am_x1 am_FMBl am_qMBl_7 rfl ?_
          refine am_xi am_qMBl_9 (b := false) (t := 24) (am_b am_b10 (decide_eq_false h2)) (by decide) ?_
          refine am_x1 am_FMBl am_qMBl_12 rfl ?_
          refine am_x1 am_FMBl am_qMBl_13 rfl ?_
          refine am_xi am_qMBl_15 (b := false) (t := 24) (am_b am_b13 (decide_eq_false h3)) (by decide) ?_
          refine am_x1 am_FMBl am_qMBl_18 rfl ?_
          refine am_x1 am_FMBl am_qMBl_19 rfl ?_
          refine am_xi am_qMBl_21 (b := true) (t := 28) (am_b am_b32 (decide_eq_true h4)) (by decide) ?_
          refine am_x1 am_FMBl am_qMBl_28 rfl ?_
          exact am_xr am_qMBl_29 (by decide)
