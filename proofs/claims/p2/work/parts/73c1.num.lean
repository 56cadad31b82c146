/-! ===== numbers of both machines ===== -/
def cm_v (v : cm_V) : Value := match v with
  | .inl z => .int (Int32.ofInt z)
  | .inr (.inl a) => .ref a
  | .inr (.inr z) => .long (Int64.ofInt z)
theorem cm_v_ct (v : cm_V) : (cm_v v).category = cm_ct v := by
  rcases v with z | a | z <;> rfl
theorem cm_v_cts (st : List cm_V) : ((st.map cm_v).map fun v => v.category).sum = cm_cts st := by
  rw [List.map_map]
  unfold cm_cts
  congr 1
  exact List.map_congr_left fun v _ => cm_v_ct v
def cm_in (z : Int) : Prop := -2147483648 ≤ z ∧ z < 2147483648
def cm_inl (z : Int) : Prop := -9223372036854775808 ≤ z ∧ z < 9223372036854775808
theorem cm_32 {z : Int} (h : cm_in z) : (Int32.ofInt z).toInt = z := Int32.toInt_ofInt_of_le h.1 h.2
theorem cm_64 {z : Int} (h : cm_inl z) : (Int64.ofInt z).toInt = z := Int64.toInt_ofInt_of_le h.1 h.2
theorem cm_in32 (x : Int32) : cm_in x.toInt := ⟨x.le_toInt, x.toInt_lt⟩
theorem cm_in64 (x : Int64) : cm_inl x.toInt := ⟨x.le_toInt, x.toInt_lt⟩
theorem cm_in_l {z : Int} (h : cm_in z) : cm_inl z := by unfold cm_in at h; unfold cm_inl; omega
theorem cm_w_of (z : Int) : Int32.ofInt (cm_w z) = Int32.ofInt z := Int32.ofInt_toInt _
theorem cm_w_in (z : Int) : cm_in (cm_w z) := cm_in32 _
theorem cm_wl_of (z : Int) : Int64.ofInt (cm_wl z) = Int64.ofInt z := Int64.ofInt_toInt _
theorem cm_eq32 {x y : Int} (hx : cm_in x) (hy : cm_in y) : Int32.ofInt x = Int32.ofInt y ↔ x = y := by
  rw [← Int32.toInt_inj, cm_32 hx, cm_32 hy]
theorem cm_lt32 {x y : Int} (hx : cm_in x) (hy : cm_in y) : Int32.ofInt x < Int32.ofInt y ↔ x < y := by
  rw [Int32.lt_iff_toInt_lt, cm_32 hx, cm_32 hy]
theorem cm_le32 {x y : Int} (hx : cm_in x) (hy : cm_in y) : Int32.ofInt x ≤ Int32.ofInt y ↔ x ≤ y := by
  rw [Int32.le_iff_toInt_le, cm_32 hx, cm_32 hy]
theorem cm_br_c {α : Type} (c : ClassFile.Cond) {x y : Int} (hx : cm_in x) (hy : cm_in y) (a b : α) : cm_br c x y a b = if am_c c (Int32.ofInt x) (Int32.ofInt y) = true then a else b := by
  cases c <;> simp only [cm_br, am_c, decide_eq_true_eq, cm_eq32 hx hy, cm_lt32 hx hy, cm_lt32 hy hx, cm_le32 hx hy, cm_le32 hy hx]
  · by_cases h : x = y <;> simp [h]
  · by_cases h : x < y
    · rw [if_pos h, if_neg (by omega)]
    · rw [if_neg h, if_pos (by omega)]
  · by_cases h : y < x
    · rw [if_pos h, if_neg (by omega)]
    · rw [if_neg h, if_pos (by omega)]
theorem cm_clamp {j : Int} (h0 : 0 ≤ j) (h1 : j < 2147483648) : (Int32.ofInt j).toNatClampNeg = j.toNat := Int32.toNatClampNeg_ofInt_of_le (by omega) (by omega)
theorem cm_okix {j : Int} {n : Nat} (h0 : 0 ≤ j) (h1 : j < (n : Int)) (hn : n < 2147483648) : am_ok (Int32.ofInt j) n = true := by
  unfold am_ok
  rw [cm_clamp h0 (by omega)]
  have h2 : ¬ Int32.ofInt j < 0 := by
    intro h
    have h3 := Int32.lt_iff_toInt_lt.mp h
    rw [cm_32 ⟨by omega, by omega⟩] at h3
    have h4 : (0 : Int32).toInt = 0 := by decide
    omega
  have h3 : ¬ n ≤ j.toNat := by omega
  simp [h2, h3]
theorem cm_bool {z : Int} (h : 0 ≤ z ∧ z < 2) : z = 0 ∨ z = 1 := by omega
theorem cm_nar_b {z : Int} (h : 0 ≤ z ∧ z < 2) : narrow .boolean (.int (Int32.ofInt z)) = .int (Int32.ofInt z) := by
  rcases cm_bool h with rfl | rfl <;> decide
theorem cm_fit_b {z : Int} (h : 0 ≤ z ∧ z < 2) : fits .boolean (.int (Int32.ofInt z)) = true := by
  rcases cm_bool h with rfl | rfl <;> decide
theorem cm_nar_z {z : Int} (h : 0 ≤ z ∧ z < 2) : vp_nar .boolean (Int32.ofInt z) = Int32.ofInt z := by
  rcases cm_bool h with rfl | rfl <;> decide
theorem cm_i2c_id {z : Int} (h : 0 ≤ z ∧ z < 65536) : ((Int32.ofInt z).toUInt32 % 65536).toInt32 = Int32.ofInt z := by
  have e : (Int32.ofInt z).toUInt32.toNat = z.toNat := by
    show (Int32.ofInt z).toBitVec.toNat = z.toNat
    rw [Int32.toBitVec_ofInt, BitVec.toNat_ofInt]
    omega
  have e2 : (Int32.ofInt z).toUInt32 % 65536 = (Int32.ofInt z).toUInt32 := by
    rw [← UInt32.toNat_inj, UInt32.toNat_mod, e]
    show z.toNat % 65536 = z.toNat
    omega
  rw [e2]
  rfl
theorem cm_i2b_id {z : Int} (h : -128 ≤ z ∧ z < 128) : (Int32.ofInt z).toInt8.toInt32 = Int32.ofInt z := by
  rw [← Int32.toInt_inj, Int8.toInt_toInt32, Int32.toInt_toInt8, cm_32 ⟨by omega, by omega⟩]
  rw [Int.bmod_def]
  omega
