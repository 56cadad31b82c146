/-! ===== String's own methods, one by one ===== -/
set_option maxRecDepth 100000 in
theorem tx_words : am_at 708 (.methodLink "java/lang/String" 335 (tx_nm 3)) = true ∧ am_at 709 (.instanceMethod (tx_nm 3)) = true ∧ am_at 710 (.selects "java/lang/String" (tx_nm 3) (tx_nm 3)) = true ∧ am_at 239 (.initialized "java/lang/String") = true ∧ am_at 718 (.methodLink "java/lang/String" 492 (tx_nm 4)) = true ∧ am_at 719 (.instanceMethod (tx_nm 4)) = true ∧ am_at 720 (.selects "java/lang/String" (tx_nm 4) (tx_nm 4)) = true ∧
  am_at 722 (.methodLink "java/lang/String" 495 (tx_nm 5)) = true ∧ am_at 723 (.static (tx_nm 5)) = true ∧ am_at 240 (.initialized (tx_nm 5).cls) = true ∧ am_at 725 (.methodLink "java/lang/StringLatin1" 9 (tx_nm 6)) = true ∧ am_at 726 (.static (tx_nm 6)) = true ∧ am_at 239 (.initialized (tx_nm 6).cls) = true ∧ am_at 730 (.methodLink "java/lang/String" 1059 (tx_nm 7)) = true ∧ am_at 731 (.static (tx_nm 7)) = true ∧ am_at 241 (.initialized (tx_nm 7).cls) = true ∧
  am_at 712 (.fieldLink "java/lang/String" 38 "java/lang/String" "COMPACT_STRINGS" "Z") = true ∧ am_at 728 (.fieldLink "java/lang/String" 1053 "jdk/internal/util/Preconditions" "SIOOBE_FORMATTER" "Ljava/util/function/BiFunction;") = true ∧ am_at 2069 (.fieldLink "java/lang/String" 9 "java/lang/String" "value" "[B") = true ∧ am_at 2070 (.fieldLink "java/lang/String" 15 "java/lang/String" "coder" "B") = true := by decide +kernel
/-- a pc's instruction -/
def tx_d (k pc : Nat) (i : Instr) (n : Nat) : Bool := decide (decode (tx_bt k) pc = .ok (i, n))
theorem tx_d_eq {k pc n : Nat} {i : Instr} (h : tx_d k pc i n = true) : decode (tx_bt k) pc = .ok (i, n) := of_decide_eq_true h
set_option maxRecDepth 100000 in
theorem tx_d3 : tx_d 3 0 (.getstatic 38) 3 = true ∧ tx_d 3 3 (.ifCond .eq 10) 3 = true ∧ tx_d 3 6 (.aload_n 0) 1 = true ∧ tx_d 3 7 (.getfield 15) 3 = true ∧ tx_d 3 10 (.goto 4) 3 = true ∧ tx_d 3 14 .ireturn 1 = true := by decide +kernel
set_option maxRecDepth 100000 in
theorem tx_d4 : tx_d 4 0 (.getstatic 38) 3 = true ∧ tx_d 4 3 (.ifCond .eq 14) 3 = true ∧ tx_d 4 6 (.aload_n 0) 1 = true ∧ tx_d 4 7 (.getfield 15) 3 = true ∧ tx_d 4 10 (.ifCond .ne 7) 3 = true ∧ tx_d 4 13 (.iconst 1) 1 = true ∧ tx_d 4 14 (.goto 4) 3 = true ∧ tx_d 4 18 .ireturn 1 = true := by decide +kernel
set_option maxRecDepth 100000 in
theorem tx_d7 : tx_d 7 0 (.iload_n 0) 1 = true ∧ tx_d 7 1 (.ifCond .lt 8) 3 = true ∧ tx_d 7 4 (.iload_n 0) 1 = true ∧ tx_d 7 5 (.iload_n 1) 1 = true ∧ tx_d 7 6 (.if_icmp .lt 10) 3 = true ∧ tx_d 7 16 (.iload_n 0) 1 = true ∧ tx_d 7 17 .ireturn 1 = true := by decide +kernel
set_option maxRecDepth 100000 in
theorem tx_d6 : tx_d 6 0 (.iload_n 0) 1 = true ∧ tx_d 6 1 (.iload_n 1) 1 = true ∧ tx_d 6 2 (.getstatic 1053) 3 = true ∧ tx_d 6 5 (.invokestatic 1059) 3 = true ∧ tx_d 6 8 .pop 1 = true ∧ tx_d 6 9 .return_ 1 = true := by decide +kernel
set_option maxRecDepth 100000 in
theorem tx_d5 : tx_d 5 0 (.iload_n 1) 1 = true ∧ tx_d 5 1 (.aload_n 0) 1 = true ∧ tx_d 5 2 .arraylength 1 = true ∧ tx_d 5 3 (.invokestatic 9) 3 = true ∧ tx_d 5 6 (.aload_n 0) 1 = true ∧ tx_d 5 7 (.iload_n 1) 1 = true ∧ tx_d 5 8 .baload 1 = true ∧ tx_d 5 9 (.sipush 255) 3 = true ∧ tx_d 5 12 .iand 1 = true ∧ tx_d 5 13 .i2c 1 = true ∧ tx_d 5 14 .ireturn 1 = true := by decide +kernel
set_option maxRecDepth 100000 in
theorem tx_d1 : tx_d 1 0 (.aload_n 0) 1 = true ∧ tx_d 1 1 (.invokevirtual 492) 3 = true ∧ tx_d 1 4 (.ifCond .eq 12) 3 = true ∧ tx_d 1 7 (.aload_n 0) 1 = true ∧ tx_d 1 8 (.getfield 9) 3 = true ∧ tx_d 1 11 (.iload_n 1) 1 = true ∧ tx_d 1 12 (.invokestatic 495) 3 = true ∧ tx_d 1 15 .ireturn 1 = true := by decide +kernel
set_option maxRecDepth 100000 in
theorem tx_d0 : tx_d 0 0 (.aload_n 0) 1 = true ∧ tx_d 0 1 (.getfield 9) 3 = true ∧ tx_d 0 4 .arraylength 1 = true ∧ tx_d 0 5 (.aload_n 0) 1 = true ∧ tx_d 0 6 (.invokevirtual 335) 3 = true ∧ tx_d 0 9 .ishr 1 = true ∧ tx_d 0 10 .ireturn 1 = true := by decide +kernel
set_option maxRecDepth 100000 in
theorem tx_d2 : tx_d 2 0 (.aload_n 0) 1 = true ∧ tx_d 2 1 (.getfield 9) 3 = true ∧ tx_d 2 4 .arraylength 1 = true ∧ tx_d 2 5 (.ifCond .ne 7) 3 = true ∧ tx_d 2 8 (.iconst 1) 1 = true ∧ tx_d 2 9 (.goto 4) 3 = true ∧ tx_d 2 12 (.iconst 0) 1 = true ∧ tx_d 2 13 .ireturn 1 = true := by decide +kernel
section TX3
variable {l : Launch} {D : va_G} {ct ak : Nat → Nat} {tys : List (ClassId × FieldType)} {X : Nat → Nat → State → Prop} {d : Nat}
theorem tx_coder (hTY : am_TY tys ct) {a : Nat} (ha : 1000 ≤ a ∧ a < 1039) : tx_M l D ct tys ak X (d + 1) 3 [.ref a] (some (.int 0)) := by
  refine tx_of hTY (by decide) (Nat.le_of_ble_eq_true rfl) (fun p e s m below meth c A ad h hC => ?_)
  obtain ⟨-, -, -, -, -, -, -, -, -, hK, -, -, hak⟩ := id hC
  obtain ⟨d0, d3, d6, d7, d10, d14⟩ := tx_d3
  obtain ⟨-, -, -, -, -, -, -, -, -, -, -, -, -, -, -, -, w1, -, -, w2⟩ := tx_words
  refine tx_gs (v := .int 1) hC (tx_d_eq d0) hK.2.2.1 (am_at_in w1) ?_
  refine tx_st hC (tx_d_eq d3) rfl rfl ?_
  refine tx_st hC (tx_d_eq d6) rfl rfl ?_
  refine tx_gf (v := .int 0) hC (tx_d_eq d7) (by rw [hak a ha.1]; exact (hK.2.1 a ha.1 ha.2).2.1) (am_at_in w2) ?_
  refine tx_st hC (tx_d_eq d10) rfl rfl ?_
  exact tx_ir (ty := .byte) hC (tx_d_eq d14) (by decide)
theorem tx_latin (hTY : am_TY tys ct) {a : Nat} (ha : 1000 ≤ a ∧ a < 1039) : tx_M l D ct tys ak X (d + 1) 4 [.ref a] (some (.int 1)) := by
  refine tx_of hTY (by decide) (Nat.le_of_ble_eq_true rfl) (fun p e s m below meth c A ad h hC => ?_)
  obtain ⟨-, -, -, -, -, -, -, -, -, hK, -, -, hak⟩ := id hC
  obtain ⟨d0, d3, d6, d7, d10, d13, d14, d18⟩ := tx_d4
  obtain ⟨-, -, -, -, -, -, -, -, -, -, -, -, -, -, -, -, w1, -, -, w2⟩ := tx_words
  refine tx_gs (v := .int 1) hC (tx_d_eq d0) hK.2.2.1 (am_at_in w1) ?_
  refine tx_st hC (tx_d_eq d3) rfl rfl ?_
  refine tx_st hC (tx_d_eq d6) rfl rfl ?_
  refine tx_gf (v := .int 0) hC (tx_d_eq d7) (by rw [hak a ha.1]; exact (hK.2.1 a ha.1 ha.2).2.1) (am_at_in w2) ?_
  refine tx_st hC (tx_d_eq d10) rfl rfl ?_
  refine tx_st hC (tx_d_eq d13) rfl rfl ?_
  refine tx_st hC (tx_d_eq d14) rfl rfl ?_
  exact tx_ir (ty := .boolean) hC (tx_d_eq d18) (by decide)
theorem tx_chk7 (hTY : am_TY tys ct) {j n : Int32} {f : Value} (hf : f.category = 1) (h0 : ¬ j < 0) (h1 : j < n) : tx_M l D ct tys ak X (d + 1) 7 [.int j, .int n, f] (some (.int j)) := by
  refine tx_of hTY (by decide) ?_ (fun p e s m below meth c A ad h hC => ?_)
  · show 1 + (1 + (f.category + 0)) ≤ 3
    omega
  obtain ⟨d0, d1, d4, d5, d6, d16, d17⟩ := tx_d7
  have e0 : am_c .lt j 0 = false := decide_eq_false h0
  have e1 : am_c .lt j n = true := decide_eq_true h1
  refine tx_st (st' := [.int j]) hC (tx_d_eq d0) rfl rfl ?_
  refine tx_st (pc' := 4) (st' := []) (lv' := lv_args 0 [.int j, .int n, f]) hC (tx_d_eq d1) rfl ?_ ?_
  · show (am_to 1 8).bind (fun t => some (if am_c .lt j 0 = true then t else 1 + 3, lv_args 0 [.int j, .int n, f], [], h)) = _
    rw [e0]
    rfl
  refine tx_st (st' := [.int j]) hC (tx_d_eq d4) rfl rfl ?_
  refine tx_st (st' := [.int n, .int j]) hC (tx_d_eq d5) rfl rfl ?_
  refine tx_st (pc' := 16) (st' := []) (lv' := lv_args 0 [.int j, .int n, f]) hC (tx_d_eq d6) rfl ?_ ?_
  · show (am_to 6 10).bind (fun t => some (if am_c .lt j n = true then t else 6 + 3, lv_args 0 [.int j, .int n, f], [], h)) = _
    rw [e1]
    rfl
  refine tx_st (st' := [.int j]) hC (tx_d_eq d16) rfl rfl ?_
  exact tx_ir (ty := .int) hC (tx_d_eq d17) rfl
theorem tx_chk6 (hTY : am_TY tys ct) {j n : Int32} (h0 : ¬ j < 0) (h1 : j < n) : tx_M l D ct tys ak X (d + 2) 6 [.int j, .int n] none := by
  refine tx_of hTY (by decide) (Nat.le_of_ble_eq_true rfl) (fun p e s m below meth c A ad h hC => ?_)
  obtain ⟨-, -, -, -, -, -, -, -, -, hK, -, -, hak⟩ := id hC
  obtain ⟨d0, d1, d2, d5, d8, d9⟩ := tx_d6
  obtain ⟨-, -, -, -, -, -, -, -, -, -, -, -, -, w3, w4, w5, -, w1, -, -⟩ := tx_words
  obtain ⟨f, f1, f2, f3⟩ := hK.2.2.2.1
  refine tx_st (st' := [.int j]) hC (tx_d_eq d0) rfl rfl ?_
  refine tx_st (st' := [.int n, .int j]) hC (tx_d_eq d1) rfl rfl ?_
  refine tx_gs (v := f) hC (tx_d_eq d2) ?_ (am_at_in w1) ?_
  · have e : am_tv ad f = am_tv ak f := by
      cases f with
      | ref a => show Value.ref (ad a) = Value.ref (ak a); rw [hak a (f3 a rfl)]
      | _ => rfl
    rw [e]
    exact f2
  refine tx_cS (X := X) (as := [.int j, .int n, f]) (rest := []) (v := some (.int j)) (d := d + 1) (k := 7) (n := 3) hC (tx_d_eq d5) (by decide) (by decide) (by decide) ⟨am_at_in w3, am_at_in w4, am_at_in w5⟩ rfl (by decide) (tx_chk7 hTY f1 h0 h1) ⟨by show d + 1 + 9 ≤ d + 1 + 1 + 8; omega, by show (d + 1 + 1) * 40 + 400 ≤ (d + 1 + 1) * 40 + 400; omega⟩ ?_
  refine tx_po (v := .int j) hC rfl (tx_d_eq d8) ?_
  exact tx_vr hC (tx_d_eq d9)
theorem tx_b7 : ∀ n : Nat, n < 128 → ((Int32.ofInt (n : Int) &&& (Int16.ofInt 255).toInt32).toUInt32 % 65536).toInt32 = Int32.ofInt (n : Int) ∧ narrow FieldType.char (.int (Int32.ofInt (n : Int))) = .int (Int32.ofInt (n : Int)) := by decide +kernel
theorem tx_b8 {z : Int} (h : 0 ≤ z ∧ z < 128) : ((Int32.ofInt z &&& (Int16.ofInt 255).toInt32).toUInt32 % 65536).toInt32 = Int32.ofInt z ∧ narrow FieldType.char (.int (Int32.ofInt z)) = .int (Int32.ofInt z) := by
  have := tx_b7 z.toNat (by omega)
  rwa [show ((z.toNat : Nat) : Int) = z by omega] at this
set_option maxRecDepth 20000 in
theorem cm_kT_b : (cm_kT.take 39).all (fun l => l.all fun z => decide (0 ≤ z ∧ z < 128)) = true ∧ cm_kT.length = 40 := by decide +kernel
theorem cm_ka_b {a : Nat} (h1 : a < 1039) (j : Int) : 0 ≤ cm_ka a j ∧ cm_ka a j < 128 := by
  have e : cm_kT.getD (a - 1000) [] = (cm_kT.take 39).getD (a - 1000) [] := by
    rw [List.getD_eq_getElem?_getD, List.getD_eq_getElem?_getD, List.getElem?_take, if_pos (by omega)]
  unfold cm_ka
  rw [e]
  exact cm_getD_all (p := fun z => 0 ≤ z ∧ z < 128) (cm_getD_l (fun l hl z hz => of_decide_eq_true (List.all_eq_true.mp (List.all_eq_true.mp cm_kT_b.1 l hl) z hz)) _) ⟨by omega, by omega⟩ _
theorem tx_in {a : Nat} {j : Int32} (h : am_ok j (cm_kn a).toNat = true) : ¬ j < 0 ∧ j < Int32.ofNat (cm_kn a).toNat := by
  have h1 := am_ok_eq h
  have hk := cm_kn_in a
  have g0 : ¬ j < 0 := fun z => h1 (Or.inl z)
  have g1 : j.toNatClampNeg < (cm_kn a).toNat := Nat.not_le.mp fun z => h1 (Or.inr z)
  refine ⟨g0, ?_⟩
  have g2 : 0 ≤ j.toInt := by
    have := Int32.not_lt.mp g0
    simpa using Int32.le_iff_toInt_le.mp this
  have g3 : (j.toNatClampNeg : Int) = j.toInt := by
    show ((j.toInt.toNat : Nat) : Int) = j.toInt
    omega
  rw [Int32.lt_iff_toInt_lt]
  have e : (Int32.ofNat (cm_kn a).toNat).toInt = ((cm_kn a).toNat : Int) := by
    show (Int32.ofInt ((cm_kn a).toNat : Int)).toInt = _
    exact cm_32 ⟨by omega, by omega⟩
  rw [e]
  omega
theorem tx_latAt (hTY : am_TY tys ct) {a : Nat} {j : Int32} (ha : 1000 ≤ a ∧ a < 1039) (hj : am_ok j (cm_kn a).toNat = true) : tx_M l D ct tys ak X (d + 3) 5 [.ref (a + 2000), .int j] (some (.int (Int32.ofInt (cm_ka a (j.toNatClampNeg : Int))))) := by
  refine tx_of hTY (by decide) (Nat.le_of_ble_eq_true rfl) (fun p e s m below meth c A ad h hC => ?_)
  obtain ⟨-, -, -, -, -, -, -, -, -, hK, -, -, hak⟩ := id hC
  obtain ⟨d0, d1, d2, d3, d6, d7, d8, d9, d12, d13, d14⟩ := tx_d5
  obtain ⟨-, -, -, -, -, -, -, -, -, -, w1, w2, w3, -⟩ := tx_words
  have hT := (hK.2.1 a ha.1 ha.2).2.2.2
  rw [← hak (a + 2000) (by omega)] at hT
  obtain ⟨i0, i1⟩ := tx_in hj
  obtain ⟨b1, b2⟩ := tx_b8 (cm_ka_b ha.2 (j.toNatClampNeg : Int))
  refine tx_st (st' := [.int j]) hC (tx_d_eq d0) rfl rfl ?_
  refine tx_st (st' := [.ref (a + 2000), .int j]) hC (tx_d_eq d1) rfl rfl ?_
  refine tx_al hC (tx_d_eq d2) hT ?_
  refine tx_cS (X := X) (as := [.int j, .int (Int32.ofNat (cm_kn a).toNat)]) (rest := []) (v := none) (d := d + 2) (k := 6) (n := 2) hC (tx_d_eq d3) (by decide) (by decide) (by decide) ⟨am_at_in w1, am_at_in w2, am_at_in w3⟩ rfl (by decide) (tx_chk6 hTY i0 i1) ⟨by show d + 2 + 9 ≤ d + 2 + 1 + 8; omega, Nat.le_refl _⟩ ?_
  refine tx_st (st' := [.ref (a + 2000)]) hC (tx_d_eq d6) rfl rfl ?_
  refine tx_st (st' := [.int j, .ref (a + 2000)]) hC (tx_d_eq d7) rfl rfl ?_
  refine tx_ba hC (tx_d_eq d8) hT (am_ok_eq hj) ?_
  refine tx_st hC (tx_d_eq d9) rfl rfl ?_
  refine tx_st hC (tx_d_eq d12) rfl rfl ?_
  refine tx_st (st' := [.int (Int32.ofInt (cm_ka a (j.toNatClampNeg : Int)))]) (pc' := 14) (lv' := lv_args 0 [.ref (a + 2000), .int j]) hC (tx_d_eq d13) rfl ?_ ?_
  · show some (13 + 1, lv_args 0 [.ref (a + 2000), .int j], [Value.int ((Int32.ofInt (cm_ka a (j.toNatClampNeg : Int)) &&& (Int16.ofInt 255).toInt32).toUInt32 % 65536).toInt32], h) = _
    rw [b1]
  exact tx_ir (ty := .char) hC (tx_d_eq d14) b2
/-- charAt -/
theorem tx_charAt (hTY : am_TY tys ct) {a : Nat} {j : Int32} (ha : 1000 ≤ a ∧ a < 1039) (hj : am_ok j (cm_kn a).toNat = true) : tx_M l D ct tys ak X (d + 4) 1 [.ref a, .int j] (some (.int (Int32.ofInt (cm_ka a (j.toNatClampNeg : Int))))) := by
  refine tx_of hTY (by decide) (Nat.le_of_ble_eq_true rfl) (fun p e s m below meth c A ad h hC => ?_)
  obtain ⟨-, -, -, -, -, -, -, -, -, hK, -, -, hak⟩ := id hC
  obtain ⟨d0, d1, d4, d7, d8, d11, d12, d15⟩ := tx_d1
  obtain ⟨-, -, -, w0, w1, w2, w3, w4, w5, w6, -, -, -, -, -, -, -, -, w7, -⟩ := tx_words
  refine tx_st (st' := [.ref a]) hC (tx_d_eq d0) rfl rfl ?_
  refine tx_cV (X := X) (as := []) (rest := []) (v := some (.int 1)) (d := d + 3) (k := 4) (n := 0) hC (tx_d_eq d1) (by decide) (by decide) (by decide) (by decide) ⟨am_at_in w1, am_at_in w2, am_at_in w3, am_at_in w0⟩ rfl (by decide) ha (tx_latin hTY ha) ⟨by show d + 3 + 9 ≤ d + 3 + 1 + 8; omega, Nat.le_refl _⟩ ?_
  refine tx_st (st' := []) hC (tx_d_eq d4) rfl rfl ?_
  refine tx_st (st' := [.ref a]) hC (tx_d_eq d7) rfl rfl ?_
  refine tx_gf (v := .ref (a + 2000)) hC (tx_d_eq d8) (by
    have := (hK.2.1 a ha.1 ha.2).2.2.1
    rw [← hak a ha.1, ← hak (a + 2000) (by omega)] at this
    exact this) (am_at_in w7) ?_
  refine tx_st (st' := [.int j, .ref (a + 2000)]) hC (tx_d_eq d11) rfl rfl ?_
  refine tx_cS (X := X) (as := [.ref (a + 2000), .int j]) (rest := []) (v := some (.int (Int32.ofInt (cm_ka a (j.toNatClampNeg : Int))))) (d := d + 3) (k := 5) (n := 2) hC (tx_d_eq d12) (by decide) (by decide) (by decide) ⟨am_at_in w4, am_at_in w5, am_at_in w6⟩ rfl (by decide) (tx_latAt hTY ha hj) ⟨by show d + 3 + 9 ≤ d + 3 + 1 + 8; omega, Nat.le_refl _⟩ ?_
  exact tx_ir (ty := .char) hC (tx_d_eq d15) (tx_b8 (cm_ka_b ha.2 _)).2
theorem tx_sh {n : Nat} (h : n < 4000) : Int32.ofNat n >>> ((0 : Int32) &&& 31) = Int32.ofNat n := by
  rw [show ((0 : Int32) &&& 31) = 0 by decide]
  exact Int32.shiftRight_zero
/-- length -/
theorem tx_length (hTY : am_TY tys ct) {a : Nat} (ha : 1000 ≤ a ∧ a < 1039) : tx_M l D ct tys ak X (d + 2) 0 [.ref a] (some (.int (Int32.ofInt (cm_kn a)))) := by
  refine tx_of hTY (by decide) (Nat.le_of_ble_eq_true rfl) (fun p e s m below meth c A ad h hC => ?_)
  obtain ⟨-, -, -, -, -, -, -, -, -, hK, -, -, hak⟩ := id hC
  obtain ⟨d0, d1, d4, d5, d6, d9, d10⟩ := tx_d0
  obtain ⟨w1, w2, w3, w0, -, -, -, -, -, -, -, -, -, -, -, -, -, -, w7, -⟩ := tx_words
  have hk := cm_kn_in a
  have hT := (hK.2.1 a ha.1 ha.2).2.2.2
  rw [← hak (a + 2000) (by omega)] at hT
  refine tx_st (st' := [.ref a]) hC (tx_d_eq d0) rfl rfl ?_
  refine tx_gf (v := .ref (a + 2000)) hC (tx_d_eq d1) (by
    have := (hK.2.1 a ha.1 ha.2).2.2.1
    rw [← hak a ha.1, ← hak (a + 2000) (by omega)] at this
    exact this) (am_at_in w7) ?_
  refine tx_al hC (tx_d_eq d4) hT ?_
  refine tx_st (st' := [.ref a, .int (Int32.ofNat (cm_kn a).toNat)]) hC (tx_d_eq d5) rfl rfl ?_
  refine tx_cV (X := X) (as := []) (rest := [.int (Int32.ofNat (cm_kn a).toNat)]) (v := some (.int 0)) (d := d + 1) (k := 3) (n := 0) hC (tx_d_eq d6) (by decide) (by decide) (by decide) (by decide) ⟨am_at_in w1, am_at_in w2, am_at_in w3, am_at_in w0⟩ rfl (by show 1 + 0 ≤ 8; omega) ha (tx_coder hTY ha) ⟨by show d + 1 + 9 ≤ d + 1 + 1 + 8; omega, Nat.le_refl _⟩ ?_
  refine tx_st (st' := [.int (Int32.ofInt (cm_kn a))]) (pc' := 10) (lv' := lv_args 0 [.ref a]) hC (tx_d_eq d9) rfl ?_ ?_
  · show some (9 + 1, lv_args 0 [.ref a], [Value.int (Int32.ofNat (cm_kn a).toNat >>> ((0 : Int32) &&& 31))], h) = _
    rw [tx_sh (by omega), show Int32.ofNat (cm_kn a).toNat = Int32.ofInt (((cm_kn a).toNat : Nat) : Int) from rfl, show (((cm_kn a).toNat : Nat) : Int) = cm_kn a by omega]
  exact tx_ir (ty := .int) hC (tx_d_eq d10) rfl
/-- isEmpty -/
theorem tx_empty (hTY : am_TY tys ct) {a : Nat} (ha : 1000 ≤ a ∧ a < 1039) : tx_M l D ct tys ak X (d + 1) 2 [.ref a] (some (.int (Int32.ofInt (if cm_kn a = 0 then 1 else 0)))) := by
  refine tx_of hTY (by decide) (Nat.le_of_ble_eq_true rfl) (fun p e s m below meth c A ad h hC => ?_)
  obtain ⟨-, -, -, -, -, -, -, -, -, hK, -, -, hak⟩ := id hC
  obtain ⟨d0, d1, d4, d5, d8, d9, d12, d13⟩ := tx_d2
  obtain ⟨-, -, -, -, -, -, -, -, -, -, -, -, -, -, -, -, -, -, w7, -⟩ := tx_words
  have hk := cm_kn_in a
  have hT := (hK.2.1 a ha.1 ha.2).2.2.2
  rw [← hak (a + 2000) (by omega)] at hT
  refine tx_st (st' := [.ref a]) hC (tx_d_eq d0) rfl rfl ?_
  refine tx_gf (v := .ref (a + 2000)) hC (tx_d_eq d1) (by
    have := (hK.2.1 a ha.1 ha.2).2.2.1
    rw [← hak a ha.1, ← hak (a + 2000) (by omega)] at this
    exact this) (am_at_in w7) ?_
  refine tx_al hC (tx_d_eq d4) hT ?_
  have e : am_c .ne (Int32.ofNat (cm_kn a).toNat) 0 = decide (¬ cm_kn a = 0) := by
    show decide (¬ Int32.ofNat (cm_kn a).toNat = 0) = _
    have e1 : (Int32.ofNat (cm_kn a).toNat = 0) ↔ cm_kn a = 0 := by
      rw [show Int32.ofNat (cm_kn a).toNat = Int32.ofInt (((cm_kn a).toNat : Nat) : Int) from rfl, show (((cm_kn a).toNat : Nat) : Int) = cm_kn a by omega, show (0 : Int32) = Int32.ofInt 0 by decide]
      exact cm_eq32 ⟨by omega, by omega⟩ ⟨by omega, by omega⟩
    simp only [e1]
  by_cases h0 : cm_kn a = 0
  · rw [if_pos h0]
    refine tx_st (st' := []) (pc' := 8) (lv' := lv_args 0 [.ref a]) hC (tx_d_eq d5) rfl ?_ ?_
    · show (am_to 5 7).bind (fun t => some (if am_c .ne (Int32.ofNat (cm_kn a).toNat) 0 = true then t else 5 + 3, lv_args 0 [.ref a], [], h)) = _
      rw [e, decide_eq_false (fun z => z h0)]
      rfl
    refine tx_st hC (tx_d_eq d8) rfl rfl ?_
    refine tx_st hC (tx_d_eq d9) rfl rfl ?_
    exact tx_ir (ty := .boolean) hC (tx_d_eq d13) (by decide)
  · rw [if_neg h0]
    refine tx_st (st' := []) (pc' := 12) (lv' := lv_args 0 [.ref a]) hC (tx_d_eq d5) rfl ?_ ?_
    · show (am_to 5 7).bind (fun t => some (if am_c .ne (Int32.ofNat (cm_kn a).toNat) 0 = true then t else 5 + 3, lv_args 0 [.ref a], [], h)) = _
      rw [e, decide_eq_true h0]
      rfl
    refine tx_st hC (tx_d_eq d12) rfl rfl ?_
    exact tx_ir (ty := .boolean) hC (tx_d_eq d13) (by decide)
end TX3
