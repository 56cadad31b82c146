/-! ===== type: its loops ===== -/
theorem am_go_le {y fuel d K K2 pc : Nat} {lv : am_L} {st : List Value} {h : List va_E} {res : Option am_R} (hk : K ≤ K2) (hg : am_go y fuel d K pc lv st h res) : am_go y fuel d K2 pc lv st h res := fun kk h => hg kk (Nat.le_trans hk h)
abbrev am_lvT (i : Int32) (x : Nat) (w : Int64) (n : Int32) : am_L := [(4, .int i), (0, .ref x), (1, .long w), (3, .int n)]
def am_ok8 (w : Int64) : Nat → Bool
  | 0 => true
  | j + 1 => am_ty (am_cb w (am_lc (j + 1))) && am_ok8 w j
theorem am_zb_ne {b : Bool} : am_c .ne (am_zb b) 0 = b := by cases b <;> decide
section AM20
variable {d x : Nat} {h : List va_E} {w : Int64} {n : Int32}

theorem am_vl1 {K : Nat} {o : am_O} {h2 : List va_E} {nc ns : Nat} (hn : am_go 9 3000 (d + 2) K 64 (am_lvT (am_lc 0) x w n) [] h (some (o, h2, nc, ns))) : ∀ j, j ≤ 8 → am_ok8 w j = true → am_go 9 3000 (d + 2) (K + 14 * j + 2) 33 (am_lvT (am_lc j) x w n) [] h (some (o, h2, nc, ns)) := by
  intro j
  induction j with
  | zero =>
    intro _ _
    refine am_go_le (K := K + 2) (by omega) ?_
    refine am_x1 am_FTyp am_qTyp_33 rfl ?_
    refine am_xz am_qTyp_35 (b := true) (t := 64) am_lc_lt0 (by decide) ?_
    exact hn
  | succ j ih =>
    intro hj hok
    have hok2 : am_ty (am_cb w (am_lc (j + 1))) = true ∧ am_ok8 w j = true := by
      have := hok
      unfold am_ok8 at this
      rwa [Bool.and_eq_true] at this
    have e := am_lc_dec j (by omega)
    refine am_go_le (K := K + 14 * j + 2 + 14) (by omega) ?_
    refine am_x1 am_FTyp am_qTyp_33 rfl ?_
    refine am_xz am_qTyp_35 (b := false) (t := 64) (am_lc_lt j (by omega)) (by decide) ?_
    refine am_x1 am_FTyp am_qTyp_38 rfl ?_
    refine am_x1 am_FTyp am_qTyp_39 rfl ?_
    refine am_x1 am_FTyp am_qTyp_41 rfl ?_
    refine am_x1 am_FTyp am_qTyp_43 rfl ?_
    refine am_x1 am_FTyp am_qTyp_44 rfl ?_
    refine am_x1 am_FTyp am_qTyp_45 rfl ?_
    refine am_x1 am_FTyp am_qTyp_46 rfl ?_
    refine am_x1 am_FTyp am_qTyp_49 rfl ?_
    refine am_xc am_qTyp_50 (w := ([.int (am_cb w (am_lc (j + 1)))], [])) rfl rfl am_risTy (Nat.le_refl _) ?_
    refine am_xz am_qTyp_53 (b := true) (t := 58) (by rw [hok2.1]; exact am_zb_ne) (by decide) ?_
    refine am_x1 am_FTyp am_qTyp_58 rfl ?_
    refine am_xj am_qTyp_61 (t := 33) (by decide) ?_
    show am_go 9 3000 (d + 2) _ 33 (am_lvT (am_lc (j + 1) + Int32.ofInt (-1)) x w n) [] h _
    rw [e]
    exact ih (by omega) hok2.2
theorem am_vl0 : ∀ j, j ≤ 8 → am_ok8 w j = false → am_go 9 3000 (d + 2) (14 * j + 2) 33 (am_lvT (am_lc j) x w n) [] h (some (.inl (some (.int 0)), h, 0, 0)) := by
  intro j
  induction j with
  | zero => intro _ hok; cases hok
  | succ j ih =>
    intro hj hok
    have e := am_lc_dec j (by omega)
    by_cases hty : am_ty (am_cb w (am_lc (j + 1))) = true
    · have hok2 : am_ok8 w j = false := by
        have := hok
        unfold am_ok8 at this
        rwa [hty, Bool.true_and] at this
      refine am_go_le (K := 14 * j + 2 + 14) (by omega) ?_
      refine am_x1 am_FTyp am_qTyp_33 rfl ?_
      refine am_xz am_qTyp_35 (b := false) (t := 64) (am_lc_lt j (by omega)) (by decide) ?_
      refine am_x1 am_FTyp am_qTyp_38 rfl ?_
      refine am_x1 am_FTyp am_qTyp_39 rfl ?_
      refine am_x1 am_FTyp am_qTyp_41 rfl ?_
      refine am_x1 am_FTyp am_qTyp_43 rfl ?_
      refine am_x1 am_FTyp am_qTyp_44 rfl ?_
      refine am_x1 am_FTyp am_qTyp_45 rfl ?_
      refine am_x1 am_FTyp am_qTyp_46 rfl ?_
      refine am_x1 am_FTyp am_qTyp_49 rfl ?_
      refine am_xc am_qTyp_50 (w := ([.int (am_cb w (am_lc (j + 1)))], [])) rfl rfl am_risTy (Nat.le_refl _) ?_
      refine am_xz am_qTyp_53 (b := true) (t := 58) (by rw [hty]; exact am_zb_ne) (by decide) ?_
      refine am_x1 am_FTyp am_qTyp_58 rfl ?_
      refine am_xj am_qTyp_61 (t := 33) (by decide) ?_
      show am_go 9 3000 (d + 2) _ 33 (am_lvT (am_lc (j + 1) + Int32.ofInt (-1)) x w n) [] h _
      rw [e]
      exact ih (by omega) hok2
    · rw [Bool.not_eq_true] at hty
      refine am_go_le (K := 2 + 14) (by omega) ?_
      refine am_x1 am_FTyp am_qTyp_33 rfl ?_
      refine am_xz am_qTyp_35 (b := false) (t := 64) (am_lc_lt j (by omega)) (by decide) ?_
      refine am_x1 am_FTyp am_qTyp_38 rfl ?_
      refine am_x1 am_FTyp am_qTyp_39 rfl ?_
      refine am_x1 am_FTyp am_qTyp_41 rfl ?_
      refine am_x1 am_FTyp am_qTyp_43 rfl ?_
      refine am_x1 am_FTyp am_qTyp_44 rfl ?_
      refine am_x1 am_FTyp am_qTyp_45 rfl ?_
      refine am_x1 am_FTyp am_qTyp_46 rfl ?_
      refine am_x1 am_FTyp am_qTyp_49 rfl ?_
      refine am_xc am_qTyp_50 (w := ([.int (am_cb w (am_lc (j + 1)))], [])) rfl rfl am_risTy (Nat.le_refl _) ?_
      refine am_xz am_qTyp_53 (b := false) (t := 58) (by rw [hty]; exact am_zb_ne) (by decide) ?_
      refine am_x1 am_FTyp am_qTyp_56 rfl ?_
      exact am_xr am_qTyp_57 (by decide)

end AM20
theorem am_t480 : ∀ t, t < 480 → am_c .lt (Int32.ofNat t) 0 = false ∧ am_c .ge (Int32.ofNat t) 480 = false ∧ am_ok (Int32.ofNat t) 480 = true ∧ (Int32.ofNat t).toNatClampNeg = t ∧ Int32.ofNat t + Int32.ofInt 1 = Int32.ofNat (t + 1) := by decide +kernel
theorem am_t481 : ∀ t, t < 481 → ∀ k, k < 8 → Int32.ofNat t + Int32.ofNat (k + 1) ≤ 480 → t + (k + 1) ≤ 480 := by decide +kernel
theorem am_n8 : ∀ k, k < 8 → Int32.ofNat (k + 1) - Int32.ofInt 1 = am_lc (k + 1) ∧ (Int32.ofNat (k + 1)).toNatClampNeg = k + 1 := by decide +kernel
theorem am_n18 {n : Int32} (h1 : ¬ n < 1) (h8 : ¬ 8 < n) : ∃ k, k < 8 ∧ n = Int32.ofNat (k + 1) := by
  have e1 : ¬ n.toInt < 1 := fun z => h1 (Int32.lt_iff_toInt_lt.mpr z)
  have e8 : ¬ 8 < n.toInt := fun z => h8 (Int32.lt_iff_toInt_lt.mpr z)
  refine ⟨n.toInt.toNat - 1, by omega, ?_⟩
  apply Int32.toInt_inj.mp
  rw [Int32.toInt_ofNat_of_lt (by omega)]
  omega
theorem am_wi (x : Int32) : ((!false || false) && (decide (narrow FieldType.int (.int x) = .int x) && fits FieldType.int (.int x))) = true := by
  have e : narrow FieldType.int (.int x) = .int x := rfl
  rw [decide_eq_true e]
  rfl
/-- a character, a byte is written into a row -/
theorem am_xca {y fuel d K pc a n : Nat} {lv : am_L} {r : List Value} {h : List va_E} {res : Option am_R} {g : Nat → Int32} {j z : Int32} (hp : am_pk y pc = some .castore) (hr : h[a]? = some (.inl (1, n, .inl g))) (hk : am_ok j n = true) (hn : am_go y fuel d K (pc + 1) lv r (h.set a (.inl (1, n, .inl (upd g j.toNatClampNeg (vp_nar .char z))))) res) : am_go y fuel d (K + 1) pc lv (.int z :: .int j :: .ref a :: r) h res := by
  refine am_x1 ⟨rfl, rfl, rfl⟩ hp ?_ hn
  show am_row h a _ = _
  unfold am_row
  rw [hr]
  show (if ((1 : Nat) == 1 && am_ok j n) = true then _ else _) = _
  rw [hk]
  rfl
theorem am_xba {y fuel d K pc a n : Nat} {lv : am_L} {r : List Value} {h : List va_E} {res : Option am_R} {g : Nat → Int32} {j z : Int32} (hp : am_pk y pc = some .bastore) (hr : h[a]? = some (.inl (3, n, .inl g))) (hk : am_ok j n = true) (hn : am_go y fuel d K (pc + 1) lv r (h.set a (.inl (3, n, .inl (upd g j.toNatClampNeg (vp_nar .byte z))))) res) : am_go y fuel d (K + 1) pc lv (.int z :: .int j :: .ref a :: r) h res := by
  refine am_x1 ⟨rfl, rfl, rfl⟩ hp ?_ hn
  show am_row h a _ = _
  unfold am_row
  rw [hr]
  show (if (((3 : Nat) == 2 || (3 : Nat) == 3) && am_ok j n) = true then _ else _) = _
  rw [hk]
  rfl

theorem am_rput {d tp cr t : Nat} {h : List va_E} {g : Nat → Int32} {len c : Int32} (h1 : h[tp]? = some (.inr (1, [.ref cr, .int (Int32.ofNat t), .int len]))) (h2 : h[cr]? = some (.inl (1, 480, .inl g))) (ht : t < 480) : am_all am_thr 3000 (d + 1) 12 [.ref tp, .int c] h = some (.inl none, (h.set cr (.inl (1, 480, .inl (upd g t (vp_nar .char (c.toUInt32 % 65536).toInt32))))).set tp (.inr (1, [.ref cr, .int (Int32.ofNat (t + 1)), .int len])), 0, 0) := by
  obtain ⟨q1, q2, q3, q4, q5⟩ := am_t480 t ht
  have hne : cr ≠ tp := by
    intro z
    rw [z, h1] at h2
    cases h2
  rw [← q5]
  refine am_in_go (by rw [am_Fput.2.1]; exact Nat.le_of_ble_eq_true rfl) ?_
  refine am_x1 am_Fput am_qput_0 rfl ?_
  refine am_xg am_Fput am_qput_1 am_qf1_15 h1 rfl ?_
  refine am_xz am_qput_4 (b := false) (t := 38) q1 (by decide) ?_
  refine am_x1 am_Fput am_qput_7 rfl ?_
  refine am_xg am_Fput am_qput_8 am_qf1_15 h1 rfl ?_
  refine am_x1 am_Fput am_qput_11 rfl ?_
  refine am_xi am_qput_14 (b := false) (t := 38) (am_b am_s480 q2) (by decide) ?_
  refine am_x1 am_Fput am_qput_17 rfl ?_
  refine am_xg am_Fput am_qput_18 am_qf1_9 h1 rfl ?_
  refine am_x1 am_Fput am_qput_21 rfl ?_
  refine am_xg am_Fput am_qput_22 am_qf1_15 h1 rfl ?_
  refine am_x1 am_Fput am_qput_25 rfl ?_
  refine am_x1 am_Fput am_qput_26 rfl ?_
  refine am_xca am_qput_27 h2 q3 ?_
  rw [q4]
  refine am_x1 am_Fput am_qput_28 rfl ?_
  refine am_x1 am_Fput am_qput_29 rfl ?_
  refine am_xg am_Fput am_qput_30 am_qf1_15 (am_at_other h1 hne) rfl ?_
  refine am_x1 am_Fput am_qput_33 rfl ?_
  refine am_x1 am_Fput am_qput_34 rfl ?_
  refine am_xp am_Fput am_qput_35 am_qf1_15 (am_at_other h1 hne) (Nat.le_of_ble_eq_true rfl) (am_wi _) ?_
  exact am_xv am_qput_38
