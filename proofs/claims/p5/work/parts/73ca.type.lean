/-! ===== type: what becomes of the state ===== -/
def tyS (w : Int64) : Nat → Nat → cm_S → cm_S
  | 0, _, s => s
  | j + 1, t, s => tyS w j (t + 1) (cm_p (cm_q s 2 (t : Int) (am_cb w (am_lc (j + 1))).toInt) 101 ((t + 1 : Nat) : Int))
def tyR (w : Int64) : Nat → Nat → cm_S → cm_S
  | 0, _, s => s
  | j + 1, t, s => tyR w j (t + 1) (cm_p (cm_q s 45 (t : Int) (am_cb w (am_lc (j + 1))).toInt) 4106 ((t + 1 : Nat) : Int))
theorem am_ty_in {c : Int32} (h : am_ty c = true) : 0 ≤ c.toInt ∧ c.toInt < 127 := by
  unfold am_ty at h
  simp only [Bool.or_eq_true, Bool.and_eq_true, Bool.not_eq_true', decide_eq_false_iff_not, decide_eq_true_eq] at h
  have e32 : (32 : Int32).toInt = 32 := by decide
  have e126 : (126 : Int32).toInt = 126 := by decide
  rcases h with ⟨h1, h2⟩ | h | h | h
  · have h2 := Int32.le_iff_toInt_le.mp h2
    have h1 : ¬ c.toInt < (32 : Int32).toInt := fun z => h1 (Int32.lt_iff_toInt_lt.mpr z)
    omega
  · subst h; decide
  · subst h; decide
  · subst h; decide
section TY
variable {h0 : List va_E}
theorem ty_c1 (s : cm_S) {t : Nat} (ht : s.1 101 = (t : Int)) : cm_cell s 1 = .inr (1, [.ref 2, .int (Int32.ofNat t), .int (Int32.ofInt (s.1 102))]) := by
  have e : cm_cell s 1 = .inr (1, [.ref 2, .int (Int32.ofInt (s.1 101)), .int (Int32.ofInt (s.1 102))]) := rfl
  rw [e, ht]
  rfl
theorem ty_c2 (s : cm_S) : cm_cell s 2 = .inl (1, 480, .inl fun i => Int32.ofInt (s.2 2 (i : Int))) := rfl
theorem ty_c0 (s : cm_S) : cm_cell s 0 = .inr (0, (List.range 8).map (cm_fv s 0)) := rfl
theorem ty_put (hh : 41 ≤ h0.length) {d t : Nat} {s : cm_S} {c : Int32} (ht : s.1 101 = (t : Int)) (hl : t < 480) (hc : am_ty c = true) : am_all am_thr 3000 (d + 1) 12 [.ref 1, .int c] (cm_mix 0 41 s h0) = some (.inl none, cm_mix 0 41 (cm_p (cm_q s 2 (t : Int) c.toInt) 101 ((t + 1 : Nat) : Int)) h0, 0, 0) := by
  have h1 := (cm_mix_at (lo := 0) (hi := 41) (a := 1) (s := s) (by omega) (by omega) hh).trans (congrArg some (ty_c1 s ht))
  have h2 := (cm_mix_at (lo := 0) (hi := 41) (a := 2) (s := s) (by omega) (by omega) hh).trans (congrArg some (ty_c2 s))
  rw [am_rput h1 h2 hl]
  obtain ⟨c1, c2⟩ := am_ty_in hc
  have ec : vp_nar .char (c.toUInt32 % 65536).toInt32 = Int32.ofInt c.toInt := by
    have e0 : c = Int32.ofInt c.toInt := (Int32.ofInt_toInt c).symm
    have e1 : (c.toUInt32 % 65536).toInt32 = Int32.ofInt c.toInt := by
      have := cm_i2c_id (z := c.toInt) ⟨c1, by omega⟩
      rw [← e0] at this
      rw [this]
      exact e0
    rw [e1]
    exact cm_nar_c ⟨c1, by omega⟩
  rw [ec]
  have g1 : (cm_mix 0 41 s h0).set 2 (.inl (1, 480, .inl (upd (fun i => Int32.ofInt (s.2 2 (i : Int))) t (Int32.ofInt c.toInt)))) = cm_mix 0 41 (cm_q s 2 (t : Int) c.toInt) h0 :=
    cm_mix_set (by omega) (by omega) hh (cm_cell_q (s := s) (a := 2) (j := (t : Int)) (z := c.toInt) (by decide) (by omega)) (fun b hb => cm_cell_qb hb)
  rw [g1]
  have g2 : (cm_mix 0 41 (cm_q s 2 (t : Int) c.toInt) h0).set 1 (.inr (1, [.ref 2, .int (Int32.ofNat (t + 1)), .int (Int32.ofInt (s.1 102))])) = cm_mix 0 41 (cm_p (cm_q s 2 (t : Int) c.toInt) 101 ((t + 1 : Nat) : Int)) h0 := by
    refine cm_mix_set (by omega) (by omega) hh ?_ (fun b hb => cm_cell_pb (a := 1) (j := 1) (by omega) hb)
    exact ty_c1 (cm_p (cm_q s 2 (t : Int) c.toInt) 101 ((t + 1 : Nat) : Int)) rfl
  rw [g2]
theorem am_pl2 (hh : 41 ≤ h0.length) {d : Nat} {w : Int64} {n : Int32} : ∀ (j : Nat) (s : cm_S) (t : Nat), j ≤ 8 → s.1 101 = (t : Int) → t + j ≤ 480 → am_ok8 w j = true → am_go 9 3000 (d + 2) (15 * j + 4) 69 (am_lvT (am_lc j) 0 w n) [] (cm_mix 0 41 s h0) (some (.inl (some (.int 1)), cm_mix 0 41 (tyS w j t s) h0, 0, 0)) := by
  intro j
  induction j with
  | zero =>
    intro s t _ ht hl hok
    refine am_x1 am_FTyp am_qTyp_69 rfl ?_
    refine am_xz am_qTyp_71 (b := true) (t := 99) am_lc_lt0 (by decide) ?_
    refine am_x1 am_FTyp am_qTyp_99 rfl ?_
    exact am_xr am_qTyp_100 (by decide)
  | succ j ih =>
    intro s t hj ht hl hok
    have e := am_lc_dec j (by omega)
    have hok2 : am_ty (am_cb w (am_lc (j + 1))) = true ∧ am_ok8 w j = true := by
      unfold am_ok8 at hok
      rwa [Bool.and_eq_true] at hok
    have k0 := (cm_mix_at (lo := 0) (hi := 41) (a := 0) (s := s) (by omega) (by omega) hh).trans (congrArg some (ty_c0 s))
    have k1 := (cm_mix_at (lo := 0) (hi := 41) (a := 1) (s := s) (by omega) (by omega) hh).trans (congrArg some (ty_c1 s ht))
    have hg := ih (cm_p (cm_q s 2 (t : Int) (am_cb w (am_lc (j + 1))).toInt) 101 ((t + 1 : Nat) : Int)) (t + 1) (by omega) rfl (by omega) hok2.2
    refine am_go_le (K := 15 * j + 4 + 15) (by omega) ?_
    refine am_x1 am_FTyp am_qTyp_69 rfl ?_
    refine am_xz am_qTyp_71 (b := false) (t := 99) (am_lc_lt j (by omega)) (by decide) ?_
    refine am_x1 am_FTyp am_qTyp_74 rfl ?_
    refine am_xg am_FTyp am_qTyp_75 am_qf0_10 k0 rfl ?_
    refine am_x1 am_FTyp am_qTyp_78 rfl ?_
    refine am_x1 am_FTyp am_qTyp_79 rfl ?_
    refine am_x1 am_FTyp am_qTyp_81 rfl ?_
    refine am_x1 am_FTyp am_qTyp_83 rfl ?_
    refine am_x1 am_FTyp am_qTyp_84 rfl ?_
    refine am_x1 am_FTyp am_qTyp_85 rfl ?_
    refine am_x1 am_FTyp am_qTyp_86 rfl ?_
    refine am_x1 am_FTyp am_qTyp_89 rfl ?_
    refine am_xc am_qTyp_90 (w := ([.ref 1, .int (am_cb w (am_lc (j + 1)))], [])) rfl (by unfold am_rcv; simp only [k1]; rfl) (ty_put hh ht (by omega) hok2.1) (by rw [cm_mix_len, cm_mix_len]; exact Nat.le_refl _) ?_
    refine am_x1 am_FTyp am_qTyp_93 rfl ?_
    refine am_xj am_qTyp_96 (t := 69) (by decide) ?_
    show am_go 9 3000 (d + 2) _ 69 (am_lvT (am_lc (j + 1) + Int32.ofInt (-1)) 0 w n) [] _ _
    rw [e]
    exact hg

theorem am_rTyp2 (hh : 41 ≤ h0.length) {d t : Nat} {s : cm_S} {w : Int64} {n : Int32} (hts : s.1 101 = (t : Int)) (ht : t ≤ 480) : am_all am_thr 3000 (d + 3) 9 [.ref 0, .long w, .int n] (cm_mix 0 41 s h0) = some (.inl (some (.int (am_zb (am_tyv w n t)))), cm_mix 0 41 (if am_tyv w n t = true then tyS w n.toNatClampNeg t s else s) h0, 0, 0) := by
  have k0 := (cm_mix_at (lo := 0) (hi := 41) (a := 0) (s := s) (by omega) (by omega) hh).trans (congrArg some (ty_c0 s))
  have k1 := (cm_mix_at (lo := 0) (hi := 41) (a := 1) (s := s) (by omega) (by omega) hh).trans (congrArg some (ty_c1 s hts))
  by_cases c1 : n < 1
  · rw [show am_tyv w n t = false by unfold am_tyv; rw [decide_eq_true c1]; rfl, show am_zb false = 0 from rfl, if_neg (show ¬ false = true by decide)]
    refine am_in_go (by rw [am_FTyp.2.1]; exact Nat.le_of_ble_eq_true rfl) ?_
    refine am_x1 am_FTyp am_qTyp_0 rfl ?_
    refine am_x1 am_FTyp am_qTyp_1 rfl ?_
    refine am_xi am_qTyp_2 (b := true) (t := 26) (decide_eq_true c1) (by decide) ?_
    refine am_x1 am_FTyp am_qTyp_26 rfl ?_
    exact am_xr am_qTyp_27 (by decide)
  · by_cases c2 : 8 < n
    · rw [show am_tyv w n t = false by unfold am_tyv; rw [decide_eq_true c2, Bool.not_true, Bool.false_and, Bool.and_false], show am_zb false = 0 from rfl, if_neg (show ¬ false = true by decide)]
      refine am_in_go (by rw [am_FTyp.2.1]; exact Nat.le_of_ble_eq_true rfl) ?_
      refine am_x1 am_FTyp am_qTyp_0 rfl ?_
      refine am_x1 am_FTyp am_qTyp_1 rfl ?_
      refine am_xi am_qTyp_2 (b := false) (t := 26) (decide_eq_false c1) (by decide) ?_
      refine am_x1 am_FTyp am_qTyp_5 rfl ?_
      refine am_x1 am_FTyp am_qTyp_6 rfl ?_
      refine am_xi am_qTyp_8 (b := true) (t := 26) (am_b am_b8 (decide_eq_true c2)) (by decide) ?_
      refine am_x1 am_FTyp am_qTyp_26 rfl ?_
      exact am_xr am_qTyp_27 (by decide)
    · by_cases c3 : Int32.ofNat t + n ≤ 480
      · obtain ⟨k, hk, rfl⟩ := am_n18 c1 c2
        have e3 := am_t481 t (by omega) k hk c3
        obtain ⟨e4, e5⟩ := am_n8 k hk
        by_cases c4 : am_ok8 w (k + 1) = true
        · rw [show am_tyv w (Int32.ofNat (k + 1)) t = true by unfold am_tyv; rw [e5, c4, decide_eq_false c1, decide_eq_false c2, decide_eq_true c3]; rfl, show am_zb true = 1 from rfl]
          rw [if_pos rfl, e5]
          have hg := am_pl2 hh (d := d) (w := w) (n := Int32.ofNat (k + 1)) (k + 1) s t (by omega) hts e3 c4
          refine am_in_go (by rw [am_FTyp.2.1]; exact Nat.le_of_ble_eq_true rfl) ?_
          refine am_go_le (K := 15 * (k + 1) + 4 + 4 + 14 * (k + 1) + 2 + 17) (by omega) ?_
          refine am_x1 am_FTyp am_qTyp_0 rfl ?_
          refine am_x1 am_FTyp am_qTyp_1 rfl ?_
          refine am_xi am_qTyp_2 (b := false) (t := 26) (decide_eq_false c1) (by decide) ?_
          refine am_x1 am_FTyp am_qTyp_5 rfl ?_
          refine am_x1 am_FTyp am_qTyp_6 rfl ?_
          refine am_xi am_qTyp_8 (b := false) (t := 26) (am_b am_b8 (decide_eq_false c2)) (by decide) ?_
          refine am_x1 am_FTyp am_qTyp_11 rfl ?_
          refine am_xg am_FTyp am_qTyp_12 am_qf0_10 k0 rfl ?_
          refine am_xg am_FTyp am_qTyp_15 am_qf0_74 k1 rfl ?_
          refine am_x1 am_FTyp am_qTyp_18 rfl ?_
          refine am_x1 am_FTyp am_qTyp_19 rfl ?_
          refine am_x1 am_FTyp am_qTyp_20 rfl ?_
          refine am_xi am_qTyp_23 (b := true) (t := 28) (am_b am_s480 (decide_eq_true c3)) (by decide) ?_
          refine am_x1 am_FTyp am_qTyp_28 rfl ?_
          refine am_x1 am_FTyp am_qTyp_29 rfl ?_
          refine am_x1 am_FTyp am_qTyp_30 rfl ?_
          refine am_x1 am_FTyp am_qTyp_31 rfl ?_
          show am_go 9 3000 (d + 2) _ 33 (am_lvT (Int32.ofNat (k + 1) - Int32.ofInt 1) 0 w (Int32.ofNat (k + 1))) [] _ _
          rw [e4]
          refine am_vl1 (K := 15 * (k + 1) + 4 + 4) ?_ (k + 1) (by omega) c4
          refine am_x1 am_FTyp am_qTyp_64 rfl ?_
          refine am_x1 am_FTyp am_qTyp_65 rfl ?_
          refine am_x1 am_FTyp am_qTyp_66 rfl ?_
          refine am_x1 am_FTyp am_qTyp_67 rfl ?_
          show am_go 9 3000 (d + 2) _ 69 (am_lvT (Int32.ofNat (k + 1) - Int32.ofInt 1) 0 w (Int32.ofNat (k + 1))) [] _ _
          rw [e4]
          exact hg
        · rw [Bool.not_eq_true] at c4
          rw [show am_tyv w (Int32.ofNat (k + 1)) t = false by unfold am_tyv; rw [e5, c4, Bool.and_false, Bool.and_false, Bool.and_false], show am_zb false = 0 from rfl, if_neg (show ¬ false = true by decide)]
          refine am_in_go (by rw [am_FTyp.2.1]; exact Nat.le_of_ble_eq_true rfl) ?_
          refine am_go_le (K := 14 * (k + 1) + 2 + 17) (by omega) ?_
          refine am_x1 am_FTyp am_qTyp_0 rfl ?_
          refine am_x1 am_FTyp am_qTyp_1 rfl ?_
          refine am_xi am_qTyp_2 (b := false) (t := 26) (decide_eq_false c1) (by decide) ?_
          refine am_x1 am_FTyp am_qTyp_5 rfl ?_
          refine am_x1 am_FTyp am_qTyp_6 rfl ?_
          refine am_xi am_qTyp_8 (b := false) (t := 26) (am_b am_b8 (decide_eq_false c2)) (by decide) ?_
          refine am_x1 am_FTyp am_qTyp_11 rfl ?_
          refine am_xg am_FTyp am_qTyp_12 am_qf0_10 k0 rfl ?_
          refine am_xg am_FTyp am_qTyp_15 am_qf0_74 k1 rfl ?_
          refine am_x1 am_FTyp am_qTyp_18 rfl ?_
          refine am_x1 am_FTyp am_qTyp_19 rfl ?_
          refine am_x1 am_FTyp am_qTyp_20 rfl ?_
          refine am_xi am_qTyp_23 (b := true) (t := 28) (am_b am_s480 (decide_eq_true c3)) (by decide) ?_
          refine am_x1 am_FTyp am_qTyp_28 rfl ?_
          refine am_x1 am_FTyp am_qTyp_29 rfl ?_
          refine am_x1 am_FTyp am_qTyp_30 rfl ?_
          refine am_x1 am_FTyp am_qTyp_31 rfl ?_
          show am_go 9 3000 (d + 2) _ 33 (am_lvT (Int32.ofNat (k + 1) - Int32.ofInt 1) 0 w (Int32.ofNat (k + 1))) [] _ _
          rw [e4]
          exact am_vl0 (k + 1) (by omega) c4
      · rw [show am_tyv w n t = false by unfold am_tyv; rw [decide_eq_false c3, Bool.false_and, Bool.and_false, Bool.and_false], show am_zb false = 0 from rfl, if_neg (show ¬ false = true by decide)]
        refine am_in_go (by rw [am_FTyp.2.1]; exact Nat.le_of_ble_eq_true rfl) ?_
        refine am_x1 am_FTyp am_qTyp_0 rfl ?_
        refine am_x1 am_FTyp am_qTyp_1 rfl ?_
        refine am_xi am_qTyp_2 (b := false) (t := 26) (decide_eq_false c1) (by decide) ?_
        refine am_x1 am_FTyp am_qTyp_5 rfl ?_
        refine am_x1 am_FTyp am_qTyp_6 rfl ?_
        refine am_xi am_qTyp_8 (b := false) (t := 26) (am_b am_b8 (decide_eq_false c2)) (by decide) ?_
        refine am_x1 am_FTyp am_qTyp_11 rfl ?_
        refine am_xg am_FTyp am_qTyp_12 am_qf0_10 k0 rfl ?_
        refine am_xg am_FTyp am_qTyp_15 am_qf0_74 k1 rfl ?_
        refine am_x1 am_FTyp am_qTyp_18 rfl ?_
        refine am_x1 am_FTyp am_qTyp_19 rfl ?_
        refine am_x1 am_FTyp am_qTyp_20 rfl ?_
        refine am_xi am_qTyp_23 (b := false) (t := 28) (am_b am_s480 (decide_eq_false c3)) (by decide) ?_
        refine am_x1 am_FTyp am_qTyp_26 rfl ?_
        exact am_xr am_qTyp_27 (by decide)

end TY
section TYR
variable {h0 : List va_E}
abbrev ty_f (r : cm_S) : List Value := (List.range 55).map (cm_fv r 41)
theorem ty_r41 (r : cm_S) : cm_cell r 41 = .inr (9, ty_f r) := rfl
theorem ty_r45 (r : cm_S) : cm_cell r 45 = .inl (3, 480, .inl fun i => Int32.ofInt (r.2 45 (i : Int))) := rfl
theorem ty_f6 {r : cm_S} {t : Nat} (ht : r.1 4106 = (t : Int)) : (ty_f r)[6]? = some (.int (Int32.ofNat t)) := by
  have e : (ty_f r)[6]? = some (.int (Int32.ofInt (r.1 4106))) := rfl
  rw [e, ht]
  rfl
theorem ty_rset (hh : 72 ≤ h0.length) {r : cm_S} {j : Nat} {z : Int} (hk : cm_fk 9 j = 0) : (cm_mix 41 72 r h0).set 41 (.inr (9, (ty_f r).set j (.int (Int32.ofInt z)))) = cm_mix 41 72 (cm_p r (100 * 41 + j) z) h0 := by
  have hj : j < cm_nf (cm_cl 41) := cm_fk_nf (c := 9) (by omega)
  have hn := cm_nf_le (cm_cl 41)
  refine cm_mix_set (by omega) (by omega) hh ?_ (fun b hb => cm_cell_pb (a := 41) (j := j) (by omega) hb)
  refine cm_cell_p (a := 41) (by decide) hj ?_
  unfold cm_fv
  rw [if_pos (show cm_fk (cm_cl 41) j = 0 from hk)]
  show Value.int (Int32.ofInt (if 100 * 41 + j = 100 * 41 + j then z else _)) = _
  rw [if_pos rfl]
theorem am_mpl2 (hh : 72 ≤ h0.length) {d : Nat} {w : Int64} {n : Int32} : ∀ (j : Nat) (r : cm_S) (t : Nat), j ≤ 8 → r.1 4106 = (t : Int) → t + j ≤ 480 → am_ok8 w j = true → ∀ c, am_go 172 3000 (d + 1) (25 * j + 4) 89 (am_lvM (am_lc j) c 41 w n) [] (cm_mix 41 72 r h0) (some (.inl (some (.int 1)), cm_mix 41 72 (tyR w j t r) h0, 0, 0)) := by
  intro j
  induction j with
  | zero =>
    intro r t _ ht hl hok c
    refine am_x1 am_FMTyp am_qMTyp_89 rfl ?_
    refine am_xz am_qMTyp_91 (b := true) (t := 132) am_lc_lt0 (by decide) ?_
    refine am_x1 am_FMTyp am_qMTyp_132 rfl ?_
    exact am_xr am_qMTyp_133 (by decide)
  | succ j ih =>
    intro r t hj ht hl hok c
    have e := am_lc_dec j (by omega)
    obtain ⟨q1, q2, q3, q4, q5⟩ := am_t480 t (by omega)
    have hok2 : am_ty (am_cb w (am_lc (j + 1))) = true ∧ am_ok8 w j = true := by
      unfold am_ok8 at hok
      rwa [Bool.and_eq_true] at hok
    have k0 := (cm_mix_at (lo := 41) (hi := 72) (a := 41) (s := r) (by omega) (by omega) hh).trans (congrArg some (ty_r41 r))
    have k2 := (cm_mix_at (lo := 41) (hi := 72) (a := 45) (s := r) (by omega) (by omega) hh).trans (congrArg some (ty_r45 r))
    have f4 : (ty_f r)[4]? = some (.ref 45) := rfl
    have f6 := ty_f6 ht
    obtain ⟨c1, c2⟩ := am_ty_in hok2.1
    have hg := ih (cm_p (cm_q r 45 (t : Int) (am_cb w (am_lc (j + 1))).toInt) 4106 ((t + 1 : Nat) : Int)) (t + 1) (by omega) rfl (by omega) hok2.2 c
    have n1 : (45 : Nat) ≠ 41 := by decide
    have eb : vp_nar .byte (am_mb w (am_lc (j + 1))).toInt8.toInt32 = Int32.ofInt (am_cb w (am_lc (j + 1))).toInt := by
      rw [am_cb_mb w (by omega)]
      have e0 : am_cb w (am_lc (j + 1)) = Int32.ofInt (am_cb w (am_lc (j + 1))).toInt := (Int32.ofInt_toInt _).symm
      have e1 : (am_cb w (am_lc (j + 1))).toInt8.toInt32 = Int32.ofInt (am_cb w (am_lc (j + 1))).toInt := by
        have := cm_i2b_id (z := (am_cb w (am_lc (j + 1))).toInt) ⟨by omega, by omega⟩
        rw [← e0] at this
        rw [this]
        exact e0
      rw [e1]
      exact cm_nar_y ⟨by omega, by omega⟩
    have g1 : (cm_mix 41 72 r h0).set 45 (.inl (3, 480, .inl (upd (fun i => Int32.ofInt (r.2 45 (i : Int))) (Int32.ofNat t).toNatClampNeg (vp_nar .byte (am_mb w (am_lc (j + 1))).toInt8.toInt32)))) = cm_mix 41 72 (cm_q r 45 (t : Int) (am_cb w (am_lc (j + 1))).toInt) h0 := by
      rw [eb, q4]
      exact cm_mix_set (by omega) (by omega) hh (cm_cell_q (s := r) (a := 45) (j := (t : Int)) (by decide) (by omega)) (fun b hb => cm_cell_qb hb)
    have g2 : (cm_mix 41 72 (cm_q r 45 (t : Int) (am_cb w (am_lc (j + 1))).toInt) h0).set 41 (.inr (9, (ty_f r).set 6 (.int (Int32.ofNat t + Int32.ofInt 1)))) = cm_mix 41 72 (cm_p (cm_q r 45 (t : Int) (am_cb w (am_lc (j + 1))).toInt) 4106 ((t + 1 : Nat) : Int)) h0 := by
      rw [q5]
      exact ty_rset hh (r := cm_q r 45 (t : Int) (am_cb w (am_lc (j + 1))).toInt) (j := 6) (z := ((t + 1 : Nat) : Int)) (by decide)
    have k0' := (cm_mix_at (lo := 41) (hi := 72) (a := 41) (s := cm_q r 45 (t : Int) (am_cb w (am_lc (j + 1))).toInt) (by omega) (by omega) hh).trans (congrArg some (ty_r41 (cm_q r 45 (t : Int) (am_cb w (am_lc (j + 1))).toInt)))
    refine am_go_le (K := 25 * j + 4 + 25) (by omega) ?_
    refine am_x1 am_FMTyp am_qMTyp_89 rfl ?_
    refine am_xz am_qMTyp_91 (b := false) (t := 132) (am_lc_lt j (by omega)) (by decide) ?_
    refine am_x1 am_FMTyp am_qMTyp_94 rfl ?_
    refine am_xg am_FMTyp am_qMTyp_95 am_qf9_80 k0 f4 ?_
    refine am_x1 am_FMTyp am_qMTyp_98 rfl ?_
    refine am_xg am_FMTyp am_qMTyp_99 am_qf9_170 k0 f6 ?_
    refine am_x1 am_FMTyp am_qMTyp_102 rfl ?_
    refine am_x1 am_FMTyp am_qMTyp_103 rfl ?_
    refine am_x1 am_FMTyp am_qMTyp_105 rfl ?_
    refine am_x1 am_FMTyp am_qMTyp_107 rfl ?_
    refine am_x1 am_FMTyp am_qMTyp_108 rfl ?_
    refine am_xk am_FMTyp am_qMTyp_109 am_kl9 ?_
    refine am_x1 am_FMTyp am_qMTyp_112 rfl ?_
    refine am_x1 am_FMTyp am_qMTyp_113 rfl ?_
    refine am_x1 am_FMTyp am_qMTyp_114 rfl ?_
    refine am_xba (z := (am_mb w (am_lc (j + 1))).toInt8.toInt32) am_qMTyp_115 k2 q3 ?_
    rw [g1]
    refine am_x1 am_FMTyp am_qMTyp_116 rfl ?_
    refine am_x1 am_FMTyp am_qMTyp_117 rfl ?_
    refine am_xg am_FMTyp am_qMTyp_118 am_qf9_170 k0' f6 ?_
    refine am_x1 am_FMTyp am_qMTyp_121 rfl ?_
    refine am_x1 am_FMTyp am_qMTyp_122 rfl ?_
    refine am_xp am_FMTyp am_qMTyp_123 am_qf9_170 k0' (List.getElem?_eq_some_iff.mp f6).1 (am_wi _) ?_
    rw [show ty_f (cm_q r 45 (t : Int) (am_cb w (am_lc (j + 1))).toInt) = ty_f r from rfl, g2]
    refine am_x1 am_FMTyp am_qMTyp_126 rfl ?_
    refine am_xj am_qMTyp_129 (t := 89) (by decide) ?_
    show am_go 172 3000 (d + 1) _ 89 (am_lvM (am_lc (j + 1) + Int32.ofInt (-1)) c 41 w n) [] _ _
    rw [e]
    exact am_go_le (by omega) hg


theorem am_rMTyp2 (hh : 72 ≤ h0.length) {d t : Nat} {r : cm_S} {w : Int64} {n : Int32} (hts : r.1 4106 = (t : Int)) (ht : t ≤ 480) : am_all am_thr 3000 (d + 2) 172 [.ref 41, .long w, .int n] (cm_mix 41 72 r h0) = some (.inl (some (.int (am_zb (am_tyv w n t)))), cm_mix 41 72 (if am_tyv w n t = true then tyR w n.toNatClampNeg t (cm_p r 4103 0) else cm_p r 4103 0) h0, 0, 0) := by
  have k0 := (cm_mix_at (lo := 41) (hi := 72) (a := 41) (s := r) (by omega) (by omega) hh).trans (congrArg some (ty_r41 r))
  have g3 : (cm_mix 41 72 r h0).set 41 (.inr (9, (ty_f r).set 3 (.int (Int32.ofInt 0)))) = cm_mix 41 72 (cm_p r 4103 0) h0 := ty_rset hh (j := 3) (by decide)
  have g0 := (cm_mix_at (lo := 41) (hi := 72) (a := 41) (s := cm_p r 4103 0) (by omega) (by omega) hh).trans (congrArg some (ty_r41 (cm_p r 4103 0)))
  have g6 : (ty_f (cm_p r 4103 0))[6]? = some (.int (Int32.ofNat t)) := ty_f6 hts
  by_cases c1 : n < 1
  · rw [show am_tyv w n t = false by unfold am_tyv; rw [decide_eq_true c1]; rfl, show am_zb false = 0 from rfl, if_neg (show ¬ false = true by decide)]
    refine am_in_go (by rw [am_FMTyp.2.1]; exact Nat.le_of_ble_eq_true rfl) ?_
    refine am_x1 am_FMTyp am_qMTyp_0 rfl ?_
    refine am_x1 am_FMTyp am_qMTyp_1 rfl ?_
    refine am_xp am_FMTyp am_qMTyp_2 am_qf9_167 k0 (show 3 < 55 by decide) rfl ?_
    rw [g3]
    refine am_x1 am_FMTyp am_qMTyp_5 rfl ?_
    refine am_x1 am_FMTyp am_qMTyp_6 rfl ?_
    refine am_xi am_qMTyp_7 (b := true) (t := 28) (decide_eq_true c1) (by decide) ?_
    refine am_x1 am_FMTyp am_qMTyp_28 rfl ?_
    exact am_xr am_qMTyp_29 (by decide)
  · by_cases c2 : 8 < n
    · rw [show am_tyv w n t = false by unfold am_tyv; rw [decide_eq_true c2, Bool.not_true, Bool.false_and, Bool.and_false], show am_zb false = 0 from rfl, if_neg (show ¬ false = true by decide)]
      refine am_in_go (by rw [am_FMTyp.2.1]; exact Nat.le_of_ble_eq_true rfl) ?_
      refine am_x1 am_FMTyp am_qMTyp_0 rfl ?_
      refine am_x1 am_FMTyp am_qMTyp_1 rfl ?_
      refine am_xp am_FMTyp am_qMTyp_2 am_qf9_167 k0 (show 3 < 55 by decide) rfl ?_
      rw [g3]
      refine am_x1 am_FMTyp am_qMTyp_5 rfl ?_
      refine am_x1 am_FMTyp am_qMTyp_6 rfl ?_
      refine am_xi am_qMTyp_7 (b := false) (t := 28) (decide_eq_false c1) (by decide) ?_
      refine am_x1 am_FMTyp am_qMTyp_10 rfl ?_
      refine am_x1 am_FMTyp am_qMTyp_11 rfl ?_
      refine am_xi am_qMTyp_13 (b := true) (t := 28) (am_b am_b8 (decide_eq_true c2)) (by decide) ?_
      refine am_x1 am_FMTyp am_qMTyp_28 rfl ?_
      exact am_xr am_qMTyp_29 (by decide)
    · by_cases c3 : Int32.ofNat t + n ≤ 480
      · obtain ⟨k, hk, rfl⟩ := am_n18 c1 c2
        have e3 := am_t481 t (by omega) k hk c3
        obtain ⟨e4, e5⟩ := am_n8 k hk
        by_cases c4 : am_ok8 w (k + 1) = true
        · rw [show am_tyv w (Int32.ofNat (k + 1)) t = true by unfold am_tyv; rw [e5, c4, decide_eq_false c1, decide_eq_false c2, decide_eq_true c3]; rfl, show am_zb true = 1 from rfl]
          have hok2 : am_ty (am_cb w (am_lc (k + 1))) = true ∧ am_ok8 w k = true := by
            have := c4
            unfold am_ok8 at this
            rwa [Bool.and_eq_true] at this
          rw [if_pos rfl, e5]
          have hg := am_mpl2 hh (d := d) (w := w) (n := Int32.ofNat (k + 1)) (k + 1) (cm_p r 4103 0) t (by omega) hts e3 c4
          refine am_in_go (by rw [am_FMTyp.2.1]; exact Nat.le_of_ble_eq_true rfl) ?_
          refine am_go_le (K := 25 * (k + 1) + 4 + 4 + 22 * k + 2 + 22 + 20) (by omega) ?_
          refine am_x1 am_FMTyp am_qMTyp_0 rfl ?_
          refine am_x1 am_FMTyp am_qMTyp_1 rfl ?_
          refine am_xp am_FMTyp am_qMTyp_2 am_qf9_167 k0 (show 3 < 55 by decide) rfl ?_
          rw [g3]
          refine am_x1 am_FMTyp am_qMTyp_5 rfl ?_
          refine am_x1 am_FMTyp am_qMTyp_6 rfl ?_
          refine am_xi am_qMTyp_7 (b := false) (t := 28) (decide_eq_false c1) (by decide) ?_
          refine am_x1 am_FMTyp am_qMTyp_10 rfl ?_
          refine am_x1 am_FMTyp am_qMTyp_11 rfl ?_
          refine am_xi am_qMTyp_13 (b := false) (t := 28) (am_b am_b8 (decide_eq_false c2)) (by decide) ?_
          refine am_x1 am_FMTyp am_qMTyp_16 rfl ?_
          refine am_xg am_FMTyp am_qMTyp_17 am_qf9_170 g0 g6 ?_
          refine am_x1 am_FMTyp am_qMTyp_20 rfl ?_
          refine am_x1 am_FMTyp am_qMTyp_21 rfl ?_
          refine am_x1 am_FMTyp am_qMTyp_22 rfl ?_
          refine am_xi am_qMTyp_25 (b := true) (t := 30) (am_b am_s480 (decide_eq_true c3)) (by decide) ?_
          refine am_x1 am_FMTyp am_qMTyp_30 rfl ?_
          refine am_x1 am_FMTyp am_qMTyp_31 rfl ?_
          refine am_x1 am_FMTyp am_qMTyp_32 rfl ?_
          refine am_x1 am_FMTyp am_qMTyp_33 rfl ?_
          show am_go 172 3000 (d + 1) _ 35 (am_lvT (Int32.ofNat (k + 1) - Int32.ofInt 1) 41 w (Int32.ofNat (k + 1))) [] _ _
          rw [e4]
          refine am_go_le (K := 25 * (k + 1) + 4 + 4 + 22 * k + 2 + 22) (by omega) (am_mf_1 hk hok2.1 (am_mvl1 (K := 25 * (k + 1) + 4 + 4) (fun c => ?_) k _ (by omega) hok2.2))
          refine am_x1 am_FMTyp am_qMTyp_84 rfl ?_
          refine am_x1 am_FMTyp am_qMTyp_85 rfl ?_
          refine am_x1 am_FMTyp am_qMTyp_86 rfl ?_
          refine am_x1 am_FMTyp am_qMTyp_87 rfl ?_
          show am_go 172 3000 (d + 1) _ 89 (am_lvM (Int32.ofNat (k + 1) - Int32.ofInt 1) c 41 w (Int32.ofNat (k + 1))) [] _ _
          rw [e4]
          exact hg c
        · rw [Bool.not_eq_true] at c4
          rw [show am_tyv w (Int32.ofNat (k + 1)) t = false by unfold am_tyv; rw [e5, c4, Bool.and_false, Bool.and_false, Bool.and_false], show am_zb false = 0 from rfl, if_neg (show ¬ false = true by decide)]
          refine am_in_go (by rw [am_FMTyp.2.1]; exact Nat.le_of_ble_eq_true rfl) ?_
          refine am_go_le (K := 22 * k + 2 + 22 + 20) (by omega) ?_
          refine am_x1 am_FMTyp am_qMTyp_0 rfl ?_
          refine am_x1 am_FMTyp am_qMTyp_1 rfl ?_
          refine am_xp am_FMTyp am_qMTyp_2 am_qf9_167 k0 (show 3 < 55 by decide) rfl ?_
          rw [g3]
          refine am_x1 am_FMTyp am_qMTyp_5 rfl ?_
          refine am_x1 am_FMTyp am_qMTyp_6 rfl ?_
          refine am_xi am_qMTyp_7 (b := false) (t := 28) (decide_eq_false c1) (by decide) ?_
          refine am_x1 am_FMTyp am_qMTyp_10 rfl ?_
          refine am_x1 am_FMTyp am_qMTyp_11 rfl ?_
          refine am_xi am_qMTyp_13 (b := false) (t := 28) (am_b am_b8 (decide_eq_false c2)) (by decide) ?_
          refine am_x1 am_FMTyp am_qMTyp_16 rfl ?_
          refine am_xg am_FMTyp am_qMTyp_17 am_qf9_170 g0 g6 ?_
          refine am_x1 am_FMTyp am_qMTyp_20 rfl ?_
          refine am_x1 am_FMTyp am_qMTyp_21 rfl ?_
          refine am_x1 am_FMTyp am_qMTyp_22 rfl ?_
          refine am_xi am_qMTyp_25 (b := true) (t := 30) (am_b am_s480 (decide_eq_true c3)) (by decide) ?_
          refine am_x1 am_FMTyp am_qMTyp_30 rfl ?_
          refine am_x1 am_FMTyp am_qMTyp_31 rfl ?_
          refine am_x1 am_FMTyp am_qMTyp_32 rfl ?_
          refine am_x1 am_FMTyp am_qMTyp_33 rfl ?_
          show am_go 172 3000 (d + 1) _ 35 (am_lvT (Int32.ofNat (k + 1) - Int32.ofInt 1) 41 w (Int32.ofNat (k + 1))) [] _ _
          rw [e4]
          by_cases hty : am_ty (am_cb w (am_lc (k + 1))) = true
          · have hok2 : am_ok8 w k = false := by
              have := c4
              unfold am_ok8 at this
              rwa [hty, Bool.true_and] at this
            exact am_go_le (K := 22 * k + 2 + 22) (by omega) (am_mf_1 hk hty (am_mvl0 k _ (by omega) hok2))
          · rw [Bool.not_eq_true] at hty
            exact am_go_le (K := 0 + 22) (by omega) (am_mf_0 hk hty)
      · rw [show am_tyv w n t = false by unfold am_tyv; rw [decide_eq_false c3, Bool.false_and, Bool.and_false, Bool.and_false], show am_zb false = 0 from rfl, if_neg (show ¬ false = true by decide)]
        refine am_in_go (by rw [am_FMTyp.2.1]; exact Nat.le_of_ble_eq_true rfl) ?_
        refine am_x1 am_FMTyp am_qMTyp_0 rfl ?_
        refine am_x1 am_FMTyp am_qMTyp_1 rfl ?_
        refine am_xp am_FMTyp am_qMTyp_2 am_qf9_167 k0 (show 3 < 55 by decide) rfl ?_
        rw [g3]
        refine am_x1 am_FMTyp am_qMTyp_5 rfl ?_
        refine am_x1 am_FMTyp am_qMTyp_6 rfl ?_
        refine am_xi am_qMTyp_7 (b := false) (t := 28) (decide_eq_false c1) (by decide) ?_
        refine am_x1 am_FMTyp am_qMTyp_10 rfl ?_
        refine am_x1 am_FMTyp am_qMTyp_11 rfl ?_
        refine am_xi am_qMTyp_13 (b := false) (t := 28) (am_b am_b8 (decide_eq_false c2)) (by decide) ?_
        refine am_x1 am_FMTyp am_qMTyp_16 rfl ?_
        refine am_xg am_FMTyp am_qMTyp_17 am_qf9_170 g0 g6 ?_
        refine am_x1 am_FMTyp am_qMTyp_20 rfl ?_
        refine am_x1 am_FMTyp am_qMTyp_21 rfl ?_
        refine am_x1 am_FMTyp am_qMTyp_22 rfl ?_
        refine am_xi am_qMTyp_25 (b := false) (t := 30) (am_b am_s480 (decide_eq_false c3)) (by decide) ?_
        refine am_x1 am_FMTyp am_qMTyp_28 rfl ?_
        exact am_xr am_qMTyp_29 (by decide)

end TYR
