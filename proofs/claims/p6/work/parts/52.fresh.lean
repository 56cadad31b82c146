/-! ===== runs on a tree of no node, a printed text of no character ===== -/
theorem am_b {c : ClassFile.Cond} {x z z2 : Int32} {b : Bool} (hz : z2 = z) (h : am_c c x z = b) : am_c c x z2 = b := by rw [hz]; exact h
theorem am_rMny0 {d x a6 : Nat} {h : List va_E} {f0 ft : List Value} {a : Int32} (h0 : h[x]? = some (.inr (0, f0))) (hf : f0[6]? = some (.ref a6)) (h6 : h[a6]? = some (.inr (6, ft))) (hs : ft[8]? = some (.int 0)) : am_all am_thr 3000 (d + 1) 14 [.ref x, .int a] h = some (.inl (some (.int 0)), h, 0, 0) := by
  refine am_in_go (by rw [am_FMny.2.1]; exact Nat.le_of_ble_eq_true rfl) ?_
  refine am_x1 am_FMny am_qMny_0 rfl ?_
  refine am_x1 am_FMny am_qMny_1 rfl ?_
  refine am_x1 am_FMny am_qMny_2 rfl ?_
  refine am_x1 am_FMny am_qMny_3 rfl ?_
  refine am_x1 am_FMny am_qMny_4 rfl ?_
  refine am_x1 am_FMny am_qMny_5 rfl ?_
  refine am_xg am_FMny am_qMny_6 am_qf0_49 h0 hf ?_
  refine am_xg am_FMny am_qMny_9 am_qf0_111 h6 hs ?_
  refine am_xi am_qMny_12 (b := true) (t := 36) (by decide) (by decide) ?_
  refine am_x1 am_FMny am_qMny_36 rfl ?_
  exact am_xr am_qMny_37 rfl

theorem am_rMMny0 {d x : Nat} {h : List va_E} {f0 : List Value} {t a : Int32} (h0 : h[x]? = some (.inr (9, f0))) (ht : f0[3]? = some (.int t)) (hs : f0[43]? = some (.int 0)) : am_all am_thr 3000 (d + 1) 298 [.ref x, .int a] h = some (.inl (some (.int 0)), h.set x (.inr (9, f0.set 3 (.int 0))), 0, 0) := by
  refine am_in_go (by rw [am_FMMny.2.1]; exact Nat.le_of_ble_eq_true rfl) ?_
  refine am_x1 am_FMMny am_qMMny_0 rfl ?_
  refine am_x1 am_FMMny am_qMMny_1 rfl ?_
  refine am_xp am_FMMny am_qMMny_2 am_qf9_167 h0 (List.getElem?_eq_some_iff.mp ht).1 rfl ?_
  refine am_x1 am_FMMny am_qMMny_5 rfl ?_
  refine am_x1 am_FMMny am_qMMny_6 rfl ?_
  refine am_x1 am_FMMny am_qMMny_7 rfl ?_
  refine am_x1 am_FMMny am_qMMny_8 rfl ?_
  refine am_x1 am_FMMny am_qMMny_9 rfl ?_
  refine am_x1 am_FMMny am_qMMny_10 rfl ?_
  refine am_xg am_FMMny am_qMMny_11 am_qf9_623 (am_at_set h0) (am_f_other hs (by decide)) ?_
  refine am_xi am_qMMny_14 (b := true) (t := 44) (by decide) (by decide) ?_
  refine am_x1 am_FMMny am_qMMny_44 rfl ?_
  exact am_xr am_qMMny_45 rfl

def am_pv0 (a : Int32) : Int32 := if a = -1 then 0 else -1
theorem am_lt_c {a : Int32} (h : a < 0) : am_c .lt a 0 = true := decide_eq_true h
theorem am_lt_n {a : Int32} (h : ¬ a < 0) : am_c .lt a 0 = false := decide_eq_false h
theorem am_ge_c {a : Int32} (h : ¬ a < 0) : am_c .ge a 0 = true := decide_eq_true (Int32.not_lt.mp h)
theorem am_ne_f {a b : Int32} (h : a = b) : am_c .ne a b = false := decide_eq_false (fun z => z h)
theorem am_rpAt0 {d x : Nat} {h : List va_E} {f0 : List Value} {a : Int32} (h0 : h[x]? = some (.inr (8, f0))) (hf : f0[6]? = some (.int 0)) : am_all am_thr 3000 (d + 1) 18 [.ref x, .int a] h = some (.inl (some (.int (-1))), h, 0, 0) := by
  refine am_in_go (by rw [am_FpAt.2.1]; exact Nat.le_of_ble_eq_true rfl) ?_
  by_cases hn : a < 0
  · refine am_x1 am_FpAt am_qpAt_0 rfl ?_
    refine am_xz am_qpAt_1 (b := true) (t := 19) (am_lt_c hn) (by decide) ?_
    refine am_x1 am_FpAt am_qpAt_19 rfl ?_
    refine am_xj am_qpAt_20 (t := 29) (by decide) ?_
    exact am_xr am_qpAt_29 rfl
  · refine am_x1 am_FpAt am_qpAt_0 rfl ?_
    refine am_xz am_qpAt_1 (b := false) (t := 19) (am_lt_n hn) (by decide) ?_
    refine am_x1 am_FpAt am_qpAt_4 rfl ?_
    refine am_x1 am_FpAt am_qpAt_5 rfl ?_
    refine am_xg am_FpAt am_qpAt_6 am_qf8_30 h0 hf ?_
    refine am_xi am_qpAt_9 (b := true) (t := 19) (am_ge_c hn) (by decide) ?_
    refine am_x1 am_FpAt am_qpAt_19 rfl ?_
    refine am_xj am_qpAt_20 (t := 29) (by decide) ?_
    exact am_xr am_qpAt_29 rfl

theorem am_rPrt0 {d x a5 : Nat} {h : List va_E} {f0 fp : List Value} {a : Int32} (h0 : h[x]? = some (.inr (0, f0))) (hf : f0[5]? = some (.ref a5)) (h5 : h[a5]? = some (.inr (8, fp))) (hs : fp[6]? = some (.int 0)) : am_all am_thr 3000 (d + 2) 17 [.ref x, .int a] h = some (.inl (some (.int (am_pv0 a))), h, 0, 0) := by
  refine am_in_go (by rw [am_FPrt.2.1]; exact Nat.le_of_ble_eq_true rfl) ?_
  by_cases hn : a = -1
  · rw [show am_pv0 a = 0 from if_pos hn]
    refine am_x1 am_FPrt am_qPrt_0 rfl ?_
    refine am_x1 am_FPrt am_qPrt_1 rfl ?_
    refine am_xi am_qPrt_2 (b := false) (t := 15) (am_ne_f hn) (by decide) ?_
    refine am_x1 am_FPrt am_qPrt_5 rfl ?_
    refine am_xg am_FPrt am_qPrt_6 am_qf0_70 h0 hf ?_
    refine am_xg am_FPrt am_qPrt_9 am_qf0_148 h5 hs ?_
    refine am_xj am_qPrt_12 (t := 23) (by decide) ?_
    exact am_xr am_qPrt_23 rfl
  · rw [show am_pv0 a = -1 from if_neg hn]
    refine am_x1 am_FPrt am_qPrt_0 rfl ?_
    refine am_x1 am_FPrt am_qPrt_1 rfl ?_
    refine am_xi am_qPrt_2 (b := true) (t := 15) (am_ne_t hn) (by decide) ?_
    refine am_x1 am_FPrt am_qPrt_15 rfl ?_
    refine am_xg am_FPrt am_qPrt_16 am_qf0_70 h0 hf ?_
    refine am_x1 am_FPrt am_qPrt_19 rfl ?_
    refine am_xc am_qPrt_20 (w := ([.ref a5, .int a], [])) rfl (by unfold am_rcv; simp only [h5]; rfl) (am_rpAt0 h5 hs) (Nat.le_refl _) ?_
    exact am_xr am_qPrt_23 rfl

theorem am_rMPrt0 {d x : Nat} {h : List va_E} {f0 : List Value} {t a : Int32} (h0 : h[x]? = some (.inr (9, f0))) (ht : f0[3]? = some (.int t)) (hs : f0[48]? = some (.int 0)) : am_all am_thr 3000 (d + 1) 299 [.ref x, .int a] h = some (.inl (some (.int (am_pv0 a))), h.set x (.inr (9, f0.set 3 (.int 0))), 0, 0) := by
  refine am_in_go (by rw [am_FMPrt.2.1]; exact Nat.le_of_ble_eq_true rfl) ?_
  by_cases hn : a = -1
  · rw [show am_pv0 a = 0 from if_pos hn]
    refine am_x1 am_FMPrt am_qMPrt_0 rfl ?_
    refine am_x1 am_FMPrt am_qMPrt_1 rfl ?_
    refine am_xp am_FMPrt am_qMPrt_2 am_qf9_167 h0 (List.getElem?_eq_some_iff.mp ht).1 rfl ?_
    refine am_x1 am_FMPrt am_qMPrt_5 rfl ?_
    refine am_x1 am_FMPrt am_qMPrt_6 rfl ?_
    refine am_xi am_qMPrt_7 (b := false) (t := 17) (am_ne_f hn) (by decide) ?_
    refine am_x1 am_FMPrt am_qMPrt_10 rfl ?_
    refine am_xg am_FMPrt am_qMPrt_11 am_qf9_518 (am_at_set h0) (am_f_other hs (by decide)) ?_
    refine am_xj am_qMPrt_14 (t := 39) (by decide) ?_
    exact am_xr am_qMPrt_39 rfl
  · rw [show am_pv0 a = -1 from if_neg hn]
    by_cases hz : a < 0
    · refine am_x1 am_FMPrt am_qMPrt_0 rfl ?_
      refine am_x1 am_FMPrt am_qMPrt_1 rfl ?_
      refine am_xp am_FMPrt am_qMPrt_2 am_qf9_167 h0 (List.getElem?_eq_some_iff.mp ht).1 rfl ?_
      refine am_x1 am_FMPrt am_qMPrt_5 rfl ?_
      refine am_x1 am_FMPrt am_qMPrt_6 rfl ?_
      refine am_xi am_qMPrt_7 (b := true) (t := 17) (am_ne_t hn) (by decide) ?_
      refine am_x1 am_FMPrt am_qMPrt_17 rfl ?_
      refine am_xz am_qMPrt_18 (b := true) (t := 38) (am_lt_c hz) (by decide) ?_
      refine am_x1 am_FMPrt am_qMPrt_38 rfl ?_
      exact am_xr am_qMPrt_39 rfl
    · refine am_x1 am_FMPrt am_qMPrt_0 rfl ?_
      refine am_x1 am_FMPrt am_qMPrt_1 rfl ?_
      refine am_xp am_FMPrt am_qMPrt_2 am_qf9_167 h0 (List.getElem?_eq_some_iff.mp ht).1 rfl ?_
      refine am_x1 am_FMPrt am_qMPrt_5 rfl ?_
      refine am_x1 am_FMPrt am_qMPrt_6 rfl ?_
      refine am_xi am_qMPrt_7 (b := true) (t := 17) (am_ne_t hn) (by decide) ?_
      refine am_x1 am_FMPrt am_qMPrt_17 rfl ?_
      refine am_xz am_qMPrt_18 (b := false) (t := 38) (am_lt_n hz) (by decide) ?_
      refine am_x1 am_FMPrt am_qMPrt_21 rfl ?_
      refine am_x1 am_FMPrt am_qMPrt_22 rfl ?_
      refine am_xg am_FMPrt am_qMPrt_23 am_qf9_518 (am_at_set h0) (am_f_other hs (by decide)) ?_
      refine am_xi am_qMPrt_26 (b := true) (t := 38) (am_ge_c hz) (by decide) ?_
      refine am_x1 am_FMPrt am_qMPrt_38 rfl ?_
      exact am_xr am_qMPrt_39 rfl

theorem am_lt_f {a : Int32} (h : ¬ a < 0) : am_c .lt a 0 = false := decide_eq_false h
theorem am_rNod0 {d x a6 : Nat} {h : List va_E} {f0 ft : List Value} {a b : Int32} (h0 : h[x]? = some (.inr (0, f0))) (hf : f0[6]? = some (.ref a6)) (h6 : h[a6]? = some (.inr (6, ft))) (hs : ft[8]? = some (.int 0)) : am_all am_thr 3000 (d + 1) 169 [.ref x, .int a, .int b] h = some (.inr 1, h, 1, 6) := by
  refine am_in_go (by rw [am_FNod.2.1]; exact Nat.le_of_ble_eq_true rfl) ?_
  by_cases hn : a < 0
  · refine am_x1 am_FNod am_qNod_0 rfl ?_
    refine am_xz am_qNod_1 (b := true) (t := 15) (am_lt_c hn) (by decide) ?_
    exact am_xt am_qNod_15 (Nat.le_of_ble_eq_true rfl)
  · refine am_x1 am_FNod am_qNod_0 rfl ?_
    refine am_xz am_qNod_1 (b := false) (t := 15) (am_lt_n hn) (by decide) ?_
    refine am_x1 am_FNod am_qNod_4 rfl ?_
    refine am_x1 am_FNod am_qNod_5 rfl ?_
    refine am_xg am_FNod am_qNod_6 am_qf0_49 h0 hf ?_
    refine am_xg am_FNod am_qNod_9 am_qf0_111 h6 hs ?_
    refine am_xi am_qNod_12 (b := false) (t := 25) (am_lt_f hn) (by decide) ?_
    exact am_xt am_qNod_15 (Nat.le_of_ble_eq_true rfl)

theorem am_rMNod0 {d x : Nat} {h : List va_E} {f0 : List Value} {t a b : Int32} (h0 : h[x]? = some (.inr (9, f0))) (ht : f0[3]? = some (.int t)) (hs : f0[43]? = some (.int 0)) : am_all am_thr 3000 (d + 1) 297 [.ref x, .int a, .int b] h = some (.inl (some (.int 0)), h.set x (.inr (9, f0.set 3 (.int 1))), 0, 0) := by
  refine am_in_go (by rw [am_FMNod.2.1]; exact Nat.le_of_ble_eq_true rfl) ?_
  by_cases hn : a < 0
  · refine am_x1 am_FMNod am_qMNod_0 rfl ?_
    refine am_x1 am_FMNod am_qMNod_1 rfl ?_
    refine am_xz am_qMNod_2 (b := true) (t := 22) (am_lt_c hn) (by decide) ?_
    refine am_x1 am_FMNod am_qMNod_22 rfl ?_
    refine am_xj am_qMNod_23 (t := 27) (by decide) ?_
    refine am_xp am_FMNod am_qMNod_27 am_qf9_167 h0 (List.getElem?_eq_some_iff.mp ht).1 rfl ?_
    refine am_x1 am_FMNod am_qMNod_30 rfl ?_
    refine am_xg am_FMNod am_qMNod_31 am_qf9_167 (am_at_set h0) (am_f_set ht) ?_
    refine am_xz am_qMNod_34 (b := false) (t := 41) (by decide) (by decide) ?_
    refine am_x1 am_FMNod am_qMNod_37 rfl ?_
    refine am_xj am_qMNod_38 (t := 52) (by decide) ?_
    exact am_xr am_qMNod_52 rfl
  · refine am_x1 am_FMNod am_qMNod_0 rfl ?_
    refine am_x1 am_FMNod am_qMNod_1 rfl ?_
    refine am_xz am_qMNod_2 (b := false) (t := 22) (am_lt_n hn) (by decide) ?_
    refine am_x1 am_FMNod am_qMNod_5 rfl ?_
    refine am_x1 am_FMNod am_qMNod_6 rfl ?_
    refine am_xg am_FMNod am_qMNod_7 am_qf9_623 h0 hs ?_
    refine am_xi am_qMNod_10 (b := true) (t := 22) (am_ge_c hn) (by decide) ?_
    refine am_x1 am_FMNod am_qMNod_22 rfl ?_
    refine am_xj am_qMNod_23 (t := 27) (by decide) ?_
    refine am_xp am_FMNod am_qMNod_27 am_qf9_167 h0 (List.getElem?_eq_some_iff.mp ht).1 rfl ?_
    refine am_x1 am_FMNod am_qMNod_30 rfl ?_
    refine am_xg am_FMNod am_qMNod_31 am_qf9_167 (am_at_set h0) (am_f_set ht) ?_
    refine am_xz am_qMNod_34 (b := false) (t := 41) (by decide) (by decide) ?_
    refine am_x1 am_FMNod am_qMNod_37 rfl ?_
    refine am_xj am_qMNod_38 (t := 52) (by decide) ?_
    exact am_xr am_qMNod_52 rfl
