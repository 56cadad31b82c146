/-! ===== type: both sides ===== -/
theorem am_pl {d x tp cr : Nat} {w : Int64} {n : Int32} {f0 : List Value} {len : Int32} (hf : f0[0]? = some (.ref tp)) : ∀ (j : Nat) (h : List va_E) (t : Nat) (g : Nat → Int32), j ≤ 8 → h[x]? = some (.inr (0, f0)) → h[tp]? = some (.inr (1, [.ref cr, .int (Int32.ofNat t), .int len])) → h[cr]? = some (.inl (1, 480, .inl g)) → t + j ≤ 480 →
    ∃ h', h'.length = h.length ∧ (∀ i, i ≠ tp → i ≠ cr → h'[i]? = h[i]?) ∧ am_go 9 3000 (d + 2) (15 * j + 4) 69 (am_lvT (am_lc j) x w n) [] h (some (.inl (some (.int 1)), h', 0, 0)) := by
  intro j
  induction j with
  | zero =>
    intro h t g _ h0 h1 h2 ht
    refine ⟨h, rfl, fun _ _ _ => rfl, ?_⟩
    refine am_x1 am_FTyp am_qTyp_69 rfl ?_
    refine am_xz am_qTyp_71 (b := true) (t := 99) am_lc_lt0 (by decide) ?_
    refine am_x1 am_FTyp am_qTyp_99 rfl ?_
    exact am_xr am_qTyp_100 (by decide)
  | succ j ih =>
    intro h t g hj h0 h1 h2 ht
    have e := am_lc_dec j (by omega)
    have n1 : cr ≠ tp := fun z => by rw [z, h1] at h2; cases h2
    have n2 : tp ≠ x := fun z => by rw [z, h0] at h1; cases h1
    have n3 : cr ≠ x := fun z => by rw [z, h0] at h2; cases h2
    obtain ⟨h', hl, hkp, hg⟩ := ih ((h.set cr (.inl (1, 480, .inl (upd g t (vp_nar .char ((am_cb w (am_lc (j + 1))).toUInt32 % 65536).toInt32))))).set tp (.inr (1, [.ref cr, .int (Int32.ofNat (t + 1)), .int len]))) (t + 1) _ (by omega) (am_at_other (am_at_other h0 n3) n2) (am_at_set (am_at_other h1 n1)) (am_at_other (am_at_set h2) (fun z => n1 z.symm)) (by omega)
    refine ⟨h', by rw [hl, List.length_set, List.length_set], fun i i1 i2 => by rw [hkp i i1 i2, List.getElem?_set_ne (fun z => i1 z.symm), List.getElem?_set_ne (fun z => i2 z.symm)], ?_⟩
    refine am_go_le (K := 15 * j + 4 + 15) (by omega) ?_
    refine am_x1 am_FTyp am_qTyp_69 rfl ?_
    refine am_xz am_qTyp_71 (b := false) (t := 99) (am_lc_lt j (by omega)) (by decide) ?_
    refine am_x1 am_FTyp am_qTyp_74 rfl ?_
    refine am_xg am_FTyp am_qTyp_75 am_qf0_10 h0 hf ?_
    refine am_x1 am_FTyp am_qTyp_78 rfl ?_
    refine am_x1 am_FTyp am_qTyp_79 rfl ?_
    refine am_x1 am_FTyp am_qTyp_81 rfl ?_
    refine am_x1 am_FTyp am_qTyp_83 rfl ?_
    refine am_x1 am_FTyp am_qTyp_84 rfl ?_
    refine am_x1 am_FTyp am_qTyp_85 rfl ?_
    refine am_x1 am_FTyp am_qTyp_86 rfl ?_
    refine am_x1 am_FTyp am_qTyp_89 rfl ?_
    refine am_xc am_qTyp_90 (w := ([.ref tp, .int (am_cb w (am_lc (j + 1)))], [])) rfl (by unfold am_rcv; simp only [h1]; rfl) (am_rput h1 h2 (by omega)) (by rw [List.length_set, List.length_set]; exact Nat.le_refl _) ?_
    refine am_x1 am_FTyp am_qTyp_93 rfl ?_
    refine am_xj am_qTyp_96 (t := 69) (by decide) ?_
    show am_go 9 3000 (d + 2) _ 69 (am_lvT (am_lc (j + 1) + Int32.ofInt (-1)) x w n) [] _ _
    rw [e]
    exact hg

def am_tyv (w : Int64) (n : Int32) (t : Nat) : Bool := !decide (n < 1) && (!decide (8 < n) && (decide (Int32.ofNat t + n ≤ 480) && am_ok8 w n.toNatClampNeg))
theorem am_rTyp {d x tp cr t : Nat} {h : List va_E} {f0 : List Value} {g : Nat → Int32} {w : Int64} {n len : Int32} (h0 : h[x]? = some (.inr (0, f0))) (hf : f0[0]? = some (.ref tp)) (h1 : h[tp]? = some (.inr (1, [.ref cr, .int (Int32.ofNat t), .int len]))) (h2 : h[cr]? = some (.inl (1, 480, .inl g))) (ht : t ≤ 480) :
    ∃ h', h'.length = h.length ∧ (∀ i, i ≠ tp → i ≠ cr → h'[i]? = h[i]?) ∧ am_all am_thr 3000 (d + 3) 9 [.ref x, .long w, .int n] h = some (.inl (some (.int (am_zb (am_tyv w n t)))), h', 0, 0) := by
  by_cases c1 : n < 1
  · rw [show am_tyv w n t = false by unfold am_tyv; rw [decide_eq_true c1]; rfl, show am_zb false = 0 from rfl]
    refine ⟨h, rfl, fun _ _ _ => rfl, am_in_go (by rw [am_FTyp.2.1]; exact Nat.le_of_ble_eq_true rfl) ?_⟩
    refine am_x1 am_FTyp am_qTyp_0 rfl ?_
    refine am_x1 am_FTyp am_qTyp_1 rfl ?_
    refine am_xi am_qTyp_2 (b := true) (t := 26) (decide_eq_true c1) (by decide) ?_
    refine am_x1 am_FTyp am_qTyp_26 rfl ?_
    exact am_xr am_qTyp_27 (by decide)
  · by_cases c2 : 8 < n
    · rw [show am_tyv w n t = false by unfold am_tyv; rw [decide_eq_true c2, Bool.not_true, Bool.false_and, Bool.and_false], show am_zb false = 0 from rfl]
      refine ⟨h, rfl, fun _ _ _ => rfl, am_in_go (by rw [am_FTyp.2.1]; exact Nat.le_of_ble_eq_true rfl) ?_⟩
      refine am_x1 am_FTyp am_qTyp_0 rfl ?_
      refine am_x1 am_FTyp am_qTyp_1 rfl ?_
      refine am_xi am_qTyp_2 (b := false) (t := 26) (decide_eq_false c1) (by decide) ?_
      refine am_x1 am_FTyp am_qTyp_5 rfl ?_
      refine am_x1 am_FTyp am_qTyp_6 rfl ?_
      refine am_xi am_qTyp_8 (b := true) (t := 26) (am_b am_b8 (decide_eq_true c2)) (by decide) ?_
      refine am_x1 am_FTyp am_qTyp_26 rfl ?_
      exact am_xr am_qTyp_27 (by decide)
    · by_cases c3 : Int32.ofNat t + n ≤ 480
      · obtain ⟨k, hk, rfl⟩ := am_n18 c1 c2
        have e3 := am_t481 t (by omega) k hk c3
        obtain ⟨e4, e5⟩ := am_n8 k hk
        by_cases c4 : am_ok8 w (k + 1) = true
        · rw [show am_tyv w (Int32.ofNat (k + 1)) t = true by unfold am_tyv; rw [e5, c4, decide_eq_false c1, decide_eq_false c2, decide_eq_true c3]; rfl, show am_zb true = 1 from rfl]
          obtain ⟨h', hl, hkp, hg⟩ := am_pl (d := d) (x := x) (w := w) (n := Int32.ofNat (k + 1)) hf (k + 1) h t g (by omega) h0 h1 h2 e3
          refine ⟨h', hl, hkp, am_in_go (by rw [am_FTyp.2.1]; exact Nat.le_of_ble_eq_true rfl) ?_⟩
          refine am_go_le (K := 15 * (k + 1) + 4 + 4 + 14 * (k + 1) + 2 + 17) (by omega) ?_
          refine am_x1 am_FTyp am_qTyp_0 rfl ?_
          refine am_x1 am_FTyp am_qTyp_1 rfl ?_
          refine am_xi am_qTyp_2 (b := false) (t := 26) (decide_eq_false c1) (by decide) ?_
          refine am_x1 am_FTyp am_qTyp_5 rfl ?_
          refine am_x1 am_FTyp am_qTyp_6 rfl ?_
          refine am_xi am_qTyp_8 (b := false) (t := 26) (am_b am_b8 (decide_eq_false c2)) (by decide) ?_
          refine am_x1 am_FTyp am_qTyp_11 rfl ?_
          refine am_xg am_FTyp am_qTyp_12 am_qf0_10 h0 hf ?_
          refine am_xg am_FTyp am_qTyp_15 am_qf0_74 h1 rfl ?_
          refine am_x1 am_FTyp am_qTyp_18 rfl ?_
          refine am_x1 am_FTyp am_qTyp_19 rfl ?_
          refine am_x1 am_FTyp am_qTyp_20 rfl ?_
          refine am_xi am_qTyp_23 (b := true) (t := 28) (am_b am_s480 (decide_eq_true c3)) (by decide) ?_
          refine am_x1 am_FTyp am_qTyp_28 rfl ?_
          refine am_x1 am_FTyp am_qTyp_29 rfl ?_
          refine am_x1 am_FTyp am_qTyp_30 rfl ?_
          refine am_x1 am_FTyp am_qTyp_31 rfl ?_
          show am_go 9 3000 (d + 2) _ 33 (am_lvT (Int32.ofNat (k + 1) - Int32.ofInt 1) x w (Int32.ofNat (k + 1))) [] h _
          rw [e4]
          refine am_vl1 (K := 15 * (k + 1) + 4 + 4) ?_ (k + 1) (by omega) c4
          refine am_x1 am_FTyp am_qTyp_64 rfl ?_
          refine am_x1 am_FTyp am_qTyp_65 rfl ?_
          refine am_x1 am_FTyp am_qTyp_66 rfl ?_
          refine am_x1 am_FTyp am_qTyp_67 rfl ?_
          show am_go 9 3000 (d + 2) _ 69 (am_lvT (Int32.ofNat (k + 1) - Int32.ofInt 1) x w (Int32.ofNat (k + 1))) [] h _
          rw [e4]
          exact hg
        · rw [Bool.not_eq_true] at c4
          rw [show am_tyv w (Int32.ofNat (k + 1)) t = false by unfold am_tyv; rw [e5, c4, Bool.and_false, Bool.and_false, Bool.and_false], show am_zb false = 0 from rfl]
          refine ⟨h, rfl, fun _ _ _ => rfl, am_in_go (by rw [am_FTyp.2.1]; exact Nat.le_of_ble_eq_true rfl) ?_⟩
          refine am_go_le (K := 14 * (k + 1) + 2 + 17) (by omega) ?_
          refine am_x1 am_FTyp am_qTyp_0 rfl ?_
          refine am_x1 am_FTyp am_qTyp_1 rfl ?_
          refine am_xi am_qTyp_2 (b := false) (t := 26) (decide_eq_false c1) (by decide) ?_
          refine am_x1 am_FTyp am_qTyp_5 rfl ?_
          refine am_x1 am_FTyp am_qTyp_6 rfl ?_
          refine am_xi am_qTyp_8 (b := false) (t := 26) (am_b am_b8 (decide_eq_false c2)) (by decide) ?_
          refine am_x1 am_FTyp am_qTyp_11 rfl ?_
          refine am_xg am_FTyp am_qTyp_12 am_qf0_10 h0 hf ?_
          refine am_xg am_FTyp am_qTyp_15 am_qf0_74 h1 rfl ?_
          refine am_x1 am_FTyp am_qTyp_18 rfl ?_
          refine am_x1 am_FTyp am_qTyp_19 rfl ?_
          refine am_x1 am_FTyp am_qTyp_20 rfl ?_
          refine am_xi am_qTyp_23 (b := true) (t := 28) (am_b am_s480 (decide_eq_true c3)) (by decide) ?_
          refine am_x1 am_FTyp am_qTyp_28 rfl ?_
          refine am_x1 am_FTyp am_qTyp_29 rfl ?_
          refine am_x1 am_FTyp am_qTyp_30 rfl ?_
          refine am_x1 am_FTyp am_qTyp_31 rfl ?_
          show am_go 9 3000 (d + 2) _ 33 (am_lvT (Int32.ofNat (k + 1) - Int32.ofInt 1) x w (Int32.ofNat (k + 1))) [] h _
          rw [e4]
          exact am_vl0 (k + 1) (by omega) c4
      · rw [show am_tyv w n t = false by unfold am_tyv; rw [decide_eq_false c3, Bool.false_and, Bool.and_false, Bool.and_false], show am_zb false = 0 from rfl]
        refine ⟨h, rfl, fun _ _ _ => rfl, am_in_go (by rw [am_FTyp.2.1]; exact Nat.le_of_ble_eq_true rfl) ?_⟩
        refine am_x1 am_FTyp am_qTyp_0 rfl ?_
        refine am_x1 am_FTyp am_qTyp_1 rfl ?_
        refine am_xi am_qTyp_2 (b := false) (t := 26) (decide_eq_false c1) (by decide) ?_
        refine am_x1 am_FTyp am_qTyp_5 rfl ?_
        refine am_x1 am_FTyp am_qTyp_6 rfl ?_
        refine am_xi am_qTyp_8 (b := false) (t := 26) (am_b am_b8 (decide_eq_false c2)) (by decide) ?_
        refine am_x1 am_FTyp am_qTyp_11 rfl ?_
        refine am_xg am_FTyp am_qTyp_12 am_qf0_10 h0 hf ?_
        refine am_xg am_FTyp am_qTyp_15 am_qf0_74 h1 rfl ?_
        refine am_x1 am_FTyp am_qTyp_18 rfl ?_
        refine am_x1 am_FTyp am_qTyp_19 rfl ?_
        refine am_x1 am_FTyp am_qTyp_20 rfl ?_
        refine am_xi am_qTyp_23 (b := false) (t := 28) (am_b am_s480 (decide_eq_false c3)) (by decide) ?_
        refine am_x1 am_FTyp am_qTyp_26 rfl ?_
        exact am_xr am_qTyp_27 (by decide)
