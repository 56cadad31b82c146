/-! ===== while, do, block, empty ===== -/
section TX59
variable {tx : Int → Int} {n : Int}
/-- while ( X ) s -/
theorem U_wh (ht : tOk tx n) {m : Nat} (hx : S_x tx n m) (hSt : S_st tx n m) {s : cm_S} {e : Int} {t : tTk} {cn sc : Int} {W : List (Int × Int)} {d rn : Int} {lf : Bool} {V : List tT} {K : List rTs} {S : List rSg} (hs : cSt tx n s e true t cn sc W) (hm : n - e ≤ m) (hc : t.2.1 = 27) (hd : 0 ≤ d ∧ d < 20) (hK : (K.length : Int) ≤ 20 * d + 20) (hS : (S.length : Int) = W.length ∧ (S.length : Int) ≤ 10 * d) (hcb : 0 ≤ cn ∧ cn ≤ t.2.2.1 + 1) (hrn : 0 ≤ rn ∧ rn + red K ≤ cn) (hD : Dm tx n K (V.length + 1) S) : OI tx n s cn (cm_sem 94 [.inr (.inl 14), .inl (d + 1)] s) (t.2.2.2.1, d + 1, rn, sc, lf, V, (5, 40, 0, 0, 0) :: (7, 0, 0, 0, 0) :: (5, 41, 0, 0, 0) :: (2, 0, 0, 0, 0) :: (3, 8, t.2.2.1, 0, V.length) :: (4, 0, 0, 0, 0) :: K, S) (PoU tx n t.2.2.1 cn rn d V K S W) := by
  have e0 := hs.e0
  have num := lxG_r4 ht e0.1 e0.2 hs.lx
  have hr0 := red_0 K
  obtain ⟨a1, a2⟩ := tok_l ht e0.1 e0.2 hs.lx (w := 27) (by decide) (by decide) hc
  have a3 : wl 27 = 5 := by decide
  unfold OI
  rw [cS_94, cF_94_0]
  refine X_first ht hs hcb.1 (by omega) (Int.le_refl _) (fun hN' => dm_5 ht (m := V.length) _ _ _ _ _ _ (by omega) (by omega) hN' rfl (by simp only [red_co]; simp; omega) (by simp only [List.length_cons]; omega)) fun t1 s1 hT1 k1 b1 n1' st1 => ?_
  have e01 := st1.e0
  have num1 := lxG_r4 ht e01.1 e01.2 st1.lx
  refine OX_bv (S_co_of (a := 0) ht hx (d := d + 1) (rn := rn) (lf := lf) (V := V) (K := (2, 0, 0, 0, 0) :: (3, 8, t.2.2.1, 0, V.length) :: (4, 0, 0, 0, 0) :: K) (S := S) st1 (by omega) n1' ⟨by omega, by omega, by simp only [List.length_cons]; omega, hS.1, by omega, by omega, by omega, hrn.1, by simp only [red_co]; simp; omega⟩ (dm_20 ht)) (Int.le_refl _) fun s2 c2 f2 k2 q2 => ?_
  obtain ⟨e2, t2, sc2, lf2, T2, st2, rfl, n2', sz2, g2, x2, w2⟩ := q2
  have tz2 := tSz_1 T2
  have e02 := st2.e0
  have num2 := lxG_r4 ht e02.1 e02.2 st2.lx
  refine OX_bi (hSt s2 e2 false t2 (cn + 1 + tSz T2) sc2 W (d + 1) (rn + tSz T2) 0 lf2 (T2 :: V) ((3, 8, t.2.2.1, 0, V.length) :: (4, 0, 0, 0, 0) :: K) S st2 (by omega) (Or.inl rfl) ⟨by omega, by omega, by simp only [List.length_cons]; omega, hS.1, by omega, by omega, by omega, by omega, by simp only [red_co]; simp; omega⟩ (dm_red (dm_lv hD) (by simp only [List.length_cons]; omega))) (by omega) fun v3 s3 c3 f3 k3 q3 => ?_
  obtain ⟨e3, t3, sc3, lf3, T3, st3, rfl, tr3, nx3, lt3, sz3, g3, x3, w3⟩ := q3
  have tz3 := tSz_1 T3
  have e03 := st3.e0
  have num3 := lxG_r4 ht e03.1 e03.2 st3.lx
  have dl3 := dl_01 t3
  refine X_add st3 (by omega) (cNo_fr n2' k3 (Int.le_refl _)) tr3 nx3 (Int.le_refl _) fun s4 k4 b4 n4' st4 => ?_
  have wa : fWt 8 0 0 (fo ([] ++ [T2])) ≤ 0 + (2 * (e2 - t1.2.2.1) - 4) := fWt_c0 (a := []) (tWn_0 (Or.inl (by decide))) (by omega) (by decide)
  have wa' : fWt 8 0 0 (fo ([] ++ [T2])) = fWt 8 0 0 (fo [T2]) := rfl
  have wb : fWt 8 0 0 (fo ([T2] ++ [T3])) ≤ fWt 8 0 0 (fo [T2]) + (2 * (t3.2.2.1 - t2.2.2.1) + dl t3) := fWt_c0 (a := [T2]) (tWn_0 (Or.inl (by decide))) w3 (by decide)
  have eS3 : fSz (fo ([] ++ [T2] ++ [T3])) = tSz T2 + tSz T3 := by rw [fSz_fo]; show fSz (fo [T2]) + tSz T3 = _; rw [fSz_1]
  refine OX_to (t_red (Vc := [T3, T2]) rfl (by omega) (by simp only [List.length_cons]; omega) 0) (OX_reti ⟨cn, rfl, ?_⟩)
  have := U_ns (tx := tx) (n := n) (s := s4) (e := e3) (b := t.2.2.1) (cn := cn) (rn := rn) (d := d) (sc := sc3) (k := 8) (p := t.2.2.1) (l := 0) (code := 0) (v := cn) (t := t3) (lf := lf3) (V := V) (K := K) (S := S) (W := W) (L := [] ++ [T2] ++ [T3]) (by rw [eS3, show cn + (1 + (tSz T2 + tSz T3)) = cn + 1 + tSz T2 + tSz T3 by omega]; exact st4) (by rw [eS3, show cn + (1 + (tSz T2 + tSz T3)) = cn + 1 + tSz T2 + tSz T3 by omega]; exact n4') (by unfold isS; omega) (by decide) (by omega) (by omega) (gG_mk (gT_no (by simp) (by show 0 ≤ t.2.2.1; omega) (by show t.2.2.1 ≤ n; omega) rfl) ⟨T2.1.1, T3.1.1, rfl, x2, x3⟩ (gW_no (show (8 : Int) ≠ 5 by decide)) fun x hx => by
    have : x = T2 ∨ x = T3 := by simpa using hx
    rcases this with rfl | rfl
    · exact g2
    · exact g3) (by
    show 12 + fWt 8 0 0 (fo ([T2] ++ [T3])) ≤ _
    omega)
  rw [eS3, show rn + (1 + (tSz T2 + tSz T3)) = rn + tSz T2 + tSz T3 + 1 by omega] at this
  simp only [show decide ((8 : Int) < 44 ∨ 49 < (8 : Int)) = true by decide, Bool.and_true]
  exact this
/-- do s while ( X ) -/
theorem U_do (ht : tOk tx n) {m : Nat} (hx : S_x tx n m) (hSt : S_st tx n m) {s : cm_S} {e : Int} {t : tTk} {cn sc : Int} {W : List (Int × Int)} {d rn : Int} {lf : Bool} {V : List tT} {K : List rTs} {S : List rSg} (hs : cSt tx n s e true t cn sc W) (hm : n - e ≤ m) (hc : t.2.1 = 7) (hd : 0 ≤ d ∧ d < 20) (hK : (K.length : Int) ≤ 20 * d + 20) (hS : (S.length : Int) = W.length ∧ (S.length : Int) ≤ 10 * d) (hcb : 0 ≤ cn ∧ cn ≤ t.2.2.1 + 1) (hrn : 0 ≤ rn ∧ rn + red K ≤ cn) (hD : Dm tx n K (V.length + 1) S) : OI tx n s cn (cm_sem 93 [.inr (.inl 14), .inl (d + 1)] s) (t.2.2.2.1, d + 1, rn, sc, lf, V, (2, 0, 0, 0, 0) :: (5, 1026, 0, 0, 0) :: (5, 40, 0, 0, 0) :: (7, 0, 0, 0, 0) :: (5, 41, 0, 0, 0) :: (6, 0, 0, 0, 0) :: (3, 7, t.2.2.1, 0, V.length) :: (4, 0, 0, 0, 0) :: K, S) (PoU tx n t.2.2.1 cn rn d V K S W) := by
  have e0 := hs.e0
  have num := lxG_r4 ht e0.1 e0.2 hs.lx
  have hr0 := red_0 K
  obtain ⟨a1, a2⟩ := tok_l ht e0.1 e0.2 hs.lx (w := 7) (by decide) (by decide) hc
  have a3 : wl 7 = 2 := by decide
  unfold OI
  rw [cS_93, cF_93_0]
  refine X_first ht hs hcb.1 (by omega) (Int.le_refl _) (fun hN' => dm_20 ht (m := V.length) _ _ _ _ _ _ (by omega) (by omega) hN' rfl (by simp only [red_co]; simp; omega) (by simp only [List.length_cons]; omega)) fun t1 s1 hT1 k1 b1 n1' st1 => ?_
  have e01 := st1.e0
  have num1 := lxG_r4 ht e01.1 e01.2 st1.lx
  refine OX_bi (hSt s1 t.2.2.2.1 false t1 (cn + 1) sc W (d + 1) rn 0 lf V ((5, 1026, 0, 0, 0) :: (5, 40, 0, 0, 0) :: (7, 0, 0, 0, 0) :: (5, 41, 0, 0, 0) :: (6, 0, 0, 0, 0) :: (3, 7, t.2.2.1, 0, V.length) :: (4, 0, 0, 0, 0) :: K) S st1 (by omega) (Or.inl rfl) ⟨by omega, by omega, by simp only [List.length_cons]; omega, hS.1, by omega, by omega, by omega, by omega, by simp only [red_co]; simp; omega⟩ (dm_5 ht)) (by omega) fun v2 s2 c2 f2 k2 q2 => ?_
  obtain ⟨e2, t2, sc2, lf2, T2, st2, rfl, tr2, nx2, lt2, sz2, g2, x2, w2⟩ := q2
  have tz2 := tSz_1 T2
  have e02 := st2.e0
  have num2 := lxG_r4 ht e02.1 e02.2 st2.lx
  have dl2 := dl_01 t2
  refine X_add st2 (by omega) (cNo_fr n1' k2 (Int.le_refl _)) tr2 nx2 (Int.le_refl _) fun s3 k3 b3 n3' st3 => ?_
  have tk := tok_w ht e02.1 e02.2 st2.lx (w := 27) (by decide) (by decide)
  refine X_pass ht st3 (by apply propext; exact ⟨fun z => (tk.1 z).1, fun z => Decidable.byContradiction fun y => tk.2 y z⟩) (by simp only [List.length_cons]; omega) (fun hN' => dm_5 ht (m := (T2 :: V).length) _ _ _ _ _ _ (by omega) (by omega) hN' rfl (by simp only [red_co]; simp; omega) (by simp only [List.length_cons]; omega)) fun t4 s4 h27 hT4 e4 b4 st4 => ?_
  obtain ⟨c1, c2⟩ := tok_l ht e02.1 e02.2 st2.lx (w := 27) (by decide) (by decide) h27
  have c3 : wl 27 = 5 := by decide
  clear tk
  have dl2' : dl t2 = 0 := by unfold dl; rw [if_neg (by omega)]
  have e04 := st4.e0
  have num4 := lxG_r4 ht e04.1 e04.2 st4.lx
  refine OX_bv (S_co_of (a := 0) ht hx (d := d + 1) (rn := rn + tSz T2) (lf := lf2) (V := T2 :: V) (K := (6, 0, 0, 0, 0) :: (3, 7, t.2.2.1, 0, V.length) :: (4, 0, 0, 0, 0) :: K) (S := S) st4 (by omega) (cNo_row n3' e4) ⟨by omega, by omega, by simp only [List.length_cons]; omega, hS.1, by omega, by omega, by omega, by omega, by simp only [red_co]; simp; omega⟩ (dm_6 ht)) (Int.le_refl _) fun s5 c5 f5 k5 q5 => ?_
  obtain ⟨e5, t5, sc5, lf5, T5, st5, rfl, n5', sz5, g5, x5, w5⟩ := q5
  have tz5 := tSz_1 T5
  have e05 := st5.e0
  have num5 := lxG_r4 ht e05.1 e05.2 st5.lx
  have wa : fWt 7 0 0 (fo ([] ++ [T2])) ≤ 0 + (2 * (t2.2.2.1 - t1.2.2.1) + dl t2) := fWt_c0 (a := []) (tWn_0 (Or.inl (by decide))) (by omega) (by decide)
  have wa' : fWt 7 0 0 (fo ([] ++ [T2])) = fWt 7 0 0 (fo [T2]) := rfl
  have wb : fWt 7 0 0 (fo ([T2] ++ [T5])) ≤ fWt 7 0 0 (fo [T2]) + (2 * (e5 - t4.2.2.1) - 4) := fWt_c0 (a := [T2]) (tWn_0 (Or.inl (by decide))) (by omega) (by decide)
  have eS5 : fSz (fo ([] ++ [T2] ++ [T5])) = tSz T2 + tSz T5 := by rw [fSz_fo]; show fSz (fo [T2]) + tSz T5 = _; rw [fSz_1]
  refine OX_reti ⟨cn, rfl, ?_⟩
  have := U_se (tx := tx) (n := n) (s := s5) (e := e5) (b := t.2.2.1) (cn := cn) (rn := rn) (d := d) (sc := sc5) (k := 7) (p := t.2.2.1) (l := 0) (code := 0) (v := cn) (t := t5) (lf := lf5) (V := V) (K := K) (S := S) (W := W) (L := [] ++ [T2] ++ [T5]) (by rw [eS5, show cn + (1 + (tSz T2 + tSz T5)) = cn + 1 + tSz T2 + tSz T5 by omega]; exact st5) (by rw [eS5, show cn + (1 + (tSz T2 + tSz T5)) = cn + 1 + tSz T2 + tSz T5 by omega]; exact n5') (by unfold isS; omega) (by decide) (by omega) (by omega) (gG_mk (gT_no (by simp) (by show 0 ≤ t.2.2.1; omega) (by show t.2.2.1 ≤ n; omega) rfl) ⟨T2.1.1, T5.1.1, rfl, x2, x5⟩ (gW_no (show (7 : Int) ≠ 5 by decide)) fun x hx => by
    have : x = T2 ∨ x = T5 := by simpa using hx
    rcases this with rfl | rfl
    · exact g2
    · exact g5) (by
    show 17 + fWt 7 0 0 (fo ([T2] ++ [T5])) ≤ _
    omega) hd hK (by omega) hD
  rw [eS5, show rn + (tSz T2 + tSz T5) = rn + tSz T2 + tSz T5 by omega] at this
  exact this
end TX59
