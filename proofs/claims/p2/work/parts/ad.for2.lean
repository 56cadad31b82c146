/-! ===== for ( ; ; ) ===== -/
section TX69
variable {tx : Int → Int} {n : Int}
theorem F_pt (ht : tOk tx n) {m : Nat} (hx : S_x tx n m) (hSt : S_st tx n m) {s : cm_S} {e : Int} {t : tTk} {b cn sc z : Int} {W : List (Int × Int)} {d rn : Int} {lf : Bool} {V : List tT} {K : List rTs} {S : List rSg} {T1 : tT} (hs : cSt tx n s e false t (cn + tSz T1) sc W) (htr : cTr s cn (cn + tSz T1) z T1) (hnx : s.2 11 z = -1) (hm : n - e ≤ m) (hb : 0 ≤ b) (hd : 0 ≤ d ∧ d < 20) (hK : (K.length : Int) ≤ 20 * d + 20) (hS : (S.length : Int) = W.length ∧ (S.length : Int) ≤ 10 * d) (hcb : 0 ≤ cn ∧ cn ≤ b + 1) (hrn : 0 ≤ rn ∧ rn + red K ≤ cn) (hD : Dm tx n K (V.length + 1) S) (hsz : b + 3 + tSz T1 ≤ e) (hw : tWt T1 + 7 ≤ 2 * (e - b)) (g1 : gG tx n T1) (x1 : isE T1.1.1 ∨ T1.1.1 = 2 ∨ T1.1.1 = 21) : OI tx n s cn (cm_sem 96 [.inr (.inl 14), .inl b, .inl z, .inl (d + 1)] s) (e, d + 1, rn + tSz T1, sc, lf, T1 :: V, (5, 59, 0, 0, 0) :: (36, 59, 0, 0, 0) :: (5, 59, 0, 0, 0) :: (36, 41, 0, 0, 0) :: (5, 41, 0, 0, 0) :: (2, 0, 0, 0, 0) :: (3, 9, b, 0, V.length) :: (4, 0, 0, 0, 0) :: K, S) (PoU tx n b cn rn d V K S W) := by
  have e0 := hs.e0
  have num := lxG_r4 ht e0.1 e0.2 hs.lx
  have hr0 := red_0 K
  have tz1 := tSz_1 T1
  unfold OI
  rw [cS_96, cF_96_0]
  refine X_make hs (by omega) (by omega) (by omega) fun s1 k1 b1 n1' st1 => ?_
  refine X_add0 st1 (by omega) n1' (cTr_fr htr k1 (Int.le_refl _)) (by rw [k1 11 z (by omega) (by omega) (by have := cTr_in htr; omega)]; exact hnx) hcb.1 (Int.le_refl _) fun s2 k2 b2 n2' st2 => ?_
  have tk := tok_s ht e0.1 e0.2 hs.lx (c := 59) (by decide) (by decide)
  refine X_pass ht st2 (by apply propext; exact ⟨fun z => (tk.1 z).1, fun z => Decidable.byContradiction fun y => tk.2 y z⟩) (by simp only [List.length_cons]; omega) (fun hN' => dm_36 ht (m := (T1 :: V).length) _ _ _ _ _ _ (by omega) (by omega) hN' rfl (by simp only [red_co]; simp; omega) (by simp only [List.length_cons]; omega)) fun t3 s3 h59 hT3 e3 b3 st3 => ?_
  have lt0 := (tk.1 h59).2
  clear tk
  have e03 := st3.e0
  have num3 := lxG_r4 ht e03.1 e03.2 st3.lx
  have eL : fSz (fo [T1]) = tSz T1 := fSz_1 T1
  have wa : fWt 9 0 0 (fo ([] ++ [T1])) ≤ 0 + tWt T1 := fWt_c0 (a := []) (tWn_0 (Or.inl (by decide))) (Int.le_refl _) (by decide)
  have wa' : fWt 9 0 0 (fo ([] ++ [T1])) = fWt 9 0 0 (fo [T1]) := rfl
  rw [st3.cd, show rn + tSz T1 = rn + fSz (fo [T1]) by rw [eL]]
  refine F_op ht hx (L := [T1]) (l := (9, b, 0, 0)) (rn := rn) (V := V) (cn := cn) (x := 59) (by rw [eL, show cn + 1 + tSz T1 = cn + tSz T1 + 1 by omega]; exact st3) (by rw [eL, show cn + 1 + tSz T1 = cn + tSz T1 + 1 by omega]; exact cNo_row n2' e3) (by omega) (by decide) (by decide) ⟨by omega, by omega, by simp only [List.length_cons]; omega, hS.1, by omega, by omega, by omega, by omega, by simp only [red_co]; simp; omega⟩ hcb.1 hrn.1 (dm_5 ht) fun s4 e4 t4 sc4 lf4 T2 st4 n4' le4 sz4 x4 g4 w4 => ?_
  have tz2 := tSz_1 T2
  have e04 := st4.e0
  have num4 := lxG_r4 ht e04.1 e04.2 st4.lx
  have tk := tok_s ht e04.1 e04.2 st4.lx (c := 59) (by decide) (by decide)
  refine X_pass ht st4 (by apply propext; exact ⟨fun z => (tk.1 z).1, fun z => Decidable.byContradiction fun y => tk.2 y z⟩) (by simp only [List.length_cons]; omega) (fun hN' => dm_36 ht (m := (T2 :: ([T1].reverse ++ V)).length) _ _ _ _ _ _ (by omega) (by omega) hN' rfl (by simp only [red_co]; simp; omega) (by simp only [List.length_cons]; omega)) fun t5 s5 h59' hT5 e5 b5 st5 => ?_
  have lt4 := (tk.1 h59').2
  clear tk
  have e05 := st5.e0
  have num5 := lxG_r4 ht e05.1 e05.2 st5.lx
  have eL2 : fSz (fo ([T1] ++ [T2])) = fSz (fo [T1]) + tSz T2 := fSz_fo _ _
  have wb : fWt 9 0 0 (fo ([T1] ++ [T2])) ≤ fWt 9 0 0 (fo [T1]) + tWt T2 := fWt_c0 (tWn_0 (Or.inl (by decide))) (Int.le_refl _) (by decide)
  rw [st5.cd, show rn + fSz (fo [T1]) + tSz T2 = rn + fSz (fo ([T1] ++ [T2])) by rw [eL2]; omega]
  refine F_op ht hx (L := [T1] ++ [T2]) (l := (9, b, 0, 0)) (rn := rn) (V := V) (cn := cn) (x := 41) (by rw [eL2, show cn + 1 + (fSz (fo [T1]) + tSz T2) = cn + 1 + fSz (fo [T1]) + tSz T2 by omega]; exact st5) (by rw [eL2, show cn + 1 + (fSz (fo [T1]) + tSz T2) = cn + 1 + fSz (fo [T1]) + tSz T2 by omega]; exact cNo_row n4' e5) (by omega) (by decide) (by decide) ⟨by omega, by omega, by simp only [List.length_cons]; omega, hS.1, by omega, by omega, by omega, by omega, by simp only [red_co]; simp; omega⟩ hcb.1 hrn.1 (dm_5 ht) fun s6 e6 t6 sc6 lf6 T3 st6 n6' le6 sz6 x6 g6 w6 => ?_
  have tz3 := tSz_1 T3
  have e06 := st6.e0
  have eL3 : fSz (fo ([T1] ++ [T2] ++ [T3])) = fSz (fo ([T1] ++ [T2])) + tSz T3 := fSz_fo _ _
  have wc : fWt 9 0 0 (fo ([T1] ++ [T2] ++ [T3])) ≤ fWt 9 0 0 (fo ([T1] ++ [T2])) + tWt T3 := fWt_c0 (tWn_0 (Or.inl (by decide))) (Int.le_refl _) (by decide)
  have := F_end ht hSt (s := s6) (e := e6) (t := t6) (b := b) (cn := cn) (sc := sc6) (k := 9) (v := cn + tSz T1) (W := W) (d := d) (rn := rn) (lf := lf6) (V := V) (K := K) (S := S) (L := [T1] ++ [T2] ++ [T3]) (by rw [eL3, show cn + 1 + (fSz (fo ([T1] ++ [T2])) + tSz T3) = cn + 1 + fSz (fo ([T1] ++ [T2])) + tSz T3 by omega]; exact st6) (by rw [eL3, show cn + 1 + (fSz (fo ([T1] ++ [T2])) + tSz T3) = cn + 1 + fSz (fo ([T1] ++ [T2])) + tSz T3 by omega]; exact n6') (by omega) (Or.inl rfl) hb hd hK hS hcb hrn hD (by omega) (by rw [if_pos rfl]; omega) (fun x hx => by
    have : x = T1 ∨ x = T2 ∨ x = T3 := by simpa using hx
    rcases this with rfl | rfl | rfl
    · exact g1
    · exact g4
    · exact g6) (fun y hy => ⟨T1.1.1, T2.1.1, T3.1.1, y, rfl, x1, x4, x6, hy⟩)
  rw [eL3, show rn + (fSz (fo ([T1] ++ [T2])) + tSz T3) = rn + fSz (fo ([T1] ++ [T2])) + tSz T3 by omega] at this
  exact this
end TX69
