/-! ===== try, all of it ===== -/
section TX65
variable {tx : Int → Int} {n : Int}
theorem U_t3 (ht : tOk tx n) {s : cm_S} {e b cn rn d sc : Int} {t : tTk} {lf : Bool} {V : List tT} {K : List rTs} {S : List rSg} {W : List (Int × Int)} {T2 T3 T4 : tT} (hs : cSt tx n s e false t (cn + 1 + tSz T2 + tSz T3 + tSz T4) sc W) (hn : cNo s (cn + 1 + tSz T2 + tSz T3 + tSz T4) cn (18, b, 0, 0) cn ([] ++ [T2] ++ [T3] ++ [T4])) (hb : 0 ≤ b) (hbe : b < e) (hsz : b + (1 + tSz T2 + tSz T3 + tSz T4) ≤ t.2.2.1 + dl t) (g2 : gG tx n T2) (g3 : gG tx n T3) (g4 : gG tx n T4) (x2 : T2.1.1 = 1) (x3 : T3.1.1 = 19 ∨ T3.1.1 = 21) (x4 : T4.1.1 = 1 ∨ T4.1.1 = 21) (hw : 13 + tWt T2 + tWt T3 + tWt T4 ≤ 2 * (t.2.2.1 - b) + dl t) : PoU tx n b cn rn d V K S W cn s (e, d + 1, rn + tSz T2 + tSz T3 + tSz T4 + 1, sc, lf && decide ((18 : Int) < 44 ∨ 49 < (18 : Int)), ((18, b, 0, 0, false), fo ([] ++ [T2] ++ [T3] ++ [T4])) :: V, (4, 0, 0, 0, 0) :: K, S) := by
  have e0 := hs.e0
  have z2 := tSz_1 T2
  have z3 := tSz_1 T3
  have z4 := tSz_1 T4
  have eS : fSz (fo ([] ++ [T2] ++ [T3] ++ [T4])) = tSz T2 + tSz T3 + tSz T4 := by
    rw [fSz_fo, fSz_fo]
    show fSz (fo [T2]) + _ + _ = _
    rw [fSz_1]
  have wa : fWt 18 0 0 (fo ([] ++ [T2])) ≤ 0 + tWt T2 := fWt_c0 (a := []) (tWn_0 (Or.inl (by decide))) (Int.le_refl _) (by decide)
  have wb : fWt 18 0 0 (fo ([] ++ [T2] ++ [T3])) ≤ fWt 18 0 0 (fo ([] ++ [T2])) + tWt T3 := fWt_c0 (tWn_0 (Or.inl (by decide))) (Int.le_refl _) (by decide)
  have wc : fWt 18 0 0 (fo ([] ++ [T2] ++ [T3] ++ [T4])) ≤ fWt 18 0 0 (fo ([] ++ [T2] ++ [T3])) + tWt T4 := fWt_c0 (tWn_0 (Or.inl (by decide))) (Int.le_refl _) (by decide)
  have := U_ns (tx := tx) (n := n) (s := s) (e := e) (b := b) (cn := cn) (rn := rn) (d := d) (sc := sc) (k := 18) (p := b) (l := 0) (code := 0) (v := cn) (t := t) (lf := lf && decide ((18 : Int) < 44 ∨ 49 < (18 : Int))) (V := V) (K := K) (S := S) (W := W) (L := [] ++ [T2] ++ [T3] ++ [T4]) (by rw [eS, show cn + (1 + (tSz T2 + tSz T3 + tSz T4)) = cn + 1 + tSz T2 + tSz T3 + tSz T4 by omega]; exact hs) (by rw [eS, show cn + (1 + (tSz T2 + tSz T3 + tSz T4)) = cn + 1 + tSz T2 + tSz T3 + tSz T4 by omega]; exact hn) (by unfold isS; omega) (by decide) hbe (by omega) (gG_mk (gT_no (by simp) (by show 0 ≤ b; omega) (by show b ≤ n; omega) rfl) ⟨T3.1.1, T4.1.1, by show [T2.1.1, T3.1.1, T4.1.1] = _; rw [x2], x3, x4⟩ (gW_no (show (18 : Int) ≠ 5 by decide)) fun x hx => by
    have : x = T2 ∨ x = T3 ∨ x = T4 := by simpa using hx
    rcases this with rfl | rfl | rfl
    · exact g2
    · exact g3
    · exact g4) (by
    show 13 + fWt 18 0 0 (fo ([] ++ [T2] ++ [T3] ++ [T4])) ≤ _
    omega)
  rw [eS, show rn + (1 + (tSz T2 + tSz T3 + tSz T4)) = rn + tSz T2 + tSz T3 + tSz T4 + 1 by omega] at this
  exact this
theorem tSz_n0 : tSz tN0 = 1 := rfl
theorem tWt_n0 : tWt tN0 = 0 := rfl
/-- the part behind finally -/
theorem U_tf (ht : tOk tx n) {m : Nat} (hSt : S_st tx n m) {s : cm_S} {e : Int} {t : tTk} {b cn sc : Int} {W : List (Int × Int)} {d rn : Int} {lf : Bool} {V : List tT} {K : List rTs} {S : List rSg} {T2 T3 : tT} (hs : cSt tx n s e false t (cn + 1 + tSz T2 + tSz T3) sc W) (hn : cNo s (cn + 1 + tSz T2 + tSz T3) cn (18, b, 0, 0) cn ([] ++ [T2] ++ [T3])) (hm : n - e ≤ m) (hc : t.2.1 = 10) (hb : 0 ≤ b) (hbe : b + 3 + tSz T2 + tSz T3 ≤ e + 1) (hd : 0 ≤ d ∧ d < 20) (hK : (K.length : Int) ≤ 20 * d + 20) (hS : (S.length : Int) = W.length ∧ (S.length : Int) ≤ 10 * d) (hcb : 0 ≤ cn ∧ cn ≤ b + 1) (hrn : 0 ≤ rn ∧ rn + red K ≤ cn) (hD : Dm tx n K (V.length + 1) S) (g2 : gG tx n T2) (g3 : gG tx n T3) (x2 : T2.1.1 = 1) (x3 : T3.1.1 = 19 ∨ T3.1.1 = 21) (hw : tWt T2 + tWt T3 ≤ 2 * (e - b)) : OX tx n s cn (cm_bv (cm_sem 26 [.inr (.inl 15)] s) fun s6 => cm_bi (cm_sem 54 [.inr (.inl 14), .inl (d + 1)] s6) fun z7 s7 => cm_bv (cm_sem 58 [.inr (.inl 4), .inl cn, .inl z7] s7) fun s8 => some (.inl (some (.inl cn)), s8)) (t.2.2.2.1, d + 1, rn + tSz T2 + tSz T3, sc, lf, T3 :: T2 :: V, (38, 0, 0, 0, 0) :: (3, 18, b, 0, V.length) :: (4, 0, 0, 0, 0) :: K, S) (fun r s' c' => ∃ v, r = some (.inl v) ∧ PoU tx n b cn rn d V K S W v s' c') := by
  have e0 := hs.e0
  have num := lxG_r4 ht e0.1 e0.2 hs.lx
  have hr0 := red_0 K
  have z2 := tSz_1 T2
  have z3 := tSz_1 T3
  obtain ⟨a1, a2⟩ := tok_l ht e0.1 e0.2 hs.lx (w := 10) (by decide) (by decide) hc
  have a3 : wl 10 = 7 := by decide
  refine X_next ht hs (fun hN' => dm_38 ht (m := (T3 :: T2 :: V).length) _ _ _ _ _ _ (by omega) (by omega) hN' rfl (by simp only [red_co]; simp; omega) (by simp only [List.length_cons]; omega)) fun t1 s1 hT1 e1 b1 st1 => ?_
  have e01 := st1.e0
  have num1 := lxG_r4 ht e01.1 e01.2 st1.lx
  refine OX_bi (S_bl_of ht hSt st1 st1.lx (by omega) (d := d + 1) (rn := rn + tSz T2 + tSz T3) (lf := lf) (V := T3 :: T2 :: V) (K := (3, 18, b, 0, V.length) :: (4, 0, 0, 0, 0) :: K) (S := S) ⟨by omega, by omega, by simp only [List.length_cons]; omega, hS.1, by omega, by omega, by omega, by omega, by simp only [red_co]; simp; omega⟩ (dm_red (dm_lv hD) (by simp only [List.length_cons]; omega))) (by omega) fun v5 s5 cc5 f5 k5 q5 => ?_
  obtain ⟨e5, t5, sc5, lf5, T, st5, rfl, tr5, nx5, sz5, g5, x5, w5⟩ := q5
  have tz := tSz_1 T
  have e05 := st5.e0
  have num5 := lxG_r4 ht e05.1 e05.2 st5.lx
  have dl5 := dl_01 t5
  refine X_add st5 (by omega) (cNo_fr (cNo_row hn e1) k5 (Int.le_refl _)) tr5 nx5 (Int.le_refl _) fun s6 k6 b6 n6' st6 => ?_
  refine OX_to (t_red (Vc := [T, T3, T2]) rfl (by omega) (by simp only [List.length_cons]; omega) 0) (OX_reti ⟨cn, rfl, ?_⟩)
  exact U_t3 ht st6 n6' hb (by omega) (by omega) g2 g3 g5 x2 x3 (Or.inl x5) (by omega)
/-- try { } catch ( ) { } finally { } -/
theorem U_tr (ht : tOk tx n) {m : Nat} (hSt : S_st tx n m) {s : cm_S} {e : Int} {t : tTk} {cn sc : Int} {W : List (Int × Int)} {d rn : Int} {lf : Bool} {V : List tT} {K : List rTs} {S : List rSg} (hs : cSt tx n s e true t cn sc W) (hm : n - e ≤ m) (hc : t.2.1 = 23) (hd : 0 ≤ d ∧ d < 20) (hK : (K.length : Int) ≤ 20 * d + 20) (hS : (S.length : Int) = W.length ∧ (S.length : Int) ≤ 10 * d) (hcb : 0 ≤ cn ∧ cn ≤ t.2.2.1 + 1) (hrn : 0 ≤ rn ∧ rn + red K ≤ cn) (hD : Dm tx n K (V.length + 1) S) : OI tx n s cn (cm_sem 104 [.inr (.inl 14), .inl (d + 1)] s) (t.2.2.2.1, d + 1, rn, sc, lf, V, (38, 0, 0, 0, 0) :: (39, t.2.2.1, V.length, 0, 0) :: (4, 0, 0, 0, 0) :: K, S) (PoU tx n t.2.2.1 cn rn d V K S W) := by
  have e0 := hs.e0
  have num := lxG_r4 ht e0.1 e0.2 hs.lx
  have hr0 := red_0 K
  obtain ⟨a1, a2⟩ := tok_l ht e0.1 e0.2 hs.lx (w := 23) (by decide) (by decide) hc
  have a3 : wl 23 = 3 := by decide
  unfold OI
  rw [cS_104, cF_104_0]
  refine X_first ht hs hcb.1 (by omega) (Int.le_refl _) (fun hN' => dm_38 ht (m := V.length) _ _ _ _ _ _ (by omega) (by omega) hN' rfl (by simp only [red_co]; simp; omega) (by simp only [List.length_cons]; omega)) fun t1 s1 hT1 k1 b1 n1' st1 => ?_
  have e01 := st1.e0
  have num1 := lxG_r4 ht e01.1 e01.2 st1.lx
  refine OX_bi (S_bl_of ht hSt st1 st1.lx (by omega) (d := d + 1) (rn := rn) (lf := lf) (V := V) (K := (39, t.2.2.1, V.length, 0, 0) :: (4, 0, 0, 0, 0) :: K) (S := S) ⟨by omega, by omega, by simp only [List.length_cons]; omega, hS.1, by omega, by omega, by omega, by omega, by simp only [red_co]; simp; omega⟩ (dm_39 ht)) (by omega) fun v2 s2 cc2 f2 k2 q2 => ?_
  obtain ⟨e2, t2, sc2, lf2, T2, st2, rfl, tr2, nx2, sz2, g2, x2, w2⟩ := q2
  have tz2 := tSz_1 T2
  have e02 := st2.e0
  have num2 := lxG_r4 ht e02.1 e02.2 st2.lx
  refine X_add st2 (by omega) (cNo_fr n1' k2 (Int.le_refl _)) tr2 nx2 (Int.le_refl _) fun s3 k3 b3 n3' st3 => ?_
  have w3 := tok_w ht e02.1 e02.2 st2.lx (w := 3) (by decide) (by decide)
  have w10 := tok_w ht e02.1 e02.2 st2.lx (w := 10) (by decide) (by decide)
  rw [st3.cd]
  by_cases h3 : t2.2.1 = 3
  · have g1 := (w3.1 h3).1
    clear w3 w10
    rw [if_pos h3]
    refine OX_to (t_39y ht st2.lx g1 (by simp only [List.length_cons]; omega)) ?_
    refine OX_bi (S_ca_of ht hSt st3 (by omega) h3 (d := d + 1) (rn := rn + tSz T2) (lf := lf2) (V := T2 :: V) (K := (40, t.2.2.1, V.length, 1, 0) :: (4, 0, 0, 0, 0) :: K) (S := S) ⟨by omega, by omega, by simp only [List.length_cons]; omega, hS.1, by omega, by omega, by omega, by omega, by simp only [red_co]; simp; omega⟩ (dm_401 ht (by simp only [List.length_cons]; omega))) (by omega) fun v4 s4 cc4 f4 k4 q4 => ?_
    obtain ⟨e4, t4, sc4, lf4, T4, st4, rfl, tr4, nx4, sz4, g4, x4, w4, sz4'⟩ := q4
    have tz4 := tSz_1 T4
    have e04 := st4.e0
    have num4 := lxG_r4 ht e04.1 e04.2 st4.lx
    have dl4 := dl_01 t4
    refine X_add st4 (by omega) (cNo_fr n3' k4 (Int.le_refl _)) tr4 nx4 (Int.le_refl _) fun s5 k5 b5 n5' st5 => ?_
    have w10 := tok_w ht e04.1 e04.2 st4.lx (w := 10) (by decide) (by decide)
    rw [st5.cd]
    by_cases h10 : t4.2.1 = 10
    · have g1' := (w10.1 h10).1
      clear w10
      rw [if_pos h10]
      refine OX_to (t_40y1 ht st4.lx g1' (by simp only [List.length_cons]; omega)) ?_
      exact U_tf ht hSt st5 n5' (by omega) h10 (by omega) (by omega) hd hK hS hcb hrn hD g2 g4 x2 (Or.inl x4) (by omega)
    · have g1' := w10.2 h10
      clear w10
      rw [if_neg h10]
      refine OX_to (t_40n ht (Vc := [T4, T2]) st4.lx g1' (by omega) rfl (by simp only [List.length_cons]; omega) 0) ?_
      refine X_noth st5 (by omega) (by omega) (by omega) fun s6 k6 b6 tr6 nx6 st6 => ?_
      refine X_add st6 (by omega) (cNo_fr n5' k6 (by omega)) tr6 nx6 (Int.le_refl _) fun s7 k7 b7 n7' st7 => ?_
      refine OX_reti ⟨cn, rfl, ?_⟩
      have := U_t3 ht (rn := rn) (d := d) (lf := lf4) (V := V) (K := K) (S := S) (T4 := tN0) st7 n7' (by omega) (by omega) (by rw [tSz_n0]; omega) g2 g4 (gG_n0 ht) x2 (Or.inl x4) (Or.inr rfl) (by rw [tWt_n0]; omega)
      simp only [show decide ((18 : Int) < 44 ∨ 49 < (18 : Int)) = true by decide, Bool.and_true] at this
      exact this
  · have g1 := w3.2 h3
    rw [if_neg h3]
    refine OX_to (t_39n ht st2.lx g1 (by omega) (by simp only [List.length_cons]; omega)) ?_
    refine X_noth st3 (by omega) (by omega) (by omega) fun s6 k6 b6 tr6 nx6 st6 => ?_
    refine X_add st6 (by omega) (cNo_fr n3' k6 (by omega)) tr6 nx6 (Int.le_refl _) fun s7 k7 b7 n7' st7 => ?_
    rw [st7.cd]
    by_cases h10 : t2.2.1 = 10
    · have g1' := (w10.1 h10).1
      clear w3 w10
      rw [if_pos h10]
      refine OX_to (t_40y0 ht st2.lx g1' (by simp only [List.length_cons]; omega)) ?_
      exact U_tf ht hSt (T3 := tN0) (rn := rn) st7 n7' (by omega) h10 (by omega) (by rw [tSz_n0]; omega) hd hK hS hcb hrn hD g2 (gG_n0 ht) x2 (Or.inr rfl) (by rw [tWt_n0]; omega)
    · have g1' := w10.2 h10
      rw [if_neg h10]
      exact X_refuse (b_40 ht st2.lx g1' (by simp only [List.length_cons]; omega))
end TX65
