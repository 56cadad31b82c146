/-! ===== CHOICE, x ===== -/
section TX55
variable {tx : Int → Int} {n : Int}
theorem S_bi_of (ht : tOk tx n) {m : Nat} (hU : S_un tx n (m + 1)) {s : cm_S} {e : Int} {g : Bool} {t : tTk} {cn sc : Int} {W : List (Int × Int)} {d rn noIn : Int} {lf : Bool} {V : List tT} {K : List rTs} {S : List rSg} (hs : cSt tx n s e g t cn sc W) (hm : n - e ≤ m) (hno : noIn = 0 ∨ noIn = 1) (hN : Nu t.2.2.1 cn rn d 2 4 K S W) (hd1 : 1 ≤ d) (hS1 : (S.length : Int) ≤ 10 * d - 10) : OI tx n s cn (cm_sem 67 [.inr (.inl 14), .inl d, .inl noIn] s) (e, d, rn, sc, lf, V, (12, 0, 0, 0, 0) :: (11, S.length, noIn, 0, 0) :: K, S) (Po tx n t.2.2.1 cn rn d V K S W (xE t.2.2.1 3)) := by
  obtain ⟨n1, n2, n3, n4, n5, n6, n7, n8, n9⟩ := hN
  have e0 := hs.e0
  have num := lxG_r4 ht e0.1 e0.2 hs.lx
  have hr0 := red_0 K
  unfold OI
  rw [cS_67, cF_67_0]
  refine OX_bi (hU s e g t cn sc W d rn lf V ((11, S.length, noIn, 0, 0) :: K) S _ hs (by omega) ⟨n1, n2, by simp only [List.length_cons]; omega, n4, n5, n6, n7, n8, by simp only [red_co]; simp; omega⟩ (dm_11 ht (by omega) (by omega) (by omega) (by omega) (by omega)) ⟨fun hN' => b_120n (t := t) ht hN' (by omega) (by simp only [List.length_cons]; omega), fun t' h1 h2 => t_120p ht h1 h2 (by simp only [List.length_cons]; omega), fun t' h1 h2 => t_120l ht h1 h2 (by simp only [List.length_cons]; omega)⟩) (Int.le_refl _) fun v1 s1 c1 f1 k1 q1 => ?_
  obtain ⟨e1, t1, sc1, lf1, T, st1, rfl, tr1, nx1, sz1, g1, x1, x2, x3, x4, x5⟩ := q1
  have tz := tSz_1 T
  have e01 := st1.e0
  rw [hs.2.2.2.1]
  have := bi_lp ht hU (b := t.2.2.1) (cn := cn) (rn := rn) (d := d) (noIn := noIn) (W := W) (V := V) (K := K) (S := S) hno (by omega) ⟨hd1, n2⟩ n3 ⟨n4, hS1⟩ ⟨n6, n7⟩ ⟨n8, n9⟩ ((n - e1).toNat + 1) s1 e1 0 v1 cn t1 sc1 lf1 T [] none none (by omega) (by omega) (by
    show cSt tx n s1 e1 false t1 (cn + 0 + tSz T) sc1 W
    rw [Int.add_zero]; exact st1) rfl (by show cn = cn + 0; omega) (by
    show cTr s1 cn (cn + 0 + tSz T) v1 T
    rw [Int.add_zero]; exact tr1) nx1 (by show t.2.2.1 + 0 + tSz T ≤ e1; omega) trivial g1 x1 (fun _ => x2) (fun _ => x5) (by show tWb 13 T + 0 ≤ _; omega) (by rw [if_pos rfl]; exact x4) (by omega) (by omega)
  change OI tx n s1 cn _ (e1, d, rn + 0 - ((0 : Nat) : Int) + tSz T, sc1, lf1, T :: V, _, S) _ at this
  rw [show rn + 0 - ((0 : Nat) : Int) + tSz T = rn + tSz T by omega] at this
  exact this
/-- CHOICE: with ? .. : .. all is read; without it the reference still stands ahead of what may be behind -/
theorem ch_of (ht : tOk tx n) {m : Nat} (hx : S_x tx n m) (hU : S_un tx n (m + 1)) {s : cm_S} {e : Int} {g : Bool} {t : tTk} {cn sc : Int} {W : List (Int × Int)} {d rn noIn : Int} {lf : Bool} {V : List tT} {K : List rTs} {S : List rSg} (hs : cSt tx n s e g t cn sc W) (hm : n - e ≤ m) (hno : noIn = 0 ∨ noIn = 1) (hN : Nu t.2.2.1 cn rn d 2 3 K S W) (hd1 : 1 ≤ d) (hS1 : (S.length : Int) ≤ 10 * d - 10) (hD : Dm tx n K (V.length + 1) S) : OI tx n s cn (cm_sem 66 [.inr (.inl 14), .inl d, .inl noIn] s) (e, d, rn, sc, lf, V, (12, 0, 0, 0, 0) :: (11, S.length, noIn, 0, 0) :: (10, noIn, 0, 0, 0) :: K, S) (fun v s' c' => Po tx n t.2.2.1 cn rn d V ((10, noIn, 0, 0, 0) :: K) S W (fun s' e' t' lf' T => xE t.2.2.1 3 s' e' t' lf' T ∧ t'.2.1 ≠ 63) v s' c' ∨ Po tx n t.2.2.1 cn rn d V K S W (fun s' e' t' lf' T => xE t.2.2.1 1 s' e' t' lf' T ∧ ¬ asP (rNo t')) v s' c') := by
  obtain ⟨n1, n2, n3, n4, n5, n6, n7, n8, n9⟩ := hN
  have e0 := hs.e0
  have num := lxG_r4 ht e0.1 e0.2 hs.lx
  have hr0 := red_0 K
  unfold OI
  rw [cS_66, cF_66_0]
  refine OX_bi (S_bi_of ht hU (lf := lf) (V := V) (K := (10, noIn, 0, 0, 0) :: K) hs hm hno ⟨n1, n2, by simp only [List.length_cons]; omega, n4, n5, n6, n7, n8, by simp only [red_co]; simp; omega⟩ hd1 hS1) (Int.le_refl _) fun v1 s1 c1 f1 k1 q1 => ?_
  obtain ⟨e1, t1, sc1, lf1, T1, st1, rfl, tr1, nx1, sz1, g1, x1, x2, x3, x4, x5⟩ := q1
  have tz1 := tSz_1 T1
  have e01 := st1.e0
  have num1 := lxG_r4 ht e01.1 e01.2 st1.lx
  rw [st1.cd]
  by_cases h63 : t1.2.1 = 63
  · obtain ⟨h63', hlt1⟩ := (tok_s ht e01.1 e01.2 st1.lx (c := 63) (by decide) (by decide)).1 h63
    rw [if_pos h63]
    refine OX_to (t_10q ht st1.lx h63' (by omega) (by omega)) ?_
    refine X_here st1 (by omega) (by omega) (by omega) fun s2 k2 b2 n2' st2 => ?_
    have vin := cTr_in tr1
    refine X_add0 st2 (by omega) n2' (cTr_fr tr1 k2 (Int.le_refl _)) (by rw [k2 11 v1 (by omega) (by omega) (by omega)]; exact nx1) n6 (Int.le_refl _) fun s3 k3 b3 n3' st3 => ?_
    refine X_next ht st3 (fun hN' => dm_9 ht (m := (T1 :: V).length) _ _ _ _ _ _ (by omega) (by omega) hN' rfl (by simp only [red_co]; simp; omega) (by simp only [List.length_cons]; omega)) fun t4 s4 hT4 e4 b4 st4 => ?_
    have e04 := st4.e0
    have num4 := lxG_r4 ht e04.1 e04.2 st4.lx
    refine OX_bi (hx s4 t1.2.2.2.1 false t4 (cn + tSz T1 + 1) sc1 W d (rn + tSz T1) noIn lf1 (T1 :: V) ((5, 58, 0, 0, 0) :: (9, noIn, 0, 0, 0) :: (3, 47, t1.2.2.1, 0, V.length) :: K) S st4 (by omega) ⟨n1, n2, by simp only [List.length_cons]; omega, n4, n5, by omega, by omega, by omega, by simp only [red_co]; simp; omega⟩ hno (dm_5 ht)) (by omega) fun v5 s5 c5 f5 k5 q5 => ?_
    obtain ⟨e5, t5, sc5, lf5, T5, st5, rfl, tr5, nx5, sz5, g5, ⟨y1, y2, y3, y4⟩, y5⟩ := q5
    have tz5 := tSz_1 T5
    have e05 := st5.e0
    have num5 := lxG_r4 ht e05.1 e05.2 st5.lx
    refine X_add st5 (by omega) (cNo_fr (cNo_row n3' e4) k5 (Int.le_refl _)) tr5 nx5 (Int.le_refl _) fun s6 k6 b6 n6' st6 => ?_
    have tk := tok_s ht e05.1 e05.2 st5.lx (c := 58) (by decide) (by decide)
    refine X_pass ht st6 (by apply propext; exact ⟨fun z => (tk.1 z).1, fun z => Decidable.byContradiction fun y => tk.2 y z⟩) (by simp only [List.length_cons]; omega) (fun hN' => dm_9 ht (m := (T5 :: T1 :: V).length) _ _ _ _ _ _ (by omega) (by omega) hN' rfl (by simp only [red_co]; simp; omega) (by simp only [List.length_cons]; omega)) fun t7 s7 h58 hT7 e7 b7 st7 => ?_
    have hlt5 := (tk.1 h58).2
    clear tk
    have e07 := st7.e0
    have num7 := lxG_r4 ht e07.1 e07.2 st7.lx
    refine OX_bi (hx s7 t5.2.2.2.1 false t7 (cn + tSz T1 + 1 + tSz T5) sc5 W d (rn + tSz T1 + tSz T5) noIn lf5 (T5 :: T1 :: V) ((3, 47, t1.2.2.1, 0, V.length) :: K) S st7 (by omega) ⟨n1, n2, by simp only [List.length_cons]; omega, n4, n5, by omega, by omega, by omega, by simp only [red_co]; simp; omega⟩ hno (dm_red hD (by simp only [List.length_cons]; omega))) (by omega) fun v8 s8 c8 f8 k8 q8 => ?_
    obtain ⟨e8, t8, sc8, lf8, T8, st8, rfl, tr8, nx8, sz8, g8, ⟨z1, z2, z3, z4⟩, z5⟩ := q8
    have tz8 := tSz_1 T8
    have e08 := st8.e0
    refine X_add st8 (by omega) (cNo_fr (cNo_row n6' e7) k8 (Int.le_refl _)) tr8 nx8 (Int.le_refl _) fun s9 k9 b9 n9' st9 => ?_
    obtain ⟨tr, nx⟩ := cNo_tr n9' false
    have eS : fSz (fo ([T1] ++ [T5] ++ [T8])) = tSz T1 + tSz T5 + tSz T8 := by rw [fSz_fo, fSz_fo, fSz_1]
    have eT : tSz ((47, t1.2.2.1, 0, 0, false), fo ([T1] ++ [T5] ++ [T8])) = 1 + (tSz T1 + tSz T5 + tSz T8) := by
      show 1 + fSz (fo ([T1] ++ [T5] ++ [T8])) = _
      rw [eS]
    refine OX_to (t_red (Vc := [T8, T5, T1]) rfl (by omega) (by omega) 0) (OX_retb ⟨cn + tSz T1, rfl, Or.inr ⟨e8, t8, sc8, false, ((47, t1.2.2.1, 0, 0, false), fo ([T1] ++ [T5] ++ [T8])), ?_, ?_, ?_, nx, by omega, ?_, ⟨⟨show (30 : Int) ≤ 47 by decide, show (47 : Int) ≤ 49 by decide, show (47 : Int) ≠ 38 by decide⟩, fun z => absurd z (show (47 : Int) ≠ 34 by decide), ?_, cm_p_at, fun z => by cases z⟩, z5⟩⟩)
    · rw [eT, show cn + (1 + (tSz T1 + tSz T5 + tSz T8)) = cn + tSz T1 + 1 + tSz T5 + tSz T8 by omega]; exact cSt_p st9
    · rw [eT, show rn + (1 + (tSz T1 + tSz T5 + tSz T8)) = rn + tSz T1 + tSz T5 + tSz T8 + 1 by omega]
      simp [foR, fo]
    · rw [eT, show cn + (1 + (tSz T1 + tSz T5 + tSz T8)) = cn + tSz T1 + 1 + tSz T5 + tSz T8 by omega]; exact cTr_row tr rfl
    · refine gG_mk (gT_no (by simp) (by show 0 ≤ t1.2.2.1; omega) (by show t1.2.2.1 ≤ n; omega) rfl) ⟨T1.1.1, T5.1.1, T8.1.1, rfl, x1, y1, z1⟩ (gW_no (show (47 : Int) ≠ 5 by decide)) fun x hx => ?_
      have : x = T1 ∨ x = T5 ∨ x = T8 := by simpa using hx
      rcases this with rfl | rfl | rfl
      · exact g1
      · exact g5
      · exact g8
    · show 4 + fWt 47 0 0 (fo ([T1] ++ [T5] ++ [T8])) + (if (2 : Int) < 1 then 2 else 0) ≤ _
      have w1 : fWt 47 0 0 (fo ([] ++ [T1])) ≤ 0 + 2 * (e1 - t.2.2.1) := fWt_ch (w := 3) (a := []) rfl x3 (fun z => absurd z (by decide))
      have w1' : fWt 47 0 0 (fo ([] ++ [T1])) = fWt 47 0 0 (fo [T1]) := rfl
      have w2 : fWt 47 0 0 (fo ([T1] ++ [T5])) ≤ fWt 47 0 0 (fo [T1]) + 2 * (e5 - t4.2.2.1) := fWt_ch (w := 1) (a := [T1]) rfl y3 (fun z => absurd z (by decide))
      have w3 : fWt 47 0 0 (fo ([T1] ++ [T5] ++ [T8])) ≤ fWt 47 0 0 (fo ([T1] ++ [T5])) + 2 * (e8 - t7.2.2.1) := fWt_ch (w := 1) (a := [T1] ++ [T5]) rfl z3 (fun z => absurd z (by decide))
      rw [if_neg (by decide)]
      omega
  · rw [if_neg h63]
    exact OX_reti ⟨v1, rfl, Or.inl ⟨e1, t1, sc1, lf1, T1, st1, rfl, tr1, nx1, sz1, g1, ⟨x1, x2, x3, x4, x5⟩, h63⟩⟩
/-- isAssignment -/
abbrev asV (x : Int) : Prop := cm_and x 255 = 61 ∧ (cm_shr x 8 = 0 ∨ cm_shr x 8 = 37 ∨ cm_shr x 8 = 38 ∨ cm_shr x 8 = 42 ∨ cm_shr x 8 = 43 ∨ cm_shr x 8 = 45 ∨ cm_shr x 8 = 47 ∨ cm_shr x 8 = 94 ∨ cm_shr x 8 = 124 ∨ cm_shr x 8 = 15420 ∨ cm_shr x 8 = 15934 ∨ cm_shr x 8 = 4079166)
theorem cs_90 (x : Int) (s : cm_S) : cm_sem 90 [.inl x] s = some (.inl (some (.inl (cm_b (asV x)))), s) := by
  rw [cS_90, cF_90_0]
  by_cases h1 : cm_and x 255 = 61
  · rw [if_pos h1]
    by_cases h : asV x
    · rw [show cm_b (asV x) = 1 from if_pos h]
      obtain ⟨-, h⟩ := h
      rcases h with z | z | z | z | z | z | z | z | z | z | z | z <;> rw [z] <;> rfl
    · rw [show cm_b (asV x) = 0 from if_neg h]
      have h2 : ¬ (cm_shr x 8 = 0 ∨ cm_shr x 8 = 37 ∨ cm_shr x 8 = 38 ∨ cm_shr x 8 = 42 ∨ cm_shr x 8 = 43 ∨ cm_shr x 8 = 45 ∨ cm_shr x 8 = 47 ∨ cm_shr x 8 = 94 ∨ cm_shr x 8 = 124 ∨ cm_shr x 8 = 15420 ∨ cm_shr x 8 = 15934 ∨ cm_shr x 8 = 4079166) := fun z => h ⟨h1, z⟩
      generalize cm_shr x 8 = y at h2 ⊢
      rw [if_neg (by omega), if_neg (by omega), if_neg (by omega), if_neg (by omega), if_neg (by omega), if_neg (by omega), if_neg (by omega), if_neg (by omega), if_neg (by omega), if_neg (by omega), if_neg (by omega), if_neg (by omega)]
  · rw [if_neg h1, show cm_b (asV x) = 0 from if_neg (fun z => h1 z.1)]
theorem as_sg : ∀ x ∈ sgS, asV x ↔ asR x := by decide +kernel
theorem as_wd : ∀ x : Fin 28, ¬ asV (x.val : Int) := by decide +kernel
theorem asP_b {x : Int} (h : asP x) : 61 ≤ x ∧ (x < 1000 ∨ 1026 < x) := by
  unfold asP asR at h
  rcases h with rfl | rfl | rfl | rfl | rfl | rfl | rfl | rfl | rfl | rfl | rfl | rfl <;> decide
theorem as_tk {t : tTk} (h : tkOk t) : asV t.2.1 ↔ asP (rNo t) := by
  have tn := tk_num h
  rcases h with ⟨h1, h2⟩ | ⟨h1, h2, h3⟩ | ⟨h1, h2⟩
  · have a := as_wd ⟨0, by decide⟩
    rw [h2]
    refine ⟨fun z => absurd z a, fun z => ?_⟩
    have := asP_b z
    omega
  · have a := as_wd ⟨t.2.1.toNat, by omega⟩
    have e : ((t.2.1.toNat : Nat) : Int) = t.2.1 := by omega
    rw [e] at a
    refine ⟨fun z => absurd z a, fun z => ?_⟩
    have := asP_b z
    omega
  · rw [as_sg _ h2, show rNo t = t.2.1 by omega]
    exact Iff.rfl
theorem S_x_of (ht : tOk tx n) {m : Nat} (hx : S_x tx n m) (hU : S_un tx n (m + 1)) : S_x tx n (m + 1) := by
  intro s e g t0 cn sc W d rn noIn lf V K S hs hm hN hno hD
  obtain ⟨n1, n2, n3, n4, n5, n6, n7, n8, n9⟩ := hN
  have e0 := hs.e0
  have hr0 := red_0 K
  unfold OI
  rw [cS_65, cF_65_0]
  refine X_within ht hs (fun hN' => b_9n (t := t0) ht hN' (by omega)) (fun t' hT' hz => be_9 ht hT' hz n1 (by omega) (by omega)) (fun t' hT' hz hd => b_9d ht hT' (by omega) hz (by omega)) fun t s1 hT hz hd e1 b1 st1 => ?_
  have hbg := (lxG_beg hs.lx hT).1
  rw [← hbg] at n7 ⊢
  have num := lxG_r4 ht e0.1 e0.2 hT
  refine OX_to (t_9 ht hT n1 (Or.inl hd) (by omega)) ?_
  rw [cm_w_id (show -2147483648 ≤ d + 1 by omega) (by omega)]
  refine OX_bi (ch_of ht hx hU (d := d + 1) (rn := rn) (lf := lf) (V := V) (K := (4, 0, 0, 0, 0) :: K) (S := S) st1 (by omega) hno ⟨by omega, by omega, by simp only [List.length_cons]; omega, n4, by omega, n6, n7, n8, by simp only [red_co]; simp; omega⟩ (by omega) (by omega) (dm_lv hD)) (Int.le_refl _) fun v2 s2 c2 f2 k2 q2 => ?_
  rcases q2 with ⟨e2, t2, sc2, lf2, T, st2, rfl, tr2, nx2, sz2, g2, ⟨x1, x2, x3, x4, x5⟩, h63⟩ | ⟨e2, t2, sc2, lf2, T, st2, rfl, tr2, nx2, sz2, g2, ⟨x1, x2, x3, x4, x5⟩, hna⟩
  · have tz := tSz_1 T
    have e02 := st2.e0
    have num2 := lxG_r4 ht e02.1 e02.2 st2.lx
    have ok2 := (lxG_ok ht e02.1 e02.2 st2.lx).1
    have h63' := (tok_s ht e02.1 e02.2 st2.lx (c := 63) (by decide) (by decide)).2 h63
    have x3' : tWb 1 T ≤ 2 * (e2 - t.2.2.1) := by
      have := tWb_mono (show (1 : Int) ≤ 3 by decide) T
      omega
    rw [st2.cd, cs_90, cm_bi_i]
    by_cases has : asP (rNo t2)
    · rw [if_neg (by rw [cm_b0]; exact fun z => z ((as_tk ok2).mpr has)), x4]
      cases lf2 with
      | false =>
        rw [if_pos (by decide)]
        exact X_refuse (b_10a (lf := false) ht st2.lx h63' has (by simp only [List.length_cons]; omega))
      | true =>
        rw [if_neg (by decide)]
        have x15 := x5 rfl
        have hk6 : t2.1 = 6 := by have tn := tk_num ok2; have := asP_b has; omega
        have hlt2 : t2.2.2.1 < t2.2.2.2.1 := ((tok_k ht e02.1 e02.2 st2.lx).2.2.2.1 (by omega)).2
        refine OX_to (t_10a (lf := false) ht st2.lx h63' has (by omega) (by simp only [List.length_cons]; omega)) ?_
        refine X_of ht st2 (by omega) (by omega) (by omega) (fun hN' => dm_9 ht (m := (T :: V).length) _ _ _ _ _ _ (by omega) (by omega) hN' rfl (by simp only [red_co]; simp; omega) (by simp only [List.length_cons]; omega)) fun t3 s3 hT3 k3 b3 n3' st3 => ?_
        have e03 := st3.e0
        have num3 := lxG_r4 ht e03.1 e03.2 st3.lx
        have vin := cTr_in tr2
        refine X_add0 st3 (by omega) n3' (cTr_fr tr2 k3 (Int.le_refl _)) (by rw [k3 11 v2 (by omega) (by omega) (by omega)]; exact nx2) n6 (Int.le_refl _) fun s4 k4 b4 n4' st4 => ?_
        refine OX_bi (hx s4 t2.2.2.2.1 false t3 (cn + tSz T + 1) sc2 W (d + 1) (rn + tSz T) noIn true (T :: V) ((3, 48, t2.2.2.1, t2.2.2.2.1 - t2.2.2.1, V.length) :: (4, 0, 0, 0, 0) :: K) S st4 (by omega) ⟨by omega, by omega, by simp only [List.length_cons]; omega, n4, by omega, by omega, by omega, by omega, by simp only [red_co]; simp; omega⟩ hno (dm_red (dm_lv hD) (by simp only [List.length_cons]; omega))) (by omega) fun v5 s5 c5 f5 k5 q5 => ?_
        obtain ⟨e5, t5, sc5, lf5, T5, st5, rfl, tr5, nx5, sz5, g5, ⟨y1, y2, y3, y4⟩, y5⟩ := q5
        have tz5 := tSz_1 T5
        have e05 := st5.e0
        refine X_add st5 (by omega) (cNo_fr n4' k5 (Int.le_refl _)) tr5 nx5 (Int.le_refl _) fun s6 k6 b6 n6' st6 => ?_
        obtain ⟨tr, nx⟩ := cNo_tr n6' false
        have eS : fSz (fo ([T] ++ [T5])) = tSz T + tSz T5 := by rw [fSz_fo, fSz_1]
        have eT : tSz ((48, t2.2.2.1, t2.2.2.2.1 - t2.2.2.1, t2.2.1, false), fo ([T] ++ [T5])) = 1 + (tSz T + tSz T5) := by
          show 1 + fSz (fo ([T] ++ [T5])) = _
          rw [eS]
        refine OX_to (t_red (Vc := [T5, T]) rfl (by omega) (by simp only [List.length_cons]; omega) t2.2.1) (OX_to (t_lv (by omega) (by omega) (by omega)) (OX_retb ⟨cn + tSz T, rfl, e5, t5, sc5, false, ((48, t2.2.2.1, t2.2.2.2.1 - t2.2.2.1, t2.2.1, false), fo ([T] ++ [T5])), ?_, ?_, ?_, nx, by omega, ?_, ⟨⟨show (30 : Int) ≤ 48 by decide, show (48 : Int) ≤ 49 by decide, show (48 : Int) ≠ 38 by decide⟩, fun z => absurd z (show (48 : Int) ≠ 34 by decide), ?_, cm_p_at, fun z => by cases z⟩, y5⟩))
        · rw [eT, show cn + (1 + (tSz T + tSz T5)) = cn + tSz T + 1 + tSz T5 by omega]; exact cSt_p st6
        · rw [eT, show rn + (1 + (tSz T + tSz T5)) = rn + tSz T + tSz T5 + 1 by omega]
          simp [foR, fo]
        · rw [eT, show cn + (1 + (tSz T + tSz T5)) = cn + tSz T + 1 + tSz T5 by omega]; exact cTr_row tr rfl
        · refine gG_mk (gT_tk ht e02.1 e02.2 st2.lx false hk6) ⟨T.1.1, T5.1.1, rfl, x1, y1⟩ (gW_no (show (48 : Int) ≠ 5 by decide)) fun x hx => ?_
          have : x = T ∨ x = T5 := by simpa using hx
          rcases this with rfl | rfl
          · exact g2
          · exact g5
        · show 2 * (t2.2.2.2.1 - t2.2.2.1) + fWt 48 t2.2.1 0 (fo ([T] ++ [T5])) + (if (1 : Int) < 1 then 2 else 0) ≤ _
          have w1 : fWt 48 t2.2.1 0 (fo ([] ++ [T])) ≤ 0 + 2 * (e2 - t.2.2.1) := fWt_ch (w := 15) (a := []) rfl x15 (fun z => absurd z (by decide))
          have w1' : fWt 48 t2.2.1 0 (fo ([] ++ [T])) = fWt 48 t2.2.1 0 (fo [T]) := rfl
          have w2 : fWt 48 t2.2.1 0 (fo ([T] ++ [T5])) ≤ fWt 48 t2.2.1 0 (fo [T]) + 2 * (e5 - t3.2.2.1) := fWt_ch (w := 1) (a := [T]) rfl y3 (fun z => absurd z (by decide))
          rw [if_neg (by decide)]
          omega
    · rw [if_pos (by rw [cm_b0]; exact fun z => has ((as_tk ok2).mp z))]
      exact OX_to (t_10n ht st2.lx h63' has (by simp only [List.length_cons]; omega)) (OX_to (t_lv (by omega) (by omega) (by omega)) (OX_reti ⟨v2, rfl, e2, t2, sc2, lf2, T, st2, rfl, tr2, nx2, sz2, g2, ⟨x1, x2, x3', x4, x5⟩, has⟩))
  · have tz := tSz_1 T
    have e02 := st2.e0
    have ok2 := (lxG_ok ht e02.1 e02.2 st2.lx).1
    rw [st2.cd, cs_90, cm_bi_i, if_pos (by rw [cm_b0]; exact fun z => hna ((as_tk ok2).mp z))]
    exact OX_to (t_lv (by omega) (by omega) (by omega)) (OX_reti ⟨v2, rfl, e2, t2, sc2, lf2, T, st2, rfl, tr2, nx2, sz2, g2, ⟨x1, x2, x3, x4, x5⟩, hna⟩)
end TX55
