/-! ===== try ===== -/
section TX64
variable {tx : Int → Int} {n : Int}
theorem gG_n0 (ht : tOk tx n) : gG tx n tN0 := by
  have := ht.1
  exact gG_mk (L := []) (gT_no (by simp) (by show (0 : Int) ≤ 0; omega) (by show (0 : Int) ≤ n; omega) rfl) rfl (gW_no (show (21 : Int) ≠ 5 by decide)) fun x hx => by cases hx
/-- catch ( NAME ) { .. } -/
theorem S_ca_of (ht : tOk tx n) {m : Nat} (hSt : S_st tx n m) {s : cm_S} {e : Int} {t : tTk} {cn sc : Int} {W : List (Int × Int)} {d rn : Int} {lf : Bool} {V : List tT} {K : List rTs} {S : List rSg} (hs : cSt tx n s e false t cn sc W) (hm : n - e ≤ m) (hc : t.2.1 = 3) (hN : Nu t.2.2.1 cn rn d 3 14 K S W) (hD : Dm tx n K (V.length + 1) S) : OI tx n s cn (cm_sem 105 [.inr (.inl 14), .inl d] s) (t.2.2.2.1, d, rn, sc, lf, V, (5, 40, 0, 0, 0) :: (41, 0, 0, 0, 0) :: K, S) (Po tx n t.2.2.1 cn rn d V K S W fun s' e' t' lf' T => T.1.1 = 19 ∧ tWt T + 7 ≤ 2 * (e' - t.2.2.1) ∧ t.2.2.1 + 7 + tSz T ≤ e') := by
  obtain ⟨n1, n2, n3, n4, n5, n6, n7, n8, n9⟩ := hN
  have e0 := hs.e0
  have num := lxG_r4 ht e0.1 e0.2 hs.lx
  have hr0 := red_0 K
  obtain ⟨a1, a2⟩ := tok_l ht e0.1 e0.2 hs.lx (w := 3) (by decide) (by decide) hc
  have a3 : wl 3 = 5 := by decide
  unfold OI
  rw [cS_105, cF_105_0]
  refine X_next ht hs (fun hN' => dm_5 ht (m := V.length) _ _ _ _ _ _ (by omega) (by omega) hN' rfl (by simp only [red_co]; simp; omega) (by simp only [List.length_cons]; omega)) fun t1 s1 hT1 e1 b1 st1 => ?_
  have e01 := st1.e0
  have num1 := lxG_r4 ht e01.1 e01.2 st1.lx
  have tk := tok_s ht e01.1 e01.2 st1.lx (c := 40) (by decide) (by decide)
  refine X_pass ht st1 (by apply propext; exact ⟨fun z => (tk.1 z).1, fun z => Decidable.byContradiction fun y => tk.2 y z⟩) (by simp only [List.length_cons]; omega) (fun hN' => dm_41 ht (m := V.length) _ _ _ _ _ _ (by omega) (by omega) hN' rfl (by simp only [red_co]; simp; omega) (by simp only [List.length_cons]; omega)) fun t2 s2 h40 hT2 e2 b2 st2 => ?_
  have lt1 := (tk.1 h40).2
  clear tk
  have e02 := st2.e0
  have num2 := lxG_r4 ht e02.1 e02.2 st2.lx
  have sk := tok_k ht e02.1 e02.2 st2.lx
  rw [cS_63, cF_63_0, st2.kd]
  by_cases h1 : t2.1 = 1
  · obtain ⟨g1, lt2⟩ := sk.1 h1
    clear sk
    have hz := tk_1 ht e02.1 e02.2 st2.lx h1
    rw [if_pos h1, cm_bv_o]
    refine OX_to (t_41 ht st2.lx g1 (by omega)) ?_
    refine X_of ht st2 n6 (by omega) (Int.le_refl _) (fun hN' => dm_5 ht (m := V.length) _ _ _ _ _ _ (by omega) (by omega) hN' rfl (by simp only [red_co]; simp; omega) (by simp only [List.length_cons]; omega)) fun t3 s3 hT3 k3 b3 n3' st3 => ?_
    rw [hz] at n3'
    have e03 := st3.e0
    have num3 := lxG_r4 ht e03.1 e03.2 st3.lx
    have tk := tok_s ht e03.1 e03.2 st3.lx (c := 41) (by decide) (by decide)
    refine X_pass ht st3 (by apply propext; exact ⟨fun z => (tk.1 z).1, fun z => Decidable.byContradiction fun y => tk.2 y z⟩) (by simp only [List.length_cons]; omega) (fun hN' => dm_38 ht (m := V.length) _ _ _ _ _ _ (by omega) (by omega) hN' rfl (by simp only [red_co]; simp; omega) (by simp only [List.length_cons]; omega)) fun t4 s4 h41 hT4 e4 b4 st4 => ?_
    have lt3 := (tk.1 h41).2
    clear tk
    have e04 := st4.e0
    have num4 := lxG_r4 ht e04.1 e04.2 st4.lx
    refine OX_bi (S_bl_of ht hSt st4 st4.lx (by omega) (d := d) (rn := rn) (lf := lf) (V := V) (K := (3, 19, t2.2.2.1, t2.2.2.2.1 - t2.2.2.1, V.length) :: K) (S := S) ⟨n1, n2, by simp only [List.length_cons]; omega, n4, n5, by omega, by omega, n8, by simp only [red_co]; simp; omega⟩ (dm_red hD (by omega))) (by omega) fun v5 s5 cc5 f5 k5 q5 => ?_
    obtain ⟨e5, t5, sc5, lf5, T, st5, rfl, tr5, nx5, sz5, g5, x5, w5⟩ := q5
    have tz := tSz_1 T
    have e05 := st5.e0
    refine X_add st5 (by omega) (cNo_fr (cNo_row n3' e4) k5 (Int.le_refl _)) tr5 nx5 (Int.le_refl _) fun s6 k6 b6 n6' st6 => ?_
    have eL : fSz (fo ([] ++ [T])) = tSz T := fSz_1 T
    have wa : fWt 19 0 0 (fo ([] ++ [T])) ≤ 0 + 2 * (e5 - t4.2.2.1) := fWt_c0 (a := []) (tWn_0 (Or.inl (by decide))) w5 (by decide)
    refine OX_to (t_red (Vc := [T]) rfl (by omega) (by omega) 0) (OX_reti ⟨cn, rfl, ?_⟩)
    obtain ⟨tr, nx⟩ := cNo_tr n6' false
    have sz : tSz ((19, t2.2.2.1, t2.2.2.2.1 - t2.2.2.1, 0, false), fo ([] ++ [T])) = 1 + tSz T := by
      show 1 + fSz (fo ([] ++ [T])) = _
      rw [eL]
    refine ⟨e5, t5, sc5, lf5 && decide ((19 : Int) < 44 ∨ 49 < (19 : Int)), ((19, t2.2.2.1, t2.2.2.2.1 - t2.2.2.1, 0, false), fo ([] ++ [T])), ?_, ?_, ?_, nx, by omega, gG_mk ?_ ?_ (gW_no (show (19 : Int) ≠ 5 by decide)) ?_, rfl, ?_, by omega⟩
    · rw [sz, show cn + (1 + tSz T) = cn + 1 + tSz T by omega]; exact st6
    · rw [sz, show rn + (1 + tSz T) = rn + tSz T + 1 by omega]; rfl
    · rw [sz, show cn + (1 + tSz T) = cn + 1 + tSz T by omega]; exact tr
    · have := gT_nm ht e02.1 e02.2 st2.lx (k := 19) (by decide) h1 false
      rw [hz] at this
      exact this
    · show [T.1.1] = [1]
      rw [x5]
    · intro x hx
      have : x = T := by simpa using hx
      subst this
      exact g5
    · show 7 + 2 * (t2.2.2.2.1 - t2.2.2.1) + fWt 19 0 0 (fo ([] ++ [T])) + 7 ≤ _
      omega
  · have g1 := sk.2.1 h1
    rw [if_neg h1]
    refine OX_bv (lo1 := cn) (Q1 := fun _ _ => False) ?_ (Int.le_refl _) fun _ _ _ _ q => q.elim
    exact X_refuse (b_41 ht st2.lx g1 (by omega))
end TX64
