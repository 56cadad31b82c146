/-! ===== for ===== -/
section TX70
variable {tx : Int → Int} {n : Int}
theorem cs_97 {s : cm_S} {cn v lo : Int} {l : Int × Int × Int × Int} {L : List tT} (hn : cNo s cn v l lo L) (h1 : 1 ≤ L.length) (hc : s.1 410 = cn) (h5 : cn ≤ 512) : cm_sem 97 [.inr (.inl 4), .inl v] s = some (.inl (some (.inl (cm_b (L.length = 1)))), s) := by
  obtain ⟨ch, rfl, -, -, -, -, -, ⟨k, ⟨⟨c1, c2, -, -⟩, pw, hq⟩⟩, l0, l1, l2, hr⟩ := hn
  rw [cS_97, cF_97_0, cs_59, cm_bi_i, if_neg (by rw [cm_b0]; exact fun z => z ⟨by omega, by omega, by omega⟩), if_pos ⟨by omega, by omega⟩]
  cases ch with
  | nil => simp at h1
  | cons q rest =>
    have hq0 := hq q (List.mem_cons_self ..)
    have hr0 := hr q (List.mem_cons_self ..)
    have i0 := cRep_in hq0.2
    have c1 : s.2 9 v = q.1 := c1
    rw [cs_59, c1, cm_bi_i, if_neg (by rw [cm_b0]; exact fun z => z ⟨by omega, by omega, by omega⟩), if_pos ⟨by omega, by omega⟩, if_pos ⟨by omega, by omega⟩, c1]
    cases rest with
    | nil =>
      have c2 : s.2 10 v = q.1 := c2
      rw [c2, if_pos rfl]
      simp [cm_b]
    | cons q2 r2 =>
      have c3 : s.2 10 v = (r2.map (·.1)).getLastD q2.1 := by
        rw [c2, List.map_cons, List.map_cons, List.getLastD_cons, List.getLastD_cons]
      have mem : (r2.map (·.1)).getLastD q2.1 ∈ q2.1 :: r2.map (·.1) := List.getLastD_mem_cons
      rw [← c3] at mem
      have : ∃ y ∈ q2 :: r2, y.1 = s.2 10 v := List.mem_map.mp (show s.2 10 v ∈ (q2 :: r2).map (·.1) from mem)
      obtain ⟨y, hy, ey⟩ := this
      have p1 := (List.pairwise_cons.mp pw).1 y hy
      have iy := cRep_in (hq y (List.mem_cons_of_mem _ hy)).2
      rw [if_neg (by omega)]
      simp [cm_b]
/-- for .. -/
theorem U_fo (ht : tOk tx n) {m : Nat} (hx : S_x tx n m) (hSt : S_st tx n m) {s : cm_S} {e : Int} {t : tTk} {cn sc : Int} {W : List (Int × Int)} {d rn : Int} {lf : Bool} {V : List tT} {K : List rTs} {S : List rSg} (hs : cSt tx n s e true t cn sc W) (hm : n - e ≤ m) (hc : t.2.1 = 11) (hd : 0 ≤ d ∧ d < 20) (hK : (K.length : Int) ≤ 20 * d + 20) (hS : (S.length : Int) = W.length ∧ (S.length : Int) ≤ 10 * d) (hcb : 0 ≤ cn ∧ cn ≤ t.2.2.1 + 1) (hrn : 0 ≤ rn ∧ rn + red K ≤ cn) (hD : Dm tx n K (V.length + 1) S) : OI tx n s cn (cm_sem 95 [.inr (.inl 14), .inl (d + 1)] s) (t.2.2.2.1, d + 1, rn, sc, lf, V, (5, 40, 0, 0, 0) :: (33, t.2.2.1, V.length, 0, 0) :: (4, 0, 0, 0, 0) :: K, S) (PoU tx n t.2.2.1 cn rn d V K S W) := by
  have e0 := hs.e0
  have num := lxG_r4 ht e0.1 e0.2 hs.lx
  have hr0 := red_0 K
  obtain ⟨a1, a2⟩ := tok_l ht e0.1 e0.2 hs.lx (w := 11) (by decide) (by decide) hc
  have a3 : wl 11 = 3 := by decide
  unfold OI
  rw [cS_95, cF_95_0, hs.bg]
  refine X_next ht hs (fun hN' => dm_5 ht (m := V.length) _ _ _ _ _ _ (by omega) (by omega) hN' rfl (by simp only [red_co]; simp; omega) (by simp only [List.length_cons]; omega)) fun t1 s1 hT1 e1 b1 st1 => ?_
  have e01 := st1.e0
  have num1 := lxG_r4 ht e01.1 e01.2 st1.lx
  have tk := tok_s ht e01.1 e01.2 st1.lx (c := 40) (by decide) (by decide)
  refine X_pass ht st1 (by apply propext; exact ⟨fun z => (tk.1 z).1, fun z => Decidable.byContradiction fun y => tk.2 y z⟩) (by simp only [List.length_cons]; omega) (fun hN' => dm_33 ht (m := V.length) _ _ _ _ _ _ (by omega) (by omega) hN' rfl (by simp only [red_co]; simp; omega) (by simp only [List.length_cons]; omega)) fun t2 s2 h40 hT2 e2 b2 st2 => ?_
  have lt1 := (tk.1 h40).2
  clear tk
  have e02 := st2.e0
  have num2 := lxG_r4 ht e02.1 e02.2 st2.lx
  have s59 := tok_s ht e02.1 e02.2 st2.lx (c := 59) (by decide) (by decide)
  have w25 := tok_w ht e02.1 e02.2 st2.lx (w := 25) (by decide) (by decide)
  rw [st2.cd]
  by_cases h59 : t2.2.1 = 59
  · obtain ⟨g59, lt2⟩ := s59.1 h59
    clear s59 w25
    rw [if_pos h59]
    refine OX_to (t_33s ht (lxG_tc ht e02.1 e02.2 st2.lx (by omega)) g59 (by omega) (by simp only [List.length_cons]; omega)) ?_
    refine X_noth st2 (by omega) (by omega) (by omega) fun s3 k3 b3 tr3 nx3 st3 => ?_
    exact OI_tail (F_pt ht hx hSt (T1 := tN0) (rn := rn) st3 tr3 nx3 (by omega) (by omega) hd hK hS hcb hrn hD (by rw [tSz_n0]; omega) (by rw [tWt_n0]; omega) (gG_n0 ht) (Or.inr (Or.inr rfl)))
  · have n59 := s59.2 h59
    clear s59
    rw [if_neg h59]
    by_cases h25 : t2.2.1 = 25
    · clear w25
      obtain ⟨g25, l25⟩ := tok_l ht e02.1 e02.2 st2.lx (w := 25) (by decide) (by decide) h25
      have l25' : wl 25 = 3 := by decide
      rw [if_pos h25]
      refine OX_to (t_33v ht (lxG_tc ht e02.1 e02.2 st2.lx (by omega)) g25 (by simp only [List.length_cons]; omega)) ?_
      refine OX_bi (S_dc_of ht hx st2 (by omega) (by omega) (Or.inr rfl) (d := d + 1) (rn := rn) (lf := lf) (V := V) (K := (34, t.2.2.1, V.length, t2.2.2.1, V.length) :: (4, 0, 0, 0, 0) :: K) (S := S) hcb.1 ⟨by omega, by omega, by simp only [List.length_cons]; omega, hS.1, by omega, by omega, by omega, hrn.1, by simp only [red_co]; simp; omega⟩) (by omega) fun v3 s3 c3 f3 k3 q3 => ?_
      obtain ⟨e3, t3, sc3, lf3, L, st3, rfl, no3, sz3, l3, g3, w3⟩ := q3
      have e03 := st3.e0
      have f0 := fSz_0 (fo L)
      obtain ⟨tr3, nx3⟩ := cNo_tr no3 false
      have szT : tSz ((2, t2.2.2.1, 0, 0, false), fo L) = 1 + fSz (fo L) := rfl
      have gT1 : gG tx n ((2, t2.2.2.1, 0, 0, false), fo L) := gG_mk (gT_no (by simp) (by show 0 ≤ t2.2.2.1; omega) (by show t2.2.2.1 ≤ n; omega) rfl) ⟨fun h => by rw [List.map_eq_nil_iff] at h; subst h; simp at l3, fun x hx => by
        obtain ⟨y, hy, rfl⟩ := List.mem_map.mp hx
        exact (g3 y hy).2⟩ (gW_no (show (2 : Int) ≠ 5 by decide)) fun x hx => (g3 x hx).1
      have wT1 : tWt ((2, t2.2.2.1, 0, 0, false), fo L) + 7 ≤ 2 * (e3 - t.2.2.1) := by
        show 2 * fLn (fo L) + 5 + fWt 2 0 0 (fo L) + 7 ≤ _
        rw [fLn_fo]
        omega
      have st3' : cSt tx n s3 e3 false t3 (cn + tSz ((2, t2.2.2.1, 0, 0, false), fo L)) sc3 W := by rw [szT, show cn + (1 + fSz (fo L)) = cn + 1 + fSz (fo L) by omega]; exact st3
      have tr3' : cTr s3 cn (cn + tSz ((2, t2.2.2.1, 0, 0, false), fo L)) v3 ((2, t2.2.2.1, 0, 0, false), fo L) := by rw [szT, show cn + (1 + fSz (fo L)) = cn + 1 + fSz (fo L) by omega]; exact tr3
      have w14 := tok_w ht e03.1 e03.2 st3.lx (w := 14) (by decide) (by decide)
      rw [st3.cd]
      by_cases h14 : t3.2.1 = 14
      · have g14 := (w14.1 h14).1
        clear w14
        rw [if_pos h14, cs_97 no3 l3 st3.cn (by omega), cm_bi_i]
        by_cases h1 : L.length = 1
        · rw [if_neg (by rw [cm_b0]; exact fun z => z h1)]
          obtain ⟨T, rfl⟩ := List.length_eq_one_iff.mp h1
          have := t_34i (tx := tx) (n := n) ht (d := d + 1) (rn := rn + fSz (fo [T])) (pu := sc3) (lf := lf3) (V := V) (K := (4, 0, 0, 0, 0) :: K) (S := S) (a := t.2.2.1) (b := V.length) (c := t2.2.2.1) (T := T) st3.lx g14 (by omega) (by simp only [List.length_cons]; omega)
          refine OX_to this ?_
          rw [show rn + fSz (fo [T]) + 1 = rn + tSz ((2, t2.2.2.1, 0, 0, false), fo [T]) by rw [szT]; omega]
          exact OI_tail (F_in ht hx hSt st3' tr3' nx3 h14 (by omega) (by omega) hd hK hS hcb hrn hD (by omega) wT1 gT1 (Or.inr rfl))
        · rw [if_pos (by rw [cm_b0]; exact h1)]
          exact X_refuse (b_34 ht (Vc := L.reverse) st3.lx g14 (by rw [List.length_reverse]; exact h1) (by omega) (by simp only [List.length_cons]; omega))
      · have g14 := w14.2 h14
        clear w14
        rw [if_neg h14]
        refine OX_to (t_34o ht (Vc := L.reverse) st3.lx g14 (by omega) (by simp only [List.length_cons]; omega)) ?_
        rw [foR_rev, show rn + fSz (fo L) + 1 = rn + tSz ((2, t2.2.2.1, 0, 0, false), fo L) by rw [szT]; omega]
        exact OI_tail (F_pt ht hx hSt st3' tr3' nx3 (by omega) (by omega) hd hK hS hcb hrn hD (by omega) wT1 gT1 (Or.inr (Or.inl rfl)))
    · have n25 := w25.2 h25
      clear w25
      rw [if_neg h25]
      cases hT' : lxG tx n true t1.2.2.2.1 with
      | none =>
        obtain ⟨s', e3, e4⟩ := seq_none ht st2 hT' (d + 1) 1
        exact X_thri e3 e4 (b_33n (t := t) ht hT' (by omega) (by simp only [List.length_cons]; omega))
      | some t9 =>
        have hne : rNo t9 ≠ 59 ∧ rNo t9 ≠ 1024 := by
          rcases lxG_tf ht e02.1 e02.2 st2.lx hT' with rfl | ⟨h, -⟩
          · exact ⟨n59, n25⟩
          · have : rNo t9 = 4 := by unfold rNo; rw [h]; rfl
            omega
        refine OX_to (t_33x ht hT' hne (by simp only [List.length_cons]; omega)) ?_
        refine OX_bi (S_seq_of ht hx s2 t1.2.2.2.1 false t2 cn sc W (d + 1) rn 1 lf V ((35, t.2.2.1, V.length, 0, 0) :: (4, 0, 0, 0, 0) :: K) S st2 (by omega) ⟨by omega, by omega, by simp only [List.length_cons]; omega, hS.1, by omega, by omega, by omega, by omega, by simp only [red_co]; simp; omega⟩ (Or.inr rfl) (dm_35 ht)) (by omega) fun v3 s3 c3 f3 k3 q3 => ?_
        obtain ⟨e3, t3, sc3, lf3, T, st3, rfl, tr3, nx3, sz3, g3, x3, y2, y3, y4, y5⟩ := q3
        rw [tWb_0] at y3
        have tz := tSz_1 T
        have e03 := st3.e0
        have w14 := tok_w ht e03.1 e03.2 st3.lx (w := 14) (by decide) (by decide)
        rw [st3.cd, y4]
        by_cases h14 : t3.2.1 = 14
        · have g14 := (w14.1 h14).1
          clear w14
          rw [if_pos h14]
          cases lf3 with
          | false =>
            rw [if_pos (by decide)]
            exact X_refuse (b_35 (lf := false) ht st3.lx g14 (by simp only [List.length_cons]; omega))
          | true =>
            rw [if_neg (by decide)]
            refine OX_to (t_35i (lf := true) ht st3.lx g14 (by simp only [List.length_cons]; omega)) ?_
            exact OI_tail (F_in ht hx hSt st3 tr3 nx3 h14 (by omega) (by omega) hd hK hS hcb hrn hD (by omega) (by omega) g3 (Or.inl x3))
        · have g14 := w14.2 h14
          clear w14
          rw [if_neg h14]
          refine OX_to (t_35o ht st3.lx g14 (by simp only [List.length_cons]; omega)) ?_
          exact OI_tail (F_pt ht hx hSt st3 tr3 nx3 (by omega) (by omega) hd hK hS hcb hrn hD (by omega) (by omega) g3 (Or.inl x3))
end TX70
