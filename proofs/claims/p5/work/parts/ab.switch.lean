/-! ===== switch ===== -/
section TX67
variable {tx : Int → Int} {n : Int}
/-- case X : .., default : .. -/
theorem S_cs_of (ht : tOk tx n) {m : Nat} (hx : S_x tx n m) (hSt : S_st tx n m) {s : cm_S} {e : Int} {t : tTk} {cn sc : Int} {W : List (Int × Int)} {d rn : Int} {lf : Bool} {V : List tT} {K : List rTs} {S : List rSg} (hs : cSt tx n s e false t cn sc W) (hm : n - e ≤ m) (hc : t.2.1 ≠ 125) (hN : Nu t.2.2.1 cn rn d 1 15 K S W) : OI tx n s cn (cm_sem 102 [.inr (.inl 14), .inl d] s) (e, d, rn, sc, lf, V, (37, 0, 0, 0, 0) :: K, S) (PoC tx n t.2.2.1 cn rn d V ((37, 0, 0, 0, 0) :: K) S W) := by
  obtain ⟨n1, n2, n3, n4, n5, n6, n7, n8, n9⟩ := hN
  have e0 := hs.e0
  have num := lxG_r4 ht e0.1 e0.2 hs.lx
  have hr0 := red_0 K
  have hc1 := (tok_s ht e0.1 e0.2 hs.lx (c := 125) (by decide) (by decide)).2 hc
  unfold OI
  rw [cS_102, cF_102_0]
  refine X_here hs n6 (by omega) (Int.le_refl _) fun s1 k1 b1 n1' st1 => ?_
  rw [st1.cd]
  by_cases h5 : t.2.1 = 5
  · obtain ⟨a1, a2⟩ := tok_l ht e0.1 e0.2 hs.lx (w := 5) (by decide) (by decide) h5
    have a3 : wl 5 = 7 := by decide
    rw [if_pos h5]
    refine OX_to (t_37d ht hs.lx a1 (by omega) (by omega)) ?_
    refine X_next ht st1 (fun hN' => dm_5 ht (m := (tN0 :: V).length) _ _ _ _ _ _ (by omega) (by omega) hN' rfl (by simp only [red_co]; simp; omega) (by simp only [List.length_cons]; omega)) fun t2 s2 hT2 e2 b2 st2 => ?_
    refine X_noth st2 (by omega) (by omega) (by omega) fun s3 k3 b3 tr3 nx3 st3 => ?_
    refine X_add st3 (by omega) (cNo_fr (cNo_row n1' e2) k3 (by omega)) tr3 nx3 (Int.le_refl _) fun s4 k4 b4 n4' st4 => ?_
    have e02 := st2.e0
    have num2 := lxG_r4 ht e02.1 e02.2 st2.lx
    have tk := tok_s ht e02.1 e02.2 st2.lx (c := 58) (by decide) (by decide)
    refine X_pass ht st4 (by apply propext; exact ⟨fun z => (tk.1 z).1, fun z => Decidable.byContradiction fun y => tk.2 y z⟩) (by simp only [List.length_cons]; omega) (fun hN' => dm_1 ht (m := (tN0 :: V).length) _ _ _ _ _ _ (by omega) (by omega) hN' rfl (by simp only [red_co]; simp; omega) (by simp only [List.length_cons]; omega)) fun t5 s5 h58 hT5 e5 b5 st5 => ?_
    have lt2 := (tk.1 h58).2
    clear tk
    have e05 := st5.e0
    have num5 := lxG_r4 ht e05.1 e05.2 st5.lx
    have dl5 := dl_01 t5
    have z1 : fSz (fo ([] ++ [tN0])) = 1 := rfl
    have w1 : fWt 15 0 0 (fo ([] ++ [tN0])) = 0 := rfl
    have := ca_lp ht hSt (d := d) (rn := rn) (b := t.2.2.1) (cn := cn) (v := cn) (V := V) (K := (37, 0, 0, 0, 0) :: K) (S := S) (W := W) (dm_37 ht) (by omega) ⟨n1, n2⟩ (by simp only [List.length_cons]; omega) ⟨n4, n5⟩ ⟨n6, n7⟩ ⟨n8, by simp only [red_co]; simp; omega⟩ ((n - t2.2.2.2.1).toNat + 1) s5 t2.2.2.2.1 0 t5 sc lf ([] ++ [tN0]) (by omega) (by omega) (by rw [z1]; exact st5) (by rw [z1]; exact cNo_row n4' e5) ⟨⟨tN0, [], rfl, Or.inr rfl, fun x hx => by cases hx⟩, fun x hx => by
      have : x = tN0 := by simpa using hx
      subst this
      exact gG_n0 ht⟩ (by omega) (by omega) (by omega) (by omega) (by omega)
    rw [z1] at this
    exact this
  · rw [if_neg h5]
    have n5' := (tok_w ht e0.1 e0.2 hs.lx (w := 5) (by decide) (by decide)).2 h5
    by_cases h2 : t.2.1 = 2
    · obtain ⟨a1, a2⟩ := tok_l ht e0.1 e0.2 hs.lx (w := 2) (by decide) (by decide) h2
      have a3 : wl 2 = 4 := by decide
      refine OX_to (t_37c ht hs.lx a1 (by omega)) ?_
      refine X_psk ht st1 h2 (fun hN' => dm_wh ht (m := V.length) _ _ _ _ _ _ (by omega) (by omega) hN' rfl (by simp only [red_co]; simp; omega) (by simp only [List.length_cons]; omega)) fun t2 s2 hT2 e2 b2 st2 => ?_
      have e02 := st2.e0
      have num2 := lxG_r4 ht e02.1 e02.2 st2.lx
      refine OX_bi (S_seq_of ht hx s2 t.2.2.2.1 false t2 (cn + 1) sc W d rn 0 lf V ((5, 58, 0, 0, 0) :: (1, 2, 0, 0, 0) :: (3, 15, t.2.2.1, 0, V.length) :: (37, 0, 0, 0, 0) :: K) S st2 (by omega) ⟨n1, n2, by simp only [List.length_cons]; omega, n4, n5, by omega, by omega, n8, by simp only [red_co]; simp; omega⟩ (Or.inl rfl) (dm_5 ht)) (by omega) fun v3 s3 c3 f3 k3 q3 => ?_
      obtain ⟨e3, t3, sc3, lf3, T, st3, rfl, tr3, nx3, sz3, g3, x1, x2, x3, x4⟩ := q3
      rw [tWb_0] at x3
      have tz := tSz_1 T
      have e03 := st3.e0
      have num3 := lxG_r4 ht e03.1 e03.2 st3.lx
      refine X_add st3 (by omega) (cNo_fr (cNo_row n1' e2) k3 (Int.le_refl _)) tr3 nx3 (Int.le_refl _) fun s4 k4 b4 n4' st4 => ?_
      have tk := tok_s ht e03.1 e03.2 st3.lx (c := 58) (by decide) (by decide)
      refine X_pass ht st4 (by apply propext; exact ⟨fun z => (tk.1 z).1, fun z => Decidable.byContradiction fun y => tk.2 y z⟩) (by simp only [List.length_cons]; omega) (fun hN' => dm_1 ht (m := (T :: V).length) _ _ _ _ _ _ (by omega) (by omega) hN' rfl (by simp only [red_co]; simp; omega) (by simp only [List.length_cons]; omega)) fun t5 s5 h58 hT5 e5 b5 st5 => ?_
      have lt2 := (tk.1 h58).2
      clear tk
      have e05 := st5.e0
      have num5 := lxG_r4 ht e05.1 e05.2 st5.lx
      have dl5 := dl_01 t5
      have z1 : fSz (fo ([] ++ [T])) = tSz T := fSz_1 T
      have w1 : fWt 15 0 0 (fo ([] ++ [T])) ≤ 0 + 2 * (e3 - t2.2.2.1) := fWt_c0 (a := []) (tWn_0 (Or.inl (by decide))) x3 (by decide)
      have := ca_lp ht hSt (d := d) (rn := rn) (b := t.2.2.1) (cn := cn) (v := cn) (V := V) (K := (37, 0, 0, 0, 0) :: K) (S := S) (W := W) (dm_37 ht) (by omega) ⟨n1, n2⟩ (by simp only [List.length_cons]; omega) ⟨n4, n5⟩ ⟨n6, n7⟩ ⟨n8, by simp only [red_co]; simp; omega⟩ ((n - t3.2.2.2.1).toNat + 1) s5 t3.2.2.2.1 0 t5 sc3 lf3 ([] ++ [T]) (by omega) (by omega) (by rw [z1]; exact st5) (by rw [z1]; exact cNo_row n4' e5) ⟨⟨T, [], rfl, Or.inl x1, fun x hx => by cases hx⟩, fun x hx => by
        have : x = T := by simpa using hx
        subst this
        exact g3⟩ (by omega) (by omega) (by omega) (by omega) (by omega)
      rw [z1] at this
      exact this
    · have n2' := (tok_w ht e0.1 e0.2 hs.lx (w := 2) (by decide) (by decide)).2 h2
      exact X_psn st1 h2 (b_37 ht hs.lx ⟨hc1, n2', n5'⟩ (by omega))
/-- a switch's children -/
def gS (tx : Int → Int) (n : Int) (L : List tT) : Prop := (∃ A R, L = A :: R ∧ isE A.1.1 ∧ ∀ x ∈ R, x.1.1 = 15) ∧ ∀ x ∈ L, gG tx n x
theorem gS_ad {L : List tT} {T : tT} (h : gS tx n L) (h1 : T.1.1 = 15) (h2 : gG tx n T) : gS tx n (L ++ [T]) := by
  obtain ⟨⟨A, R, rfl, a, r⟩, g⟩ := h
  refine ⟨⟨A, R ++ [T], rfl, a, fun x hx => ?_⟩, fun x hx => ?_⟩
  · rcases List.mem_append.mp hx with hx | hx
    · exact r x hx
    · have : x = T := by simpa using hx
      subst this
      exact h1
  · rcases List.mem_append.mp hx with hx | hx
    · exact g x hx
    · have : x = T := by simpa using hx
      subst this
      exact h2
theorem gS_C {L : List tT} (h : gS tx n L) : gC 14 (L.map (·.1.1)) := by
  obtain ⟨⟨A, R, rfl, a, r⟩, g⟩ := h
  refine ⟨A.1.1, R.map (·.1.1), rfl, a, fun x hx => ?_⟩
  obtain ⟨y, hy, rfl⟩ := List.mem_map.mp hx
  exact r y hy
theorem sw_lp (ht : tOk tx n) {m : Nat} (hx : S_x tx n m) (hSt : S_st tx n m) {d rn b cn : Int} {V : List tT} {K : List rTs} {S : List rSg} {W : List (Int × Int)} (hD : Dm tx n K (V.length + 1) S) (hb : 0 ≤ b ∧ b ≤ n) (hd : 0 ≤ d ∧ d < 20) (hK : (K.length : Int) ≤ 20 * d + 20) (hS : (S.length : Int) = W.length ∧ (S.length : Int) ≤ 10 * d) (hcb : 0 ≤ cn ∧ cn ≤ b + 1) (hrn : 0 ≤ rn ∧ rn + red K ≤ cn) : ∀ (j : Nat) (s : cm_S) (e i : Int) (t : tTk) (sc : Int) (lf : Bool) (L : List tT), n - e < j → n - e ≤ m → cSt tx n s e false t (cn + 1 + fSz (fo L)) sc W → cNo s (cn + 1 + fSz (fo L)) cn (14, b, 0, 0) cn L → gS tx n L → 0 ≤ i → i ≤ e → b < e → b + 1 + fSz (fo L) ≤ t.2.2.1 + dl t → fWt 14 0 0 (fo L) + 16 ≤ 2 * (t.2.2.1 - b) + dl t → OI tx n s cn (cm_lp cm_sem cm_k101 14 [some (.inr (.inl 14)), some (.inl (d + 1)), some (.inl cn), some (.inl i)] [] s) (e, d + 1, rn + fSz (fo L), sc, lf, L.reverse ++ V, (37, 0, 0, 0, 0) :: (3, 14, b, 0, V.length) :: (4, 0, 0, 0, 0) :: K, S) (PoU tx n b cn rn d V K S W) := by
  intro j
  induction j with
  | zero =>
    intro s e i t sc lf L hj _ hs
    have := hs.e0
    omega
  | succ j ih =>
    intro s e i t sc lf L hj hm hs hn hg hi0 hie hbe hsz hwt
    have e0 := hs.e0
    have num := lxG_r4 ht e0.1 e0.2 hs.lx
    have f0 := fSz_0 (fo L)
    have hr0 := red_0 K
    have hdl := dl_01 t
    unfold OI
    rw [cE_101_14, cF_101_14, if_neg (by omega), cs_57 hs, cm_bi_i]
    by_cases hc : t.2.1 = 125
    · obtain ⟨hc', hlt⟩ := (tok_s ht e0.1 e0.2 hs.lx (c := 125) (by decide) (by decide)).1 hc
      rw [if_pos (by rw [cm_b0]; exact fun z => z.1 hc)]
      refine OX_to (t_37e ht hs.lx hc' (by simp only [List.length_cons]; omega)) ?_
      refine X_psk ht hs hc (fun hN' => dm_red (m := (L.reverse ++ V).length) (dm_lv hD) (by simp) _ _ _ _ _ _ (by omega) (by omega) hN' rfl (by simp only [red_co]; simp; omega) (by simp only [List.length_cons]; omega)) fun t' s1 hT e1 b1 st1 => ?_
      have e01 := st1.e0
      have num1 := lxG_r4 ht e01.1 e01.2 st1.lx
      have dl1 := dl_01 t'
      refine OX_to (t_red (Vc := L.reverse) rfl (by omega) (by simp only [List.length_cons]; omega) 0) (OX_reti ⟨cn, rfl, ?_⟩)
      have := U_ns (tx := tx) (n := n) (s := s1) (e := t.2.2.2.1) (b := b) (cn := cn) (rn := rn) (d := d) (sc := sc) (k := 14) (p := b) (l := 0) (code := 0) (v := cn) (t := t') (lf := lf && decide ((14 : Int) < 44 ∨ 49 < (14 : Int))) (V := V) (K := K) (S := S) (W := W) (L := L) (by rw [show cn + (1 + fSz (fo L)) = cn + 1 + fSz (fo L) by omega]; exact st1) (by rw [show cn + (1 + fSz (fo L)) = cn + 1 + fSz (fo L) by omega]; exact cNo_row hn e1) (by unfold isS; omega) (by decide) (by omega) (by omega) (gG_mk (gT_no (by simp) hb.1 hb.2 rfl) (gS_C hg) (gW_no (show (14 : Int) ≠ 5 by decide)) hg.2) (by
        show 16 + fWt 14 0 0 (fo L) ≤ _
        omega)
      rw [show rn + (1 + fSz (fo L)) = rn + fSz (fo L) + 1 by omega] at this
      rw [foR_rev]
      exact this
    · have hc1 := (tok_s ht e0.1 e0.2 hs.lx (c := 125) (by decide) (by decide)).2 hc
      have tkk := tok_k ht e0.1 e0.2 hs.lx
      by_cases hz : t.1 = 0
      · have hz' := tkk.2.2.1 hz
        clear tkk
        rw [if_pos (by rw [cm_b0]; exact fun z => z.2 hz)]
        exact X_psn hs (by omega) (b_37 ht hs.lx (by omega) (by simp only [List.length_cons]; omega))
      · have hz' := (tkk.2.2.2.1 hz).1
        clear tkk
        have hdl0 : dl t = 0 := by unfold dl; rw [if_neg (by omega)]
        rw [if_neg (by rw [cm_b0]; exact fun z => z ⟨hc, hz⟩)]
        refine OX_bi (S_cs_of ht hx hSt hs hm hc (d := d + 1) (rn := rn + fSz (fo L)) (lf := lf) (V := L.reverse ++ V) (K := (3, 14, b, 0, V.length) :: (4, 0, 0, 0, 0) :: K) (S := S) ⟨by omega, by omega, by simp only [List.length_cons]; omega, hS.1, by omega, by omega, by omega, by omega, by simp only [red_co]; simp; omega⟩) (by omega) fun v2 s2 c2 f2 k2 q2 => ?_
        obtain ⟨e2, t2, sc2, lf2, T, st2, tr2, nx2, lt2, sz2, q⟩ := q2
        have tz := tSz_1 T
        have e02 := st2.e0
        have num2 := lxG_r4 ht e02.1 e02.2 st2.lx
        have hdl2 := dl_01 t2
        refine X_add st2 (by omega) (cNo_fr hn k2 (Int.le_refl _)) tr2 nx2 (Int.le_refl _) fun s3 k3 b3 n3 st3 => ?_
        rw [cm_w_id (by omega) (by omega)]
        rcases q with ⟨q1, q2⟩ | ⟨q1, rfl, q3, q4, q5⟩
        · have tn := tk_num (lxG_ok ht e02.1 e02.2 st2.lx).1
          have t0 : t2.2.1 = 0 := by omega
          clear tn
          rw [cE_101_14, cF_101_14, if_neg (by omega), cs_57 st3, cm_bi_i, if_pos (by rw [cm_b0]; exact fun z => z.2 q1)]
          exact X_psn st3 (by omega) q2
        · have eL : fSz (fo (L ++ [T])) = fSz (fo L) + tSz T := fSz_fo L T
          have hw2 : fWt 14 0 0 (fo (L ++ [T])) ≤ fWt 14 0 0 (fo L) + (2 * (t2.2.2.1 - t.2.2.1) + dl t2) := fWt_c0 (tWn_0 (Or.inl (by decide))) q5 (by decide)
          have := ih s3 e2 (i + 1) t2 sc2 lf2 (L ++ [T]) (by omega) (by omega) (by rw [eL, show cn + 1 + (fSz (fo L) + tSz T) = cn + 1 + fSz (fo L) + tSz T by omega]; exact st3) (by rw [eL, show cn + 1 + (fSz (fo L) + tSz T) = cn + 1 + fSz (fo L) + tSz T by omega]; exact n3) (gS_ad hg q4 q3) (by omega) (by omega) (by omega) (by omega) (by omega)
          rw [eL, show rn + (fSz (fo L) + tSz T) = rn + fSz (fo L) + tSz T by omega, show (L ++ [T]).reverse = T :: L.reverse from List.reverse_append] at this
          exact this
/-- switch ( X ) { .. } -/
theorem U_sw (ht : tOk tx n) {m : Nat} (hx : S_x tx n m) (hSt : S_st tx n m) {s : cm_S} {e : Int} {t : tTk} {cn sc : Int} {W : List (Int × Int)} {d rn : Int} {lf : Bool} {V : List tT} {K : List rTs} {S : List rSg} (hs : cSt tx n s e true t cn sc W) (hm : n - e ≤ m) (hc : t.2.1 = 19) (hd : 0 ≤ d ∧ d < 20) (hK : (K.length : Int) ≤ 20 * d + 20) (hS : (S.length : Int) = W.length ∧ (S.length : Int) ≤ 10 * d) (hcb : 0 ≤ cn ∧ cn ≤ t.2.2.1 + 1) (hrn : 0 ≤ rn ∧ rn + red K ≤ cn) (hD : Dm tx n K (V.length + 1) S) : OI tx n s cn (cm_sem 101 [.inr (.inl 14), .inl (d + 1)] s) (t.2.2.2.1, d + 1, rn, sc, lf, V, (5, 40, 0, 0, 0) :: (7, 0, 0, 0, 0) :: (5, 41, 0, 0, 0) :: (5, 123, 0, 0, 0) :: (37, 0, 0, 0, 0) :: (3, 14, t.2.2.1, 0, V.length) :: (4, 0, 0, 0, 0) :: K, S) (PoU tx n t.2.2.1 cn rn d V K S W) := by
  have e0 := hs.e0
  have num := lxG_r4 ht e0.1 e0.2 hs.lx
  have hr0 := red_0 K
  obtain ⟨a1, a2⟩ := tok_l ht e0.1 e0.2 hs.lx (w := 19) (by decide) (by decide) hc
  have a3 : wl 19 = 6 := by decide
  unfold OI
  rw [cS_101, cF_101_0]
  refine X_first ht hs hcb.1 (by omega) (Int.le_refl _) (fun hN' => dm_5 ht (m := V.length) _ _ _ _ _ _ (by omega) (by omega) hN' rfl (by simp only [red_co]; simp; omega) (by simp only [List.length_cons]; omega)) fun t1 s1 hT1 k1 b1 n1' st1 => ?_
  have e01 := st1.e0
  have num1 := lxG_r4 ht e01.1 e01.2 st1.lx
  refine OX_bv (S_co_of (a := 0) ht hx (d := d + 1) (rn := rn) (lf := lf) (V := V) (K := (5, 123, 0, 0, 0) :: (37, 0, 0, 0, 0) :: (3, 14, t.2.2.1, 0, V.length) :: (4, 0, 0, 0, 0) :: K) (S := S) st1 (by omega) n1' ⟨by omega, by omega, by simp only [List.length_cons]; omega, hS.1, by omega, by omega, by omega, hrn.1, by simp only [red_co]; simp; omega⟩ (dm_5 ht)) (Int.le_refl _) fun s2 c2 f2 k2 q2 => ?_
  obtain ⟨e2, t2, sc2, lf2, T2, st2, rfl, n2', sz2, g2, x2, w2⟩ := q2
  have tz2 := tSz_1 T2
  have e02 := st2.e0
  have num2 := lxG_r4 ht e02.1 e02.2 st2.lx
  have tk := tok_s ht e02.1 e02.2 st2.lx (c := 123) (by decide) (by decide)
  refine X_pass ht st2 (by apply propext; exact ⟨fun z => (tk.1 z).1, fun z => Decidable.byContradiction fun y => tk.2 y z⟩) (by simp only [List.length_cons]; omega) (fun hN' => dm_37 ht (m := (T2 :: V).length) _ _ _ _ _ _ (by omega) (by omega) hN' rfl (by simp only [red_co]; simp; omega) (by simp only [List.length_cons]; omega)) fun t3 s3 h123 hT3 e3 b3 st3 => ?_
  have lt2 := (tk.1 h123).2
  clear tk
  have e03 := st3.e0
  have num3 := lxG_r4 ht e03.1 e03.2 st3.lx
  have dl3 := dl_01 t3
  have z1 : fSz (fo ([] ++ [T2])) = tSz T2 := fSz_1 T2
  have w1 : fWt 14 0 0 (fo ([] ++ [T2])) ≤ 0 + (2 * (e2 - t1.2.2.1) - 4) := fWt_c0 (a := []) (tWn_0 (Or.inl (by decide))) (by omega) (by decide)
  have := sw_lp ht hx hSt (d := d) (rn := rn) (b := t.2.2.1) (cn := cn) (V := V) (K := K) (S := S) (W := W) hD (by omega) hd hK hS hcb hrn ((n - t2.2.2.2.1).toNat + 1) s3 t2.2.2.2.1 0 t3 sc2 lf2 ([] ++ [T2]) (by omega) (by omega) (by rw [z1]; exact st3) (by rw [z1]; exact cNo_row n2' e3) ⟨⟨T2, [], rfl, x2, fun x hx => by cases hx⟩, fun x hx => by
    have : x = T2 := by simpa using hx
    subst this
    exact g2⟩ (by omega) (by omega) (by omega) (by omega) (by omega)
  rw [z1] at this
  exact this
end TX67
