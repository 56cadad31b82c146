/-! ===== { statements } ===== -/
section TX56
variable {tx : Int → Int} {n : Int}
theorem bl_lp (ht : tOk tx n) {m : Nat} (hSt : S_st tx n m) {d rn b cn v : Int} {V : List tT} {K : List rTs} {S : List rSg} {W : List (Int × Int)} (hD : Dm tx n K (V.length + 1) S) (hb : 0 ≤ b ∧ b ≤ n) (hd : 0 ≤ d ∧ d ≤ 20) (hK : (K.length : Int) ≤ 20 * d + 17) (hS : (S.length : Int) = W.length ∧ (S.length : Int) ≤ 10 * d) (hcb : 0 ≤ cn ∧ cn ≤ b + 1) (hrn : 0 ≤ rn ∧ rn + red K ≤ cn) : ∀ (j : Nat) (s : cm_S) (e i : Int) (t : tTk) (sc : Int) (lf : Bool) (L : List tT), n - e < j → n - e < m → cSt tx n s e false t (cn + 1 + fSz (fo L)) sc W → cNo s (cn + 1 + fSz (fo L)) v (1, b, 0, 0) cn L → (∀ x ∈ L, gG tx n x ∧ isS x.1.1) → 0 ≤ i → i ≤ e → b < e → b + 1 + fSz (fo L) ≤ t.2.2.1 + dl t → fWt 1 0 0 (fo L) ≤ 2 * (t.2.2.1 - b) - 2 + dl t → OI tx n s cn (cm_lp cm_sem cm_k54 10 [some (.inr (.inl 14)), some (.inl d), some (.inl v), some (.inl i)] [] s) (e, d, rn + fSz (fo L), sc, lf, L.reverse ++ V, (1, 1, 0, 0, 0) :: (3, 1, b, 0, V.length) :: K, S) (Po tx n b cn rn d V K S W fun s' e' t' lf' T => T.1.1 = 1 ∧ tWt T ≤ 2 * (e' - b)) := by
  intro j
  induction j with
  | zero =>
    intro s e i t sc lf L hj _ hs
    have := hs.e0
    omega
  | succ j ih =>
    intro s e i t sc lf L hj hm hs hn hg hi0 hie hbe hsz hwt
    have e0 := hs.e0
    have num := lxG_r4 ht e0.1 e0.2 hs.lx
    have f0 := fSz_0 (fo L)
    have hr0 := red_0 K
    have hdl := dl_01 t
    have hlen : (((L.reverse ++ V).length : Nat) : Int) = L.length + V.length := by rw [List.length_append, List.length_reverse]; omega
    unfold OI
    rw [cE_54_10, cF_54_10, if_neg (by omega), cs_57 hs, cm_bi_i]
    by_cases hc : t.2.1 = 125
    · obtain ⟨hc', hlt⟩ := (tok_s ht e0.1 e0.2 hs.lx (c := 125) (by decide) (by decide)).1 hc
      rw [if_pos (by rw [cm_b0]; exact fun z => z.1 hc)]
      refine OX_to (t_11e ht (lxG_tc ht e0.1 e0.2 hs.lx (by omega)) hc' (by simp only [List.length_cons]; omega)) ?_
      refine X_psk ht hs hc (fun hN' => dm_red (m := (L.reverse ++ V).length) hD (by simp) _ _ _ _ _ _ (by omega) (by omega) hN' rfl (by simp only [red_co]; simp; omega) (by simp only [List.length_cons]; omega)) fun t' s1 hT e1 b1 st1 => ?_
      refine OX_to (t_red (Vc := L.reverse) rfl (by omega) (by omega) 0) (OX_reti ⟨v, rfl, ?_⟩)
      obtain ⟨tr, nx⟩ := cNo_tr (cNo_row hn e1) false
      have eT : tSz ((1, b, 0, 0, false), fo L) = 1 + fSz (fo L) := rfl
      refine ⟨t.2.2.2.1, t', sc, lf, ((1, b, 0, 0, false), fo L), ?_, ?_, ?_, nx, by omega, ?_, rfl, ?_⟩
      · rw [eT, show cn + (1 + fSz (fo L)) = cn + 1 + fSz (fo L) by omega]; exact st1
      · rw [eT, show rn + (1 + fSz (fo L)) = rn + fSz (fo L) + 1 by omega, foR_rev]
        simp
      · rw [eT, show cn + (1 + fSz (fo L)) = cn + 1 + fSz (fo L) by omega]; exact tr
      · refine gG_mk (gT_no (by simp) hb.1 hb.2 rfl) ?_ (gW_no (show (1 : Int) ≠ 5 by decide)) fun x hx => (hg x hx).1
        show ∀ x ∈ L.map (·.1.1), isS x
        intro x hx
        obtain ⟨y, hy, rfl⟩ := List.mem_map.mp hx
        exact (hg y hy).2
      · show 3 + fWt 1 0 0 (fo L) ≤ _
        omega
    · have hc1 := (tok_s ht e0.1 e0.2 hs.lx (c := 125) (by decide) (by decide)).2 hc
      have tkk := tok_k ht e0.1 e0.2 hs.lx
      by_cases hz : t.1 = 0
      · have hz' := tkk.2.2.1 hz
        clear tkk
        rw [if_pos (by rw [cm_b0]; exact fun z => z.2 hz)]
        have tn := tk_num (lxG_ok ht e0.1 e0.2 hs.lx).1
        have hT' : lxG tx n true e = some t := lxG_tc ht e0.1 e0.2 hs.lx (by omega)
        exact X_psn hs (by omega) ((t_11m ht hT' hc1 (by simp only [List.length_cons]; omega)).bd (be_20 ht hT' hz' (by omega) (by omega) (by simp only [List.length_cons]; omega)))
      · have hz' := (tkk.2.2.2.1 hz).1
        clear tkk
        have hdl0 : dl t = 0 := by unfold dl; rw [if_neg (by omega)]
        rw [if_neg (by rw [cm_b0]; exact fun z => z ⟨hc, hz⟩)]
        cases hT' : lxG tx n true e with
        | none =>
          obtain ⟨s', e3, e4⟩ := st_none ht hs hT' d
          exact X_thri e3 e4 (b_11 (t := t) ht hT' (by omega) (by simp only [List.length_cons]; omega))
        | some t1 =>
          refine OX_to (t_11m ht hT' (rNo_tf ht e0.1 e0.2 hs.lx hT' (by decide) (by decide) hc) (by simp only [List.length_cons]; omega)) ?_
          refine OX_bi (hSt s e false t _ sc W d (rn + fSz (fo L)) 0 lf (L.reverse ++ V) ((1, 1, 0, 0, 0) :: (3, 1, b, 0, V.length) :: K) S hs hm (Or.inl rfl) ⟨by omega, by omega, by simp only [List.length_cons]; omega, hS.1, by omega, by omega, by omega, by omega, by simp only [red_co]; simp; omega⟩ (dm_1 ht)) (by omega) fun v2 s2 c2 f2 k2 q2 => ?_
          obtain ⟨e2, t2, sc2, lf2, T, st2, rfl, tr2, nx2, lt2, sz2, g2, x1, x3⟩ := q2
          have tz := tSz_1 T
          have e02 := st2.e0
          have num2 := lxG_r4 ht e02.1 e02.2 st2.lx
          have hdl2 := dl_01 t2
          refine X_add st2 (by omega) (cNo_fr hn k2 (Int.le_refl _)) tr2 nx2 (Int.le_refl _) fun s3 k3 b3 n3 st3 => ?_
          have eL : fSz (fo (L ++ [T])) = fSz (fo L) + tSz T := fSz_fo L T
          have hw2 : fWt 1 0 0 (fo (L ++ [T])) ≤ fWt 1 0 0 (fo L) + (2 * (t2.2.2.1 - t.2.2.1) + dl t2) := fWt_c0 (tWn_0 (Or.inl (by decide))) x3 (by decide)
          rw [cm_w_id (by omega) (by omega)]
          have := ih s3 e2 (i + 1) t2 sc2 lf2 (L ++ [T]) (by omega) (by omega) (by rw [eL, show cn + 1 + (fSz (fo L) + tSz T) = cn + 1 + fSz (fo L) + tSz T by omega]; exact st3) (by rw [eL, show cn + 1 + (fSz (fo L) + tSz T) = cn + 1 + fSz (fo L) + tSz T by omega]; exact n3) (fun x hx => by
            rcases List.mem_append.mp hx with hx | hx
            · exact hg x hx
            · have : x = T := by simpa using hx
              subst this
              exact ⟨g2, x1⟩) (by omega) (by omega) (by omega) (by omega) (by omega)
          rw [eL, show rn + (fSz (fo L) + tSz T) = rn + fSz (fo L) + tSz T by omega, show (L ++ [T]).reverse = T :: L.reverse from List.reverse_append] at this
          exact this
/-- { .. } -/
theorem S_bl_of (ht : tOk tx n) {m : Nat} (hSt : S_st tx n m) {s : cm_S} {e : Int} {g : Bool} {t : tTk} {cn sc : Int} {W : List (Int × Int)} {d rn : Int} {lf : Bool} {V : List tT} {K : List rTs} {S : List rSg} (hs : cSt tx n s e g t cn sc W) (hF : lxG tx n false e = some t) (hm : n - e ≤ m) (hN : Nu t.2.2.1 cn rn d 1 17 K S W) (hD : Dm tx n K (V.length + 1) S) : OI tx n s cn (cm_sem 54 [.inr (.inl 14), .inl d] s) (e, d, rn, sc, lf, V, (38, 0, 0, 0, 0) :: K, S) (Po tx n t.2.2.1 cn rn d V K S W fun s' e' t' lf' T => T.1.1 = 1 ∧ tWt T ≤ 2 * (e' - t.2.2.1)) := by
  obtain ⟨n1, n2, n3, n4, n5, n6, n7, n8, n9⟩ := hN
  have e0 := hs.e0
  have num := lxG_r4 ht e0.1 e0.2 hF
  have hr0 := red_0 K
  unfold OI
  rw [cS_54, cF_54_0, cS_55, cF_55_0, hs.cd]
  by_cases hc : t.2.1 = 123
  · obtain ⟨hc', hlt⟩ := (tok_s ht e0.1 e0.2 hF (c := 123) (by decide) (by decide)).1 hc
    rw [if_pos hc, cm_bv_o]
    refine OX_to (t_38 ht hF hc' (by omega)) ?_
    refine X_first ht hs n6 (by omega) (Int.le_refl _) (fun hN' => dm_1 ht (m := V.length) _ _ _ _ _ _ (by omega) (by omega) hN' rfl (by simp only [red_co]; simp; omega) (by simp only [List.length_cons]; omega)) fun t2 s2 hT2 k2 b2 n2' st2 => ?_
    have e02 := st2.e0
    have num2 := lxG_r4 ht e02.1 e02.2 st2.lx
    have hdl2 := dl_01 t2
    have := bl_lp ht hSt (b := t.2.2.1) (cn := cn) (rn := rn) (v := cn) (d := d) (V := V) (K := K) (S := S) (W := W) hD (by omega) ⟨n1, n2⟩ n3 ⟨n4, n5⟩ ⟨n6, n7⟩ ⟨n8, n9⟩ ((n - t.2.2.2.1).toNat + 1) s2 t.2.2.2.1 0 t2 sc lf [] (by omega) (by omega) (by show cSt tx n s2 _ false t2 (cn + 1 + 0) sc W; rw [Int.add_zero]; exact st2) (by show cNo s2 (cn + 1 + 0) cn _ cn []; rw [Int.add_zero]; exact n2') (fun x hx => by cases hx) (by omega) (by omega) (by omega) (by show t.2.2.1 + 1 + 0 ≤ _; omega) (by show (0 : Int) ≤ _; omega)
    change OI tx n s2 cn _ (t.2.2.2.1, d, rn + 0, sc, lf, [] ++ V, _, S) _ at this
    rw [Int.add_zero] at this
    exact this
  · have hc1 := (tok_s ht e0.1 e0.2 hF (c := 123) (by decide) (by decide)).2 hc
    rw [if_neg hc]
    refine OX_bv (lo1 := cn) (Q1 := fun _ _ => False) ?_ (Int.le_refl _) fun _ _ _ _ z => z.elim
    exact X_refuse (b_38 ht hF hc1 (by omega))
/-- (: X ) behind a word -/
theorem S_co_of (ht : tOk tx n) {m : Nat} (hx : S_x tx n m) {s : cm_S} {e : Int} {t : tTk} {cn sc : Int} {W : List (Int × Int)} {d rn : Int} {lf : Bool} {V : List tT} {K : List rTs} {S : List rSg} {v lb a : Int} {l : Int × Int × Int × Int} {L : List tT} (hs : cSt tx n s e false t cn sc W) (hm : n - e ≤ m) (hn : cNo s cn v l lb L) (hN : Nu t.2.2.1 cn rn d 3 17 K S W) (hD : Dm tx n K (V.length + 1) S) : OV tx n s lb (cm_sem 92 [.inr (.inl 14), .inl v, .inl d] s) (e, d, rn, sc, lf, V, (5, 40, 0, 0, 0) :: (7, 0, 0, 0, 0) :: (5, 41, 0, 0, 0) :: K, S) fun s' c' => ∃ (e' : Int) (t' : tTk) (sc' : Int) (lf' : Bool) (T : tT), cSt tx n s' e' false t' (cn + tSz T) sc' W ∧ c' = (e', d, rn + tSz T, sc', lf', T :: V, K, S) ∧ cNo s' (cn + tSz T) v l lb (L ++ [T]) ∧ t.2.2.1 + tSz T + 2 ≤ e' ∧ gG tx n T ∧ isE T.1.1 ∧ tWt T + 4 ≤ 2 * (e' - t.2.2.1) := by
  obtain ⟨n1, n2, n3, n4, n5, n6, n7, n8, n9⟩ := hN
  have e0 := hs.e0
  have num := lxG_r4 ht e0.1 e0.2 hs.lx
  have hr0 := red_0 K
  have hin := cNo_in hn
  unfold OV
  rw [cS_92, cF_92_0]
  have tk := tok_s ht e0.1 e0.2 hs.lx (c := 40) (by decide) (by decide)
  refine X_pass ht hs (by apply propext; exact ⟨fun z => (tk.1 z).1, fun z => Decidable.byContradiction fun y => tk.2 y z⟩) (by simp only [List.length_cons]; omega) (fun hN' => dm_wh ht (m := V.length) _ _ _ _ _ _ (by omega) (by omega) hN' rfl (by simp only [red_co]; simp; omega) (by simp only [List.length_cons]; omega)) fun t1 s1 h40 hT1 e1 b1 st1 => ?_
  have hlt := (tk.1 h40).2
  clear tk
  have e01 := st1.e0
  have num1 := lxG_r4 ht e01.1 e01.2 st1.lx
  refine OX_bi (S_seq_of ht hx s1 t.2.2.2.1 false t1 cn sc W d rn 0 lf V ((5, 41, 0, 0, 0) :: K) S st1 (by omega) ⟨n1, n2, by simp only [List.length_cons]; omega, n4, n5, n6, by omega, n8, by simp only [red_co]; simp; omega⟩ (Or.inl rfl) (dm_5 ht)) (by omega) fun v2 s2 c2 f2 k2 q2 => ?_
  obtain ⟨e2, t2, sc2, lf2, T, st2, rfl, tr2, nx2, sz2, g2, x1, x2, x3, x4⟩ := q2
  have tz := tSz_1 T
  have e02 := st2.e0
  have num2 := lxG_r4 ht e02.1 e02.2 st2.lx
  have x3' : tWt T ≤ 2 * (e2 - t1.2.2.1) := by
    unfold tWb at x3
    have := tB_0 T.1
    rw [if_neg (by omega)] at x3
    omega
  refine X_add st2 (by omega) (cNo_fr (cNo_row hn e1) k2 (Int.le_refl _)) tr2 nx2 (Int.le_refl _) fun s3 k3 b3 n3' st3 => ?_
  have tk := tok_s ht e02.1 e02.2 st2.lx (c := 41) (by decide) (by decide)
  refine X_pass ht st3 (by apply propext; exact ⟨fun z => (tk.1 z).1, fun z => Decidable.byContradiction fun y => tk.2 y z⟩) (by omega) (fun hN' => hD _ _ _ _ _ _ (by omega) (by omega) hN' (by rw [List.length_cons]) (by omega) (by omega)) fun t4 s4 h41 hT4 e4 b4 st4 => ?_
  have hlt2 := (tk.1 h41).2
  exact OX_retv ⟨rfl, t2.2.2.2.1, t4, sc2, lf2, T, st4, rfl, cNo_row n3' e4, by omega, g2, x1, by omega⟩
end TX56
