/-! ===== switch: a case ===== -/
section TX66
variable {tx : Int → Int} {n : Int}
/-- a case; where the text ends in it, the reference is lost -/
def PoC (tx : Int → Int) (n : Int) (b cn rn d : Int) (V : List tT) (K : List rTs) (S : List rSg) (W : List (Int × Int)) (v : Int) (s' : cm_S) (c' : rC) : Prop := ∃ (e' : Int) (t' : tTk) (sc' : Int) (lf' : Bool) (T : tT), cSt tx n s' e' false t' (cn + tSz T) sc' W ∧ cTr s' cn (cn + tSz T) v T ∧ s'.2 11 v = -1 ∧ b < e' ∧ b + tSz T ≤ t'.2.2.1 + dl t' ∧ (t'.1 = 0 ∧ rBd tx n c' ∨ t'.1 ≠ 0 ∧ c' = (e', d, rn + tSz T, sc', lf', T :: V, K, S) ∧ gG tx n T ∧ T.1.1 = 15 ∧ tWt T ≤ 2 * (t'.2.2.1 - b) + dl t')
/-- a case's children -/
def gK (tx : Int → Int) (n : Int) (L : List tT) : Prop := (∃ A R, L = A :: R ∧ (isE A.1.1 ∨ A.1.1 = 21) ∧ ∀ x ∈ R, isS x.1.1) ∧ ∀ x ∈ L, gG tx n x
theorem gK_ad {L : List tT} {T : tT} (h : gK tx n L) (h1 : isS T.1.1) (h2 : gG tx n T) : gK tx n (L ++ [T]) := by
  obtain ⟨⟨A, R, rfl, a, r⟩, g⟩ := h
  refine ⟨⟨A, R ++ [T], rfl, a, fun x hx => ?_⟩, fun x hx => ?_⟩
  · rcases List.mem_append.mp hx with hx | hx
    · exact r x hx
    · have : x = T := by simpa using hx
      subst this
      exact h1
  · rcases List.mem_append.mp hx with hx | hx
    · exact g x hx
    · have : x = T := by simpa using hx
      subst this
      exact h2
theorem gK_C {L : List tT} (h : gK tx n L) : gC 15 (L.map (·.1.1)) := by
  obtain ⟨⟨A, R, rfl, a, r⟩, g⟩ := h
  refine ⟨A.1.1, R.map (·.1.1), rfl, a, fun x hx => ?_⟩
  obtain ⟨y, hy, rfl⟩ := List.mem_map.mp hx
  exact r y hy
theorem ca_lp (ht : tOk tx n) {m : Nat} (hSt : S_st tx n m) {d rn b cn v : Int} {V : List tT} {K : List rTs} {S : List rSg} {W : List (Int × Int)} (hD : Dm tx n K (V.length + 1) S) (hb : 0 ≤ b ∧ b ≤ n) (hd : 0 ≤ d ∧ d ≤ 20) (hK : (K.length : Int) ≤ 20 * d + 17) (hS : (S.length : Int) = W.length ∧ (S.length : Int) ≤ 10 * d) (hcb : 0 ≤ cn ∧ cn ≤ b + 1) (hrn : 0 ≤ rn ∧ rn + red K ≤ cn) : ∀ (j : Nat) (s : cm_S) (e i : Int) (t : tTk) (sc : Int) (lf : Bool) (L : List tT), n - e < j → n - e < m → cSt tx n s e false t (cn + 1 + fSz (fo L)) sc W → cNo s (cn + 1 + fSz (fo L)) v (15, b, 0, 0) cn L → gK tx n L → 0 ≤ i → i ≤ e → b < e → b + 1 + fSz (fo L) ≤ t.2.2.1 + dl t → fWt 15 0 0 (fo L) + 9 ≤ 2 * (t.2.2.1 - b) + dl t → OI tx n s cn (cm_lp cm_sem cm_k102 36 [some (.inr (.inl 14)), some (.inl d), some (.inl v), some (.inl i)] [] s) (e, d, rn + fSz (fo L), sc, lf, L.reverse ++ V, (1, 2, 0, 0, 0) :: (3, 15, b, 0, V.length) :: K, S) (PoC tx n b cn rn d V K S W) := by
  intro j
  induction j with
  | zero =>
    intro s e i t sc lf L hj _ hs
    have := hs.e0
    omega
  | succ j ih =>
    intro s e i t sc lf L hj hm hs hn hg hi0 hie hbe hsz hwt
    have e0 := hs.e0
    have num := lxG_r4 ht e0.1 e0.2 hs.lx
    have f0 := fSz_0 (fo L)
    have hr0 := red_0 K
    have hdl := dl_01 t
    obtain ⟨tr, nx⟩ := cNo_tr hn false
    have eT : tSz ((15, b, 0, 0, false), fo L) = 1 + fSz (fo L) := rfl
    have end1 : t.1 ≠ 0 → lxG tx n true e = some t → (rNo t = 1001 ∨ rNo t = 1004 ∨ rNo t = 125) → OX tx n s cn (some (.inl (some (.inl v)), s)) (e, d, rn + fSz (fo L), sc, lf, L.reverse ++ V, (1, 2, 0, 0, 0) :: (3, 15, b, 0, V.length) :: K, S) (fun r s' c' => ∃ v, r = some (.inl v) ∧ PoC tx n b cn rn d V K S W v s' c') := fun hz hT hc => by
      refine OX_to (t_12e ht hT hc (by simp only [List.length_cons]; omega)) (OX_to (t_red (Vc := L.reverse) rfl (by omega) (by omega) 0) (OX_reti ⟨v, rfl, ?_⟩))
      refine ⟨e, t, sc, lf, ((15, b, 0, 0, false), fo L), ?_, ?_, nx, hbe, by omega, Or.inr ⟨hz, ?_, ?_, rfl, ?_⟩⟩
      · rw [eT, show cn + (1 + fSz (fo L)) = cn + 1 + fSz (fo L) by omega]; exact hs
      · rw [eT, show cn + (1 + fSz (fo L)) = cn + 1 + fSz (fo L) by omega]; exact tr
      · rw [eT, show rn + (1 + fSz (fo L)) = rn + fSz (fo L) + 1 by omega, foR_rev]
        simp
      · exact gG_mk (gT_no (by simp) hb.1 hb.2 rfl) (gK_C hg) (gW_no (show (15 : Int) ≠ 5 by decide)) hg.2
      · show 9 + fWt 15 0 0 (fo L) ≤ _
        omega
    unfold OI
    rw [cE_102_36, cF_102_36, if_neg (by omega), cs_57 hs, cm_bi_i]
    by_cases hc : t.2.1 = 125
    · have hc' := ((tok_s ht e0.1 e0.2 hs.lx (c := 125) (by decide) (by decide)).1 hc).1
      have tn := tk_num (lxG_ok ht e0.1 e0.2 hs.lx).1
      rw [if_pos (by rw [cm_b0]; exact fun z => z.1 hc)]
      exact end1 (by omega) (lxG_tc ht e0.1 e0.2 hs.lx (by omega)) (Or.inr (Or.inr hc'))
    · have hc1 := (tok_s ht e0.1 e0.2 hs.lx (c := 125) (by decide) (by decide)).2 hc
      have tkk := tok_k ht e0.1 e0.2 hs.lx
      by_cases hz : t.1 = 0
      · have hz' := tkk.2.2.1 hz
        clear tkk
        rw [if_pos (by rw [cm_b0]; exact fun z => z.2 hz)]
        have tn := tk_num (lxG_ok ht e0.1 e0.2 hs.lx).1
        have hT' : lxG tx n true e = some t := lxG_tc ht e0.1 e0.2 hs.lx (by omega)
        clear tn
        refine OX_reti ⟨v, rfl, e, t, sc, lf, ((15, b, 0, 0, false), fo L), ?_, ?_, nx, hbe, by omega, Or.inl ⟨hz, ?_⟩⟩
        · rw [eT, show cn + (1 + fSz (fo L)) = cn + 1 + fSz (fo L) by omega]; exact hs
        · rw [eT, show cn + (1 + fSz (fo L)) = cn + 1 + fSz (fo L) by omega]; exact tr
        · exact (t_12m ht hT' (by omega) (by simp only [List.length_cons]; omega)).bd (be_20 ht hT' hz' (by omega) (by omega) (by simp only [List.length_cons]; omega))
      · have hz' := (tkk.2.2.2.1 hz).1
        clear tkk
        have hdl0 : dl t = 0 := by unfold dl; rw [if_neg (by omega)]
        have w2 := tok_w ht e0.1 e0.2 hs.lx (w := 2) (by decide) (by decide)
        have w5 := tok_w ht e0.1 e0.2 hs.lx (w := 5) (by decide) (by decide)
        rw [if_neg (by rw [cm_b0]; exact fun z => z ⟨hc, hz⟩), hs.cd]
        by_cases h2 : t.2.1 = 2
        · rw [if_pos h2]
          exact end1 hz (lxG_tc ht e0.1 e0.2 hs.lx (by omega)) (Or.inl (w2.1 h2).1)
        by_cases h5 : t.2.1 = 5
        · rw [if_neg h2, if_pos h5]
          exact end1 hz (lxG_tc ht e0.1 e0.2 hs.lx (by omega)) (Or.inr (Or.inl (w5.1 h5).1))
        rw [if_neg h2, if_neg h5]
        have n2 := w2.2 h2
        have n5 := w5.2 h5
        clear w2 w5 end1
        cases hT' : lxG tx n true e with
        | none =>
          obtain ⟨s', e3, e4⟩ := st_none ht hs hT' d
          exact X_thri e3 e4 (b_12 (t := t) ht hT' (by omega) (by simp only [List.length_cons]; omega))
        | some t1 =>
          have hne : rNo t1 ≠ 1001 ∧ rNo t1 ≠ 1004 ∧ rNo t1 ≠ 125 := by
            rcases lxG_tf ht e0.1 e0.2 hs.lx hT' with rfl | ⟨h, -⟩
            · exact ⟨n2, n5, hc1⟩
            · have : rNo t1 = 4 := by unfold rNo; rw [h]; rfl
              omega
          refine OX_to (t_12m ht hT' hne (by simp only [List.length_cons]; omega)) ?_
          refine OX_bi (hSt s e false t _ sc W d (rn + fSz (fo L)) 0 lf (L.reverse ++ V) ((1, 2, 0, 0, 0) :: (3, 15, b, 0, V.length) :: K) S hs hm (Or.inl rfl) ⟨by omega, by omega, by simp only [List.length_cons]; omega, hS.1, by omega, by omega, by omega, by omega, by simp only [red_co]; simp; omega⟩ (dm_1 ht)) (by omega) fun v2 s2 c2 f2 k2 q2 => ?_
          obtain ⟨e2, t2, sc2, lf2, T, st2, rfl, tr2, nx2, lt2, sz2, g2, x1, x3⟩ := q2
          have tz := tSz_1 T
          have e02 := st2.e0
          have num2 := lxG_r4 ht e02.1 e02.2 st2.lx
          have hdl2 := dl_01 t2
          refine X_add st2 (by omega) (cNo_fr hn k2 (Int.le_refl _)) tr2 nx2 (Int.le_refl _) fun s3 k3 b3 n3 st3 => ?_
          have eL : fSz (fo (L ++ [T])) = fSz (fo L) + tSz T := fSz_fo L T
          have hw2 : fWt 15 0 0 (fo (L ++ [T])) ≤ fWt 15 0 0 (fo L) + (2 * (t2.2.2.1 - t.2.2.1) + dl t2) := fWt_c0 (tWn_0 (Or.inl (by decide))) x3 (by decide)
          rw [cm_w_id (by omega) (by omega)]
          have := ih s3 e2 (i + 1) t2 sc2 lf2 (L ++ [T]) (by omega) (by omega) (by rw [eL, show cn + 1 + (fSz (fo L) + tSz T) = cn + 1 + fSz (fo L) + tSz T by omega]; exact st3) (by rw [eL, show cn + 1 + (fSz (fo L) + tSz T) = cn + 1 + fSz (fo L) + tSz T by omega]; exact n3) (gK_ad hg x1 g2) (by omega) (by omega) (by omega) (by omega) (by omega)
          rw [eL, show rn + (fSz (fo L) + tSz T) = rn + fSz (fo L) + tSz T by omega, show (L ++ [T]).reverse = T :: L.reverse from List.reverse_append] at this
          exact this
end TX66
