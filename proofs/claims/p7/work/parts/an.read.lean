/-! ===== the whole text: read(), readAll() ===== -/
section TX79
variable {tx : Int → Int} {n : Int}
theorem X_addu {s : cm_S} {e : Int} {g : Bool} {t : tTk} {cn sc : Int} {W : List (Int × Int)} (h : cSt tx n s e g t cn sc W) (h9 : cn ≤ 512) {a v w lb lo : Int} {l : Int × Int × Int × Int} {L : List tT} {T : tT} (hn : cNo s a v l lb L) (hr : cTr s a cn w T) (h11 : s.2 11 w = -1) (hl : lo ≤ lb) {f : cm_S → Option cm_R} {c : rC} {Q : Option cm_V → cm_S → rC → Prop} (h2 : ∀ s', s'.2 12 v = s.2 12 v → cNo s' cn v l lb (L ++ [T]) → cSt tx n s' e g t cn sc W → OX tx n s' lo (f s') c Q) : OX tx n s lo (cm_bv (cm_sem 58 [.inr (.inl 4), .inl v, .inl w] s) f) c Q := by
  have hin := cNo_in hn
  have hin2 := cTr_in hr
  have hla := cNo_last hn
  have hc := h.2.1
  obtain ⟨k1, k2⟩ := cNo_add hn hr h11
  rw [cs_58 (by omega) (by omega) (by omega) (by omega), cm_bv_o]
  exact OX_from cAd_fm (k2.le hl) (h2 _ (cAd_old (fun _ => by decide) (fun z => by omega) fun _ _ => by decide) k1 (cSt_ad h v w))
theorem rNo_t0 (ht : tOk tx n) {e : Int} (h0 : 0 ≤ e) (h1 : e ≤ n) {t t' : tTk} (h : lxG tx n false e = some t) (h' : lxG tx n true e = some t') (hz : t.1 ≠ 0) : rNo t' ≠ 0 := by
  by_cases h5 : t'.1 = 5
  · have tn := tk_num (lxG_ok ht h0 h1 h').1
    omega
  · have := lxG_ft h' h5
    rw [h] at this
    cases this
    exact ((tok_k ht h0 h1 h).2.2.2.1 hz).1
/-- both have read the text: the same tree -/
def PoR (tx : Int → Int) (n : Int) (v : Int) (s' : cm_S) (c' : rC) : Prop := ∃ (e' sc' : Int) (lf' : Bool) (T : tT), v = 0 ∧ cTx tx n s' ∧ s'.1 410 = tSz T ∧ s'.1 1407 = sc' ∧ c' = (e', 0, tSz T, sc', lf', [T], [], []) ∧ cTr s' 0 (tSz T) 0 T ∧ s'.2 11 0 = -1 ∧ s'.2 12 0 = -1 ∧ gG tx n T ∧ T.1 = (0, 0, 0, 0, false) ∧ tSz T ≤ n + 2 ∧ tWt T ≤ 2 * n + 1
theorem rd_lp (ht : tOk tx n) : ∀ (j : Nat) (s : cm_S) (e i : Int) (t : tTk) (sc : Int) (lf : Bool) (L : List tT), n - e < j → cSt tx n s e false t (1 + fSz (fo L)) sc [] → cNo s (1 + fSz (fo L)) 0 (0, 0, 0, 0) 0 L → s.2 12 0 = -1 → (∀ x ∈ L, gG tx n x ∧ (isS x.1.1 ∨ x.1.1 = 20)) → 0 ≤ i → i ≤ e → fSz (fo L) ≤ t.2.2.1 + dl t → fWt 0 0 0 (fo L) ≤ 2 * t.2.2.1 + dl t → OI tx n s 0 (cm_lp cm_sem cm_k23 23 [some (.inr (.inl 14)), some (.inl 0), some (.inl i)] [] s) (e, 0, fSz (fo L), sc, lf, L.reverse, [(1, 0, 0, 0, 0), (3, 0, 0, 0, 0)], []) (PoR tx n) := by
  intro j
  induction j with
  | zero =>
    intro s e i t sc lf L hj hs
    have := hs.e0
    omega
  | succ j ih =>
    intro s e i t sc lf L hj hs hn h12 hg hi0 hie hsz hwt
    have e0 := hs.e0
    have hn9 := ht.2.1
    have num := lxG_r4 ht e0.1 e0.2 hs.lx
    have f0 := fSz_0 (fo L)
    have hdl := dl_01 t
    have tkk := tok_k ht e0.1 e0.2 hs.lx
    unfold OI
    rw [cE_23_23, cF_23_23, if_neg (by omega), hs.kd]
    by_cases hz : t.1 = 0
    · have hz' := tkk.2.2.1 hz
      clear tkk
      have tn := tk_num (lxG_ok ht e0.1 e0.2 hs.lx).1
      have hT' : lxG tx n true e = some t := lxG_tc ht e0.1 e0.2 hs.lx (by omega)
      clear tn
      rw [if_pos hz]
      refine OX_to (t_10e ht hT' hz' (by simp only [List.length_cons, List.length_nil]; omega)) ?_
      have hr := t_red (tx := tx) (n := n) (e := e) (d := 0) (rn := fSz (fo L)) (pu := sc) (lf := lf) (Vc := L.reverse) (V0 := []) (K := []) (S := []) (k := 0) (p := 0) (l := 0) (m := 0) rfl (by omega) (by simp) 0
      rw [List.append_nil, foR_rev] at hr
      refine OX_to hr (OX_reti ⟨0, rfl, e, sc, lf && decide ((0 : Int) < 44 ∨ (49 : Int) < 0), ((0, 0, 0, 0, false), fo L), rfl, hs.1.1, hs.2.1, hs.2.2.1, ?_, ?_⟩)
      · rw [show tSz ((0, 0, 0, 0, false), fo L) = fSz (fo L) + 1 from Int.add_comm _ _]
      · obtain ⟨tr, nx⟩ := cNo_tr hn false
        refine ⟨tr, nx, h12, ?_, rfl, ?_, ?_⟩
        · refine gG_mk (gT_no (Or.inl rfl) (Int.le_refl _) ht.1 rfl) ?_ (gW_no (show (0 : Int) ≠ 5 by decide)) fun x hx => (hg x hx).1
          show ∀ x ∈ L.map (·.1.1), isS x ∨ x = 20
          intro x hx
          obtain ⟨y, hy, rfl⟩ := List.mem_map.mp hx
          exact (hg y hy).2
        · show 1 + fSz (fo L) ≤ _
          omega
        · show 0 + fWt 0 0 0 (fo L) ≤ _
          omega
    · have hz' := (tkk.2.2.2.1 hz).1
      clear tkk
      rw [if_neg hz]
      by_cases hc : t.2.1 = 125
      · have hT' : lxG tx n true e = some t := lxG_tc ht e0.1 e0.2 hs.lx (by omega)
        have hc' := ((tok_s ht e0.1 e0.2 hs.lx (c := 125) (by decide) (by decide)).1 hc).1
        refine OX_bi (br_46 ht hs hT' (by omega) (by omega) hc ((t_10m ht hT' hz' (by simp only [List.length_cons, List.length_nil]; omega)).bd (b_125 ht hT' hc' (by omega) (by omega) (by simp only [List.length_cons, List.length_nil]; omega))) 0) (by omega) fun _ _ _ _ _ q => q.elim
      · have hc1 := (tok_s ht e0.1 e0.2 hs.lx (c := 125) (by decide) (by decide)).2 hc
        have hdl0 : dl t = 0 := by unfold dl; rw [if_neg (by omega)]
        cases hT' : lxG tx n true e with
        | none =>
          obtain ⟨s', e3, e4⟩ := el_none ht hs hT' 0
          exact X_thri e3 e4 (b_10 (t := t) ht hT' (by omega) (by simp only [List.length_cons, List.length_nil]; omega))
        | some t1 =>
          refine OX_to (t_10m ht hT' (rNo_t0 ht e0.1 e0.2 hs.lx hT' hz) (by simp only [List.length_cons, List.length_nil]; omega)) ?_
          refine OX_bi (S_el_all ht ((n - e).toNat + 1) s e false t _ sc [] 0 (fSz (fo L)) lf L.reverse [(1, 0, 0, 0, 0), (3, 0, 0, 0, 0)] [] hs (by omega) ⟨by omega, by omega, by simp only [List.length_cons, List.length_nil]; omega, rfl, by simp, by omega, by omega, by omega, by simp only [red_co]; simp [red]; omega⟩ (dm_1 ht)) (by omega) fun v2 s2 c2 f2 k2 q2 => ?_
          obtain ⟨e2, t2, sc2, lf2, T, st2, rfl, tr2, nx2, lt2, sz2, g2, x1, x3⟩ := q2
          have tz := tSz_1 T
          have e02 := st2.e0
          have num2 := lxG_r4 ht e02.1 e02.2 st2.lx
          have hdl2 := dl_01 t2
          refine X_addu st2 (by omega) (cNo_fr hn k2 (Int.le_refl _)) tr2 nx2 (Int.le_refl _) fun s3 b3 n3 st3 => ?_
          have eL : fSz (fo (L ++ [T])) = fSz (fo L) + tSz T := fSz_fo L T
          have hw2 : fWt 0 0 0 (fo (L ++ [T])) ≤ fWt 0 0 0 (fo L) + (2 * (t2.2.2.1 - t.2.2.1) + dl t2) := fWt_c0 (tWn_0 (Or.inl (by decide))) x3 (by decide)
          rw [cm_w_id (by omega) (by omega)]
          have := ih s3 e2 (i + 1) t2 sc2 lf2 (L ++ [T]) (by omega) (by rw [eL, show 1 + (fSz (fo L) + tSz T) = 1 + fSz (fo L) + tSz T by omega]; exact st3) (by rw [eL, show 1 + (fSz (fo L) + tSz T) = 1 + fSz (fo L) + tSz T by omega]; exact n3) (by rw [b3, k2 12 0 (by omega) (by omega) (by omega)]; exact h12) (fun x hx => by
            rcases List.mem_append.mp hx with hx | hx
            · exact hg x hx
            · have : x = T := by simpa using hx
              subst this
              exact ⟨g2, x1⟩) (by omega) (by omega) (by omega) (by omega)
          rw [eL, show (L ++ [T]).reverse = T :: L.reverse from List.reverse_append] at this
          exact this
end TX79
