/-! ===== read(), readAll(): from their begin ===== -/
section TX80
variable {tx : Int → Int} {n : Int}
theorem c_read (ht : tOk tx n) {s : cm_S} (h : cTx tx n s) : OI tx n s 0 (cm_sem 23 [.inr (.inl 14)] s) (0, 0, 0, 0, false, [], [(1, 0, 0, 0, 0), (3, 0, 0, 0, 0)], []) (PoR tx n) := by
  have n0 := ht.1
  unfold OI
  rw [cS_23, cF_23_0, cS_24, cF_24_0, cm_bv_o, cS_25, cF_25_0]
  have f1 : cFm s (cm_p (cm_p (cm_p (cm_p s 1407 0) 1405 0) 410 0) 1506 0) := cFm_p (cFm_p (cFm_p (cFm_p (cFm_rf s) (by omega)) (by omega)) (by omega)) (by omega)
  have g1 : ((cm_p (cm_p (cm_p (cm_p s 1407 0) 1405 0) 410 0) 1506 0)).1 1407 = 0 := by rw [cm_p_ne (by decide), cm_p_ne (by decide), cm_p_ne (by decide), cm_p_at]
  have g2 : ((cm_p (cm_p (cm_p (cm_p s 1407 0) 1405 0) 410 0) 1506 0)).1 1405 = 0 := by rw [cm_p_ne (by decide), cm_p_ne (by decide), cm_p_at]
  have g3 : ((cm_p (cm_p (cm_p (cm_p s 1407 0) 1405 0) 410 0) 1506 0)).1 410 = 0 := by rw [cm_p_ne (by decide), cm_p_at]
  have g4 : ((cm_p (cm_p (cm_p (cm_p s 1407 0) 1405 0) 410 0) 1506 0)).1 1506 = 0 := cm_p_at
  have hx1 : cTx tx n (cm_p (cm_p (cm_p (cm_p s 1407 0) 1405 0) 410 0) 1506 0) := cTx_p (cTx_p (cTx_p (cTx_p h (by decide)) (by decide)) (by decide)) (by decide)
  have g5 : (cm_p (cm_p (cm_p (cm_p s 1407 0) 1405 0) 410 0) 1506 0).2 = s.2 := rfl
  generalize cm_p (cm_p (cm_p (cm_p s 1407 0) 1405 0) 410 0) 1506 0 = s1 at f1 g1 g2 g3 g4 g5 hx1 ⊢
  obtain ⟨a, b⟩ := cs_26 ht hx1 g4 (Int.le_refl _) n0
  cases hT : lxT tx n 0 with
  | none =>
    obtain ⟨s', e1, e2⟩ := b hT
    rw [e1, cm_bv_t, cm_bv_t]
    exact Or.inr ⟨s', rfl, f1.tr e2.fm, dm_1 ht 0 0 0 0 false [] (Int.le_refl _) n0 (by rw [lxG_f]; exact hT) rfl (by decide) (by decide)⟩
  | some t =>
    obtain ⟨s2, e1, e2, e3⟩ := a t hT
    rw [e1, cm_bv_o, cm_bv_o]
    have hx2 : cTx tx n s2 := cTx_fr hx1 e2
    have h10 : s2.1 410 = 0 := (e2.2 410 (by omega)).trans g3
    have lx : lxG tx n false 0 = some t := by rw [lxG_f]; exact hT
    have num := lxG_r4 ht (Int.le_refl _) n0 lx
    have hdl := dl_01 t
    have ea := cs_45 (s := s2) (by omega) (by omega) 0 0 0 0
    have hn := cNo_new (s := s2) (by omega) 0 0 0 0
    have hu := (cMk_new s2 0 0 0 0).2.2.2.2.2.2.2
    rw [h10] at ea hn hu
    rw [ea, cm_bi_i]
    have st : cSt tx n (cMk s2 0 0 0 0) 0 false t 1 0 [] := ⟨cAt_fr (s := s2) ⟨hx2, Int.le_refl _, n0, lx, e3⟩ ((cMk_fm s2 0 0 0 0).1 2 (by omega)) (cMk_fld (by decide)) fun j j1 j2 => cMk_fld (by omega), by rw [cMk_cnt, h10]; rfl, (cMk_fld (by decide)).trans ((e2.2 1407 (by omega)).trans g1), (cMk_fld (by decide)).trans ((e2.2 1405 (by omega)).trans g2), trivial⟩
    exact OX_from ((f1.tr e2.fm).tr (cMk_fm s2 0 0 0 0)) (fun a i a1 a2 a3 => (cMk_old (by omega)).trans (by rw [e2.1, g5])) (rd_lp ht ((n - 0).toNat + 1) (cMk s2 0 0 0 0) 0 0 t 0 false [] (by omega) st hn hu (fun x hx => by cases hx) (by omega) (by omega) (by show (0 : Int) ≤ _; omega) (by show (0 : Int) ≤ _; omega))
theorem rFo_sz {s : cm_S} : ∀ (f : tF) (p lo hi v : Int), rFo s p lo hi v f → hi = lo + fSz f := by
  intro f
  induction f with
  | leaf =>
    intro p lo hi v h
    show hi = lo + 0
    have := h.2
    omega
  | inner x l u ch r i1 i2 =>
    intro p lo hi v h
    obtain ⟨m, h1, h2, h3, h4, h5, h6, h7, h8⟩ := h
    have := i1 _ _ _ _ h7
    have := i2 _ _ _ _ h8
    show hi = lo + (1 + fSz ch + fSz r)
    omega
theorem r_read {s : cm_S} (h : rTx tx n s) (hn : 0 ≤ n) : ∃ s1, cm_sem 175 [.inr (.inl 41)] s = rL s1 ∧ rFm s s1 ∧ rR tx n (0, 0, 0, 0, false, [], [(1, 0, 0, 0, 0), (3, 0, 0, 0, 0)], []) s1 := by
  rw [cS_175, cF_175_0]
  have f1 : rFm s (cm_p (cm_p (cm_p (cm_p (cm_p (cm_p (cm_p (cm_p (cm_p (cm_p (cm_p s 4114 0) 4116 0) 4108 0) 4109 (-1)) 4110 0) 4118 0) 4128 0) 4134 0) 4136 0) 4140 0) 4141 0) := rFm_p (rFm_p (rFm_p (rFm_p (rFm_p (rFm_p (rFm_p (rFm_p (rFm_p (rFm_p (rFm_p (rFm_rf s) (by omega)) (by omega)) (by omega)) (by omega)) (by omega)) (by omega)) (by omega)) (by omega)) (by omega)) (by omega)) (by omega)
  have q1 : rR tx n (0, 0, 0, 0, false, [], [], []) (cm_p (cm_p (cm_p (cm_p (cm_p (cm_p (cm_p (cm_p (cm_p (cm_p (cm_p s 4114 0) 4116 0) 4108 0) 4109 (-1)) 4110 0) 4118 0) 4128 0) 4134 0) 4136 0) 4140 0) 4141 0) := by
    refine ⟨⟨⟨(f1.2 4107 (by omega)).trans h.1, fun j j0 j1 => by rw [f1.1 46 (by omega)]; exact h.2 j j0 j1⟩, Int.le_refl _, hn, rfl, rfl, Or.inl rfl⟩, rfl, rfl, rfl, rfl, rfl, trivial, rfl, Int.le_refl _, rfl, trivial⟩
  generalize cm_p (cm_p (cm_p (cm_p (cm_p (cm_p (cm_p (cm_p (cm_p (cm_p (cm_p s 4114 0) 4116 0) 4108 0) 4109 (-1)) 4110 0) 4118 0) 4128 0) 4134 0) 4136 0) 4140 0) 4141 0 = s1 at f1 q1 ⊢
  have h1 : s1.1 4128 = 0 := q1.2.2.2.2.2.1
  have q2 := rR_pu q1 (3, 0, 0, 0, 0)
  have h2 : (rPu s1 (3, 0, 0, 0, 0)).1 4128 = 1 := q2.2.2.2.2.2.1
  rw [cs_176 (by omega), cm_bv_o, cs_177 (by omega), cm_bv_o]
  exact ⟨_, rfl, (f1.tr (rPu_fm _ _)).tr (rPu_fm _ _), rR_pu q2 _⟩
/-- the text is read alike: the same tree on both sides, or a fault on both -/
def RdOk (tx : Int → Int) (n : Int) (s' r' : cm_S) (T : tT) : Prop := s'.1 410 = tSz T ∧ cTr s' 0 (tSz T) 0 T ∧ s'.2 11 0 = -1 ∧ s'.2 12 0 = -1 ∧ rTr r' 0 (tSz T) (tSz T - 1) T ∧ r'.1 4118 = tSz T ∧ r'.1 4108 = 0 ∧ r'.1 4110 = s'.1 1407 ∧ gG tx n T ∧ T.1 = (0, 0, 0, 0, false) ∧ tSz T ≤ n + 2 ∧ tWt T ≤ 2 * n + 1
theorem both_read (ht : tOk tx n) {s r : cm_S} (h : cTx tx n s) (hr : rTx tx n r) :
    (∃ s' r' T, cm_sem 23 [.inr (.inl 14)] s = some (.inl (some (.inl 0)), s') ∧ cFm s s' ∧ cm_sem 175 [.inr (.inl 41)] r = some (.inl (some (.inl (tSz T - 1))), r') ∧ rFm r r' ∧ RdOk tx n s' r' T) ∨
    (∃ s' r' z, cm_sem 23 [.inr (.inl 14)] s = some (.inr 0, s') ∧ cFm s s' ∧ cm_sem 175 [.inr (.inl 41)] r = some (.inl (some (.inl z)), r') ∧ rFm r r' ∧ 0 < r'.1 4108) := by
  have n9 := ht.2.1
  obtain ⟨r1, er, fr, qr⟩ := r_read hr ht.1
  rcases c_read ht h with ⟨v, s', c', e1, f1, k1, t1, v', rfl, q1⟩ | ⟨s', e1, f1, b1⟩
  · left
    obtain ⟨e', sc', lf', T, rfl, hx, h410, h1407, rfl, tr, nx, up, g, hl, sz, wt⟩ := q1
    obtain ⟨r2, e2, f2, q2⟩ := t1 r1 qr
    have tz := tSz_1 T
    have h28 : r2.1 4128 = 0 := q2.2.2.2.2.2.1
    have h18 : r2.1 4118 = tSz T := q2.2.2.1
    obtain ⟨lo, hT, h0⟩ := q2.2.2.2.2.2.2.2.2.1
    have hlo := rFo_sz _ _ _ _ _ hT.2.2.2.2
    have hv := hT.2.1
    have hl0 : lo = 0 := by
      have : tSz T = 1 + fSz T.2 := rfl
      simp only at hlo h0
      omega
    subst hl0
    rw [hv] at hT
    refine ⟨s', r2, T, e1, f1, ?_, fr.tr f2, h410, tr, nx, up, hT, h18, q2.1.2.2.2.2.1, q2.2.2.2.1.trans h1407.symm, g, hl, sz, wt⟩
    rw [er, e2]
    unfold rL
    rw [cE_175_45, cF_175_45, if_neg (by omega), h18, cm_w_id (by omega) (by omega)]
  · right
    obtain ⟨r2, e2, f2, q2⟩ := b1 r1 qr
    refine ⟨s', r2, cm_w (r2.1 4118 - 1), e1, f1, ?_, fr.tr f2, q2⟩
    unfold gB at q2
    rw [er, e2]
    unfold rL
    rw [cE_175_45, cF_175_45]
    by_cases h28 : 0 < r2.1 4128
    · rw [if_pos h28, if_neg (by omega)]
    · rw [if_neg h28]
end TX80
