/-! ===== what each task does (printed by wip/gen/ref/mk9h.py) ===== -/
section TX37
variable {tx : Int → Int} {n : Int}
theorem lxG_rg (ht : tOk tx n) {g : Bool} {e : Int} (h0 : 0 ≤ e) (h1 : e ≤ n) {t : tTk} (h : lxG tx n g e = some t) : 0 ≤ t.2.2.1 ∧ t.2.2.1 ≤ t.2.2.2.1 ∧ t.2.2.2.1 ≤ n ∧ n ≤ 480 := by
  have ok := lxG_ok ht h0 h1 h
  obtain ⟨t1, t2, -⟩ := id ht
  omega
theorem rR.at0 {c : rC} {s : cm_S} (h : rR tx n c s) : 0 ≤ c.1 ∧ c.1 ≤ n := ⟨h.1.2.1, h.1.2.2.1⟩
theorem rRt.len (ht : tOk tx n) {c : rC} {t : tTk} {s : cm_S} {g : Bool} (q : rRt tx n c t s) {e : Int} (h0 : 0 ≤ e) (h1 : e ≤ n) (hT : lxG tx n g e = some t) : cm_w (s.1 4113 - s.1 4112) = t.2.2.2.1 - t.2.2.1 := by
  have := lxG_rg ht h0 h1 hT
  rw [q.fin, q.beg, cm_w_id (by omega) (by omega)]
theorem vm1 {T : tT} {V : List tT} : cm_w ((((T :: V).length : Nat) : Int) - 1) = V.length ∨ 2147483648 ≤ ((T :: V).length : Int) := by
  rw [List.length_cons]
  by_cases h : ((V.length + 1 : Nat) : Int) < 2147483648
  · exact Or.inl (by rw [cm_w_id (by omega) (by omega)]; omega)
  · exact Or.inr (by omega)
theorem rR.vm {e d rn pu : Int} {lf : Bool} {T : tT} {V : List tT} {K : List rTs} {S : List rSg} {s : cm_S} (h : rR tx n (e, d, rn, pu, lf, T :: V, K, S) s) (hr : rn ≤ 1000) : cm_w (s.1 4134 - 1) = V.length := by
  have h1 := h.rn0
  rw [h.val, List.length_cons]
  rw [List.length_cons] at h1
  rw [cm_w_id (by omega) (by omega)]
  omega
theorem t_10e (ht : tOk tx n) {e d rn pu : Int} {lf : Bool} {V : List tT} {K : List rTs} {S : List rSg} {t : tTk} {b c x : Int} (hT : lxG tx n true e = some t) (hc : rNo t = 0) (hK : (K.length : Int) ≤ 880) : rTo tx n (e, d, rn, pu, lf, V, (1, 0, b, c, x) :: K, S) (e, d, rn, pu, lf, V, K, S) := by
  refine rTo_mk fun s q => rd_1 q (by omega) fun s q => ?_
  have a0 := q.at0
  rw [cS_179, cF_179_0]
  refine RO_l1 ht q hT fun s1 q1 => ?_
  have k1 := q1.tok
  rw [if_pos rfl, if_pos (by omega), if_neg (by rw [q1.nof]; decide), if_neg (by decide), if_neg (by decide)]
  exact RO_ret q1.1
theorem t_12e (ht : tOk tx n) {e d rn pu : Int} {lf : Bool} {V : List tT} {K : List rTs} {S : List rSg} {t : tTk} {b c x : Int} (hT : lxG tx n true e = some t) (hc : rNo t = 1001 ∨ rNo t = 1004 ∨ rNo t = 125) (hK : (K.length : Int) ≤ 880) : rTo tx n (e, d, rn, pu, lf, V, (1, 2, b, c, x) :: K, S) (e, d, rn, pu, lf, V, K, S) := by
  refine rTo_mk fun s q => rd_1 q (by omega) fun s q => ?_
  have a0 := q.at0
  rw [cS_179, cF_179_0]
  refine RO_l1 ht q hT fun s1 q1 => ?_
  have k1 := q1.tok
  have fin : RO s1 (cm_lp cm_sem cm_k179 28 [some (.inr (.inl 41)), some (.inl 2), none] [] s1) (rR tx n (e, d, rn, pu, lf, V, K, S)) := by
    rw [cE_179_28, cF_179_28, if_neg (by rw [q1.nof]; decide), if_neg (by decide), if_neg (by decide)]
    exact RO_ret q1.1
  rw [if_neg (by decide), if_pos rfl]
  refine RO_ite (fun _ => fin) fun _ => RO_ite (fun _ => fin) fun _ => RO_ite (fun _ => fin) fun _ => ?_
  exfalso; omega
theorem t_11e (ht : tOk tx n) {e d rn pu : Int} {lf : Bool} {V : List tT} {K : List rTs} {S : List rSg} {t : tTk} {b c x : Int} (hT : lxG tx n true e = some t) (hc : rNo t = 125) (hK : (K.length : Int) ≤ 880) : rTo tx n (e, d, rn, pu, lf, V, (1, 1, b, c, x) :: K, S) (t.2.2.2.1, d, rn, pu, lf, V, K, S) := by
  refine rTo_mk fun s q => rd_1 q (by omega) fun s q => ?_
  have a0 := q.at0
  rw [cS_179, cF_179_0]
  refine RO_l1 ht q hT fun s1 q1 => ?_
  have k1 := q1.tok
  rw [if_neg (by decide), if_neg (by decide), if_pos (by omega), if_neg (by rw [q1.nof]; decide), if_pos rfl]
  exact RO_tk ht q1 hT fun s2 q2 => RO_ret q2.1
theorem t_13e (ht : tOk tx n) {e d rn pu : Int} {lf : Bool} {V : List tT} {K : List rTs} {S : List rSg} {t : tTk} {b c x : Int} (hT : lxG tx n true e = some t) (hc : rNo t = 125) (hK : (K.length : Int) ≤ 880) : rTo tx n (e, d, rn, pu, lf, V, (1, 3, b, c, x) :: K, S) (t.2.2.2.1, d, rn, pu, lf, V, K, S) := by
  refine rTo_mk fun s q => rd_1 q (by omega) fun s q => ?_
  have a0 := q.at0
  rw [cS_179, cF_179_0]
  refine RO_l1 ht q hT fun s1 q1 => ?_
  have k1 := q1.tok
  rw [if_neg (by decide), if_neg (by decide), if_pos (by omega), if_neg (by rw [q1.nof]; decide), if_neg (by decide), if_pos rfl]
  exact RO_tk ht q1 hT fun s2 q2 => RO_ret q2.1
theorem t_10m (ht : tOk tx n) {e d rn pu : Int} {lf : Bool} {V : List tT} {K : List rTs} {S : List rSg} {t : tTk} {b c x : Int} (hT : lxG tx n true e = some t) (hc : rNo t ≠ 0) (hK : (K.length : Int) ≤ 880) : rTo tx n (e, d, rn, pu, lf, V, (1, 0, b, c, x) :: K, S) (e, d, rn, pu, lf, V, (2, 1, 0, 0, 0) :: (1, 0, 0, 0, 0) :: K, S) := by
  refine rTo_mk fun s q => rd_1 q (by omega) fun s q => ?_
  have a0 := q.at0
  rw [cS_179, cF_179_0]
  refine RO_l1 ht q hT fun s1 q1 => ?_
  have k1 := q1.tok
  rw [if_pos rfl, if_neg (by omega), if_neg (by rw [q1.nof]; decide)]
  refine RO_la q1 (by omega) fun s2 q2 => ?_
  rw [if_pos rfl]
  exact RO_la q2 (by simp only [List.length_cons]; omega) fun s3 q3 => RO_ret q3.1
theorem t_11m (ht : tOk tx n) {e d rn pu : Int} {lf : Bool} {V : List tT} {K : List rTs} {S : List rSg} {t : tTk} {b c x : Int} (hT : lxG tx n true e = some t) (hc : rNo t ≠ 125) (hK : (K.length : Int) ≤ 880) : rTo tx n (e, d, rn, pu, lf, V, (1, 1, b, c, x) :: K, S) (e, d, rn, pu, lf, V, (2, 0, 0, 0, 0) :: (1, 1, 0, 0, 0) :: K, S) := by
  refine rTo_mk fun s q => rd_1 q (by omega) fun s q => ?_
  have a0 := q.at0
  rw [cS_179, cF_179_0]
  refine RO_l1 ht q hT fun s1 q1 => ?_
  have k1 := q1.tok
  rw [if_neg (by decide), if_neg (by decide), if_neg (by omega), if_neg (by rw [q1.nof]; decide)]
  refine RO_la q1 (by omega) fun s2 q2 => ?_
  rw [if_neg (by decide), if_neg (by decide)]
  exact RO_la q2 (by simp only [List.length_cons]; omega) fun s3 q3 => RO_ret q3.1
theorem t_12m (ht : tOk tx n) {e d rn pu : Int} {lf : Bool} {V : List tT} {K : List rTs} {S : List rSg} {t : tTk} {b c x : Int} (hT : lxG tx n true e = some t) (hc : rNo t ≠ 1001 ∧ rNo t ≠ 1004 ∧ rNo t ≠ 125) (hK : (K.length : Int) ≤ 880) : rTo tx n (e, d, rn, pu, lf, V, (1, 2, b, c, x) :: K, S) (e, d, rn, pu, lf, V, (2, 0, 0, 0, 0) :: (1, 2, 0, 0, 0) :: K, S) := by
  refine rTo_mk fun s q => rd_1 q (by omega) fun s q => ?_
  have a0 := q.at0
  rw [cS_179, cF_179_0]
  refine RO_l1 ht q hT fun s1 q1 => ?_
  have k1 := q1.tok
  rw [if_neg (by decide), if_pos rfl, if_neg (by omega), if_neg (by omega), if_neg (by omega), if_neg (by rw [q1.nof]; decide)]
  refine RO_la q1 (by omega) fun s2 q2 => ?_
  rw [if_neg (by decide), if_neg (by decide)]
  exact RO_la q2 (by simp only [List.length_cons]; omega) fun s3 q3 => RO_ret q3.1
theorem t_13m (ht : tOk tx n) {e d rn pu : Int} {lf : Bool} {V : List tT} {K : List rTs} {S : List rSg} {t : tTk} {b c x : Int} (hT : lxG tx n true e = some t) (hc : rNo t ≠ 125) (hK : (K.length : Int) ≤ 880) : rTo tx n (e, d, rn, pu, lf, V, (1, 3, b, c, x) :: K, S) (e, d, rn, pu, lf, V, (2, 1, 0, 0, 0) :: (1, 3, 0, 0, 0) :: K, S) := by
  refine rTo_mk fun s q => rd_1 q (by omega) fun s q => ?_
  have a0 := q.at0
  rw [cS_179, cF_179_0]
  refine RO_l1 ht q hT fun s1 q1 => ?_
  have k1 := q1.tok
  rw [if_neg (by decide), if_neg (by decide), if_neg (by omega), if_neg (by rw [q1.nof]; decide)]
  refine RO_la q1 (by omega) fun s2 q2 => ?_
  rw [if_neg (by decide), if_pos rfl]
  exact RO_la q2 (by simp only [List.length_cons]; omega) fun s3 q3 => RO_ret q3.1
theorem b_10 (ht : tOk tx n) {e d rn pu : Int} {lf : Bool} {V : List tT} {K : List rTs} {S : List rSg} {t : tTk} {b c x : Int} (hN : lxG tx n true e = none) (hr : rn ≤ 486) (hK : (K.length : Int) ≤ 880) : rBd tx n (e, d, rn, pu, lf, V, (1, 0, b, c, x) :: K, S) := by
  refine rBd_mk fun s q => rd_1 q (by omega) fun s q => ?_
  rw [cS_179, cF_179_0]
  refine RO_n1 ht q hN fun s1 q1 g1 x1 f1 => ?_
  have z := rZ_of q1 g1 x1 f1 (by omega) hr
  repeat' first
      | exact Z_ret ‹_›
      | refine Z_la ‹_› (by omega) fun _ _ => ?_
      | refine Z_tk ‹_› fun _ _ => ?_
      | rw [cE_179_28, cF_179_28]
      | refine RO_ite (fun _ => ?_) (fun _ => ?_)
theorem b_11 (ht : tOk tx n) {e d rn pu : Int} {lf : Bool} {V : List tT} {K : List rTs} {S : List rSg} {t : tTk} {b c x : Int} (hN : lxG tx n true e = none) (hr : rn ≤ 486) (hK : (K.length : Int) ≤ 880) : rBd tx n (e, d, rn, pu, lf, V, (1, 1, b, c, x) :: K, S) := by
  refine rBd_mk fun s q => rd_1 q (by omega) fun s q => ?_
  rw [cS_179, cF_179_0]
  refine RO_n1 ht q hN fun s1 q1 g1 x1 f1 => ?_
  have z := rZ_of q1 g1 x1 f1 (by omega) hr
  repeat' first
      | exact Z_ret ‹_›
      | refine Z_la ‹_› (by omega) fun _ _ => ?_
      | refine Z_tk ‹_› fun _ _ => ?_
      | rw [cE_179_28, cF_179_28]
      | refine RO_ite (fun _ => ?_) (fun _ => ?_)
theorem b_12 (ht : tOk tx n) {e d rn pu : Int} {lf : Bool} {V : List tT} {K : List rTs} {S : List rSg} {t : tTk} {b c x : Int} (hN : lxG tx n true e = none) (hr : rn ≤ 486) (hK : (K.length : Int) ≤ 880) : rBd tx n (e, d, rn, pu, lf, V, (1, 2, b, c, x) :: K, S) := by
  refine rBd_mk fun s q => rd_1 q (by omega) fun s q => ?_
  rw [cS_179, cF_179_0]
  refine RO_n1 ht q hN fun s1 q1 g1 x1 f1 => ?_
  have z := rZ_of q1 g1 x1 f1 (by omega) hr
  repeat' first
      | exact Z_ret ‹_›
      | refine Z_la ‹_› (by omega) fun _ _ => ?_
      | refine Z_tk ‹_› fun _ _ => ?_
      | rw [cE_179_28, cF_179_28]
      | refine RO_ite (fun _ => ?_) (fun _ => ?_)
theorem b_13 (ht : tOk tx n) {e d rn pu : Int} {lf : Bool} {V : List tT} {K : List rTs} {S : List rSg} {t : tTk} {b c x : Int} (hN : lxG tx n true e = none) (hr : rn ≤ 486) (hK : (K.length : Int) ≤ 880) : rBd tx n (e, d, rn, pu, lf, V, (1, 3, b, c, x) :: K, S) := by
  refine rBd_mk fun s q => rd_1 q (by omega) fun s q => ?_
  rw [cS_179, cF_179_0]
  refine RO_n1 ht q hN fun s1 q1 g1 x1 f1 => ?_
  have z := rZ_of q1 g1 x1 f1 (by omega) hr
  repeat' first
      | exact Z_ret ‹_›
      | refine Z_la ‹_› (by omega) fun _ _ => ?_
      | refine Z_tk ‹_› fun _ _ => ?_
      | rw [cE_179_28, cF_179_28]
      | refine RO_ite (fun _ => ?_) (fun _ => ?_)
theorem t_5 (ht : tOk tx n) {e d rn pu : Int} {lf : Bool} {V : List tT} {K : List rTs} {S : List rSg} {t : tTk} {a b c x : Int} (hT : lxG tx n false e = some t) (hc : rNo t = a) (hK : (K.length : Int) ≤ 880) : rTo tx n (e, d, rn, pu, lf, V, (5, a, b, c, x) :: K, S) (t.2.2.2.1, d, rn, pu, lf, V, K, S) := by
  refine rTo_mk fun s q => rd_5 q (by omega) fun s q => ?_
  have a0 := q.at0
  rw [cS_210, cF_210_0]
  refine RO_l0 ht q hT fun s1 q1 => ?_
  have k1 := q1.tok
  rw [if_pos (by omega)]
  exact RO_tk ht q1 hT fun s2 q2 => RO_ret q2.1
theorem b_5 (ht : tOk tx n) {e d rn pu : Int} {lf : Bool} {V : List tT} {K : List rTs} {S : List rSg} {t : tTk} {a b c x : Int} (hT : lxG tx n false e = some t) (hc : rNo t ≠ a) (hK : (K.length : Int) ≤ 880) : rBd tx n (e, d, rn, pu, lf, V, (5, a, b, c, x) :: K, S) := by
  refine rBd_mk fun s q => rd_5 q (by omega) fun s q => ?_
  have a0 := q.at0
  rw [cS_210, cF_210_0]
  refine RO_l0 ht q hT fun s1 q1 => ?_
  have k1 := q1.tok
  rw [if_neg (by omega)]
  exact RO_bd q1 fun s2 _ g2 => RO_ret g2
theorem t_6t (ht : tOk tx n) {e d rn pu : Int} {lf : Bool} {V : List tT} {K : List rTs} {S : List rSg} {t : tTk} {a b c x : Int} (hT : lxG tx n false e = some t) (hc : rNo t = 59) (hK : (K.length : Int) ≤ 880) : rTo tx n (e, d, rn, pu, lf, V, (6, a, b, c, x) :: K, S) (t.2.2.2.1, d, rn, pu, lf, V, K, S) := by
  refine rTo_mk fun s q => rd_6 q (by omega) fun s q => ?_
  have a0 := q.at0
  rw [cS_211, cF_211_0]
  refine RO_l0 ht q hT fun s1 q1 => ?_
  have k1 := q1.tok
  rw [if_pos (by omega)]
  exact RO_tk ht q1 hT fun s2 q2 => RO_ret q2.1
theorem t_6p (ht : tOk tx n) {e d rn pu : Int} {lf : Bool} {V : List tT} {K : List rTs} {S : List rSg} {t : tTk} {a b c x : Int} (hT : lxG tx n false e = some t) (hc : rNo t ≠ 59) (hl : t.2.2.2.2 = true ∨ rNo t = 125 ∨ rNo t = 0) (hK : (K.length : Int) ≤ 880) : rTo tx n (e, d, rn, pu, lf, V, (6, a, b, c, x) :: K, S) (e, d, rn, cm_w (pu + 1), lf, V, K, S) := by
  refine rTo_mk fun s q => rd_6 q (by omega) fun s q => ?_
  have a0 := q.at0
  rw [cS_211, cF_211_0]
  refine RO_l0 ht q hT fun s1 q1 => ?_
  have k1 := q1.tok
  have hpu : s1.1 4110 = pu := q1.1.2.2.2.1
  have fin : RO s1 (some (.inl none, cm_p s1 4110 (cm_w (s1.1 4110 + 1)))) (rR tx n (e, d, rn, cm_w (pu + 1), lf, V, K, S)) := by
    rw [hpu]
    refine RO_at (rFm_p (rFm_rf s1) (by omega)) ⟨rAt_fr q1.1.1 rfl fun j _ _ _ => cm_p_ne (by omega), ?_⟩
    obtain ⟨h1, h2, h3, h4, h5, h6, h7, h8, h9, h10⟩ := q1.1.2
    exact ⟨(cm_p_ne (by decide)).trans h1, (cm_p_ne (by decide)).trans h2, cm_p_at, (cm_p_ne (by decide)).trans h4, (cm_p_ne (by decide)).trans h5, rSkA_fr (s := s1) _ (fun a i _ _ _ => rfl) h6, (cm_p_ne (by decide)).trans h7, rVaA_fr (s := s1) _ _ (fun a i _ _ _ => rfl) (fun i _ => rfl) h8, (cm_p_ne (by decide)).trans h9, rSgA_fr (s := s1) _ (fun a i _ _ _ => rfl) h10⟩
  rw [if_neg (by omega)]
  refine RO_ite (fun hl0 => ?_) (fun _ => fin)
  rw [q1.lin, cm_n0] at hl0
  rw [hl0] at hl
  refine RO_ite (fun _ => fin) fun h2 => RO_ite (fun _ => fin) fun h3 => ?_
  exfalso
  rcases hl with z | z | z
  · cases z
  · omega
  · omega
theorem b_6 (ht : tOk tx n) {e d rn pu : Int} {lf : Bool} {V : List tT} {K : List rTs} {S : List rSg} {t : tTk} {a b c x : Int} (hT : lxG tx n false e = some t) (hc : rNo t ≠ 59) (hl : t.2.2.2.2 = false) (h2 : rNo t ≠ 125) (h3 : rNo t ≠ 0) (hK : (K.length : Int) ≤ 880) : rBd tx n (e, d, rn, pu, lf, V, (6, a, b, c, x) :: K, S) := by
  refine rBd_mk fun s q => rd_6 q (by omega) fun s q => ?_
  have a0 := q.at0
  rw [cS_211, cF_211_0]
  refine RO_l0 ht q hT fun s1 q1 => ?_
  have k1 := q1.tok
  rw [if_neg (by omega), if_pos (by rw [q1.lin, hl]; rfl), if_neg (by omega), if_neg (by omega)]
  exact RO_bd q1 fun s2 _ g2 => RO_ret g2
theorem t_8a (ht : tOk tx n) {e d rn pu : Int} {lf : Bool} {V : List tT} {K : List rTs} {S : List rSg} {t : tTk} {b c x : Int} (hT : lxG tx n false e = some t) (hc : rNo t = 44) (hK : (K.length : Int) ≤ 880) : rTo tx n (e, d, rn, pu, lf, V, (8, -1, b, c, x) :: K, S) (t.2.2.2.1, d, rn, pu, lf, V, (9, c, 0, 0, 0) :: (8, t.2.2.1, b, c, 0) :: K, S) := by
  refine rTo_mk fun s q => rd_8 q (by omega) fun s q => ?_
  have a0 := q.at0
  rw [cS_232, cF_232_0]
  refine RO_l0 ht q hT fun s1 q1 => ?_
  have k1 := q1.tok
  rw [if_pos (by omega), if_pos rfl, q1.beg]
  exact RO_pu q1 (by omega) fun s2 q2 => RO_la q2 (by simp only [List.length_cons]; omega) fun s3 q3 => RO_tk ht q3 hT fun s4 q4 => RO_ret q4.1
theorem t_8b (ht : tOk tx n) {e d rn pu : Int} {lf : Bool} {V : List tT} {K : List rTs} {S : List rSg} {t : tTk} {a b c x : Int} (ha : a ≠ -1) (hT : lxG tx n false e = some t) (hc : rNo t = 44) (hK : (K.length : Int) ≤ 880) : rTo tx n (e, d, rn, pu, lf, V, (8, a, b, c, x) :: K, S) (t.2.2.2.1, d, rn, pu, lf, V, (9, c, 0, 0, 0) :: (8, a, b, c, 0) :: K, S) := by
  refine rTo_mk fun s q => rd_8 q (by omega) fun s q => ?_
  have a0 := q.at0
  rw [cS_232, cF_232_0]
  refine RO_l0 ht q hT fun s1 q1 => ?_
  have k1 := q1.tok
  rw [if_pos (by omega), if_neg ha]
  exact RO_pu q1 (by omega) fun s2 q2 => RO_la q2 (by simp only [List.length_cons]; omega) fun s3 q3 => RO_tk ht q3 hT fun s4 q4 => RO_ret q4.1
theorem t_8c (ht : tOk tx n) {e d rn pu : Int} {lf : Bool} {V : List tT} {K : List rTs} {S : List rSg} {t : tTk} {b c x : Int} (hT : lxG tx n false e = some t) (hc : rNo t ≠ 44) (hK : (K.length : Int) ≤ 880) : rTo tx n (e, d, rn, pu, lf, V, (8, -1, b, c, x) :: K, S) (e, d, rn, pu, lf, V, K, S) := by
  refine rTo_mk fun s q => rd_8 q (by omega) fun s q => ?_
  have a0 := q.at0
  rw [cS_232, cF_232_0]
  refine RO_l0 ht q hT fun s1 q1 => ?_
  have k1 := q1.tok
  rw [if_neg (by omega), if_pos rfl]
  exact RO_ret q1.1
theorem t_8d (ht : tOk tx n) {e d rn pu : Int} {lf : Bool} {V : List tT} {K : List rTs} {S : List rSg} {t : tTk} {a b c x : Int} {Vc : List tT} (ha : a ≠ -1) (hT : lxG tx n false e = some t) (hc : rNo t ≠ 44) (hn : rn < 499) (hb : b = V.length) (hK : (K.length : Int) ≤ 880) (cc : Int) : rTo tx n (e, d, rn, pu, lf, Vc ++ V, (8, a, b, c, x) :: K, S) (e, d, rn + 1, pu, lf && decide ((49 : Int) < 44 ∨ 49 < (49 : Int)), ((49, a, 0, cc, false), foR .leaf Vc) :: V, K, S) := by
  refine rTo_mk fun s q => rd_8 q (by omega) fun s q => ?_
  have a0 := q.at0
  rw [cS_232, cF_232_0]
  refine RO_l0 ht q hT fun s1 q1 => ?_
  have k1 := q1.tok
  rw [if_neg (by omega), if_neg ha]
  exact RO_re q1 hn hb cc fun s2 q2 => RO_ret q2.1
theorem t_9 (ht : tOk tx n) {e d rn pu : Int} {lf : Bool} {V : List tT} {K : List rTs} {S : List rSg} {t : tTk} {a b c x : Int} (hT : lxG tx n true e = some t) (h0 : 0 ≤ d) (hd : d < 20 ∨ 20 ≤ d ∧ d ≤ 30 ∧ rNo t = 0) (hK : (K.length : Int) ≤ 880) : rTo tx n (e, d, rn, pu, lf, V, (9, a, b, c, x) :: K, S) (e, d + 1, rn, pu, lf, V, (12, 0, 0, 0, 0) :: (11, S.length, a, 0, 0) :: (10, a, 0, 0, 0) :: (4, 0, 0, 0, 0) :: K, S) := by
  refine rTo_mk fun s q => rd_9 q (by omega) fun s q => ?_
  rw [cS_233, cF_233_0]
  refine RO_bi (en_ok ht q hT h0 hd) fun z s1 g => ?_
  obtain ⟨rfl, q1⟩ := g
  rw [if_neg (by decide)]
  refine RO_la q1 (by omega) fun s2 q2 => RO_la q2 (by simp only [List.length_cons]; omega) fun s3 q3 => ?_
  rw [show s3.1 4136 = (S.length : Int) from q3.1.2.2.2.2.2.2.2.2.2.1]
  exact RO_pu q3 (by simp only [List.length_cons]; omega) fun s4 q4 => RO_la q4 (by simp only [List.length_cons]; omega) fun s5 q5 => RO_ret q5.1
theorem b_9d (ht : tOk tx n) {e d rn pu : Int} {lf : Bool} {V : List tT} {K : List rTs} {S : List rSg} {t : tTk} {a b c x : Int} (hT : lxG tx n true e = some t) (hd : d = 20) (hz : rNo t ≠ 0) (hK : (K.length : Int) ≤ 880) : rBd tx n (e, d, rn, pu, lf, V, (9, a, b, c, x) :: K, S) := by
  refine rBd_mk fun s q => rd_9 q (by omega) fun s q => ?_
  rw [cS_233, cF_233_0]
  refine RO_bi (en_deep ht q hT hd hz) fun z s1 g => ?_
  rw [if_pos g.1]
  exact RO_ret g.2
theorem b_9n (ht : tOk tx n) {e d rn pu : Int} {lf : Bool} {V : List tT} {K : List rTs} {S : List rSg} {t : tTk} {a b c x : Int} (hN : lxG tx n true e = none) (hK : (K.length : Int) ≤ 880) : rBd tx n (e, d, rn, pu, lf, V, (9, a, b, c, x) :: K, S) := by
  refine rBd_mk fun s q => rd_9 q (by omega) fun s q => ?_
  rw [cS_233, cF_233_0]
  refine RO_bi (en_none ht q hN) fun z s1 g => ?_
  rw [if_pos g.1]
  exact RO_ret g.2
theorem b_15d (ht : tOk tx n) {e d rn pu : Int} {lf : Bool} {V : List tT} {K : List rTs} {S : List rSg} {t : tTk} {a b c x : Int} (hT : lxG tx n true e = some t) (hd : d = 20) (hz : rNo t ≠ 0) (hK : (K.length : Int) ≤ 880) : rBd tx n (e, d, rn, pu, lf, V, (15, a, b, c, x) :: K, S) := by
  refine rBd_mk fun s q => rd_15 q (by omega) fun s q => ?_
  rw [cS_242, cF_242_0]
  refine RO_bi (en_deep ht q hT hd hz) fun z s1 g => ?_
  rw [if_pos g.1]
  exact RO_ret g.2
theorem b_15n (ht : tOk tx n) {e d rn pu : Int} {lf : Bool} {V : List tT} {K : List rTs} {S : List rSg} {t : tTk} {a b c x : Int} (hN : lxG tx n true e = none) (hK : (K.length : Int) ≤ 880) : rBd tx n (e, d, rn, pu, lf, V, (15, a, b, c, x) :: K, S) := by
  refine rBd_mk fun s q => rd_15 q (by omega) fun s q => ?_
  rw [cS_242, cF_242_0]
  refine RO_bi (en_none ht q hN) fun z s1 g => ?_
  rw [if_pos g.1]
  exact RO_ret g.2
theorem b_2f0d (ht : tOk tx n) {e d rn pu : Int} {lf : Bool} {V : List tT} {K : List rTs} {S : List rSg} {t : tTk} {b c x : Int} (hT : lxG tx n true e = some t) (hd : d = 20) (hz : rNo t ≠ 0) (hK : (K.length : Int) ≤ 880) : rBd tx n (e, d, rn, pu, lf, V, (2, 0, b, c, x) :: K, S) := by
  refine rBd_mk fun s q => rd_20 (a := 0) q (by omega) fun s q => ?_
  rw [cS_199, cF_199_0]
  refine RO_bi (en_deep ht q hT hd hz) fun z s1 g => ?_
  rw [if_pos g.1]
  exact RO_ret g.2
theorem b_2f0n (ht : tOk tx n) {e d rn pu : Int} {lf : Bool} {V : List tT} {K : List rTs} {S : List rSg} {t : tTk} {b c x : Int} (hN : lxG tx n true e = none) (hK : (K.length : Int) ≤ 880) : rBd tx n (e, d, rn, pu, lf, V, (2, 0, b, c, x) :: K, S) := by
  refine rBd_mk fun s q => rd_20 (a := 0) q (by omega) fun s q => ?_
  rw [cS_199, cF_199_0]
  refine RO_bi (en_none ht q hN) fun z s1 g => ?_
  rw [if_pos g.1]
  exact RO_ret g.2
theorem b_2f1d (ht : tOk tx n) {e d rn pu : Int} {lf : Bool} {V : List tT} {K : List rTs} {S : List rSg} {t : tTk} {b c x : Int} (hT : lxG tx n true e = some t) (hd : d = 20) (hz : rNo t ≠ 0) (hK : (K.length : Int) ≤ 880) : rBd tx n (e, d, rn, pu, lf, V, (2, 1, b, c, x) :: K, S) := by
  refine rBd_mk fun s q => rd_21 (a := 0) q (by omega) fun s q => ?_
  rw [cS_199, cF_199_0]
  refine RO_bi (en_deep ht q hT hd hz) fun z s1 g => ?_
  rw [if_pos g.1]
  exact RO_ret g.2
theorem b_2f1n (ht : tOk tx n) {e d rn pu : Int} {lf : Bool} {V : List tT} {K : List rTs} {S : List rSg} {t : tTk} {b c x : Int} (hN : lxG tx n true e = none) (hK : (K.length : Int) ≤ 880) : rBd tx n (e, d, rn, pu, lf, V, (2, 1, b, c, x) :: K, S) := by
  refine rBd_mk fun s q => rd_21 (a := 0) q (by omega) fun s q => ?_
  rw [cS_199, cF_199_0]
  refine RO_bi (en_none ht q hN) fun z s1 g => ?_
  rw [if_pos g.1]
  exact RO_ret g.2
theorem b_121d (ht : tOk tx n) {e d rn pu : Int} {lf : Bool} {V : List tT} {K : List rTs} {S : List rSg} {t : tTk} {b c x : Int} (hT : lxG tx n true e = some t) (hd : d = 20) (hz : rNo t ≠ 0) (hK : (K.length : Int) ≤ 880) : rBd tx n (e, d, rn, pu, lf, V, (12, 1, b, c, x) :: K, S) := by
  refine rBd_mk fun s q => rd_121 (a := 0) q (by omega) fun s q => ?_
  rw [cS_239, cF_239_0, if_neg (by decide)]
  refine RO_bi (en_deep ht q hT hd hz) fun z s1 g => ?_
  rw [if_pos g.1]
  exact RO_ret g.2
theorem b_121n (ht : tOk tx n) {e d rn pu : Int} {lf : Bool} {V : List tT} {K : List rTs} {S : List rSg} {t : tTk} {b c x : Int} (hN : lxG tx n true e = none) (hK : (K.length : Int) ≤ 880) : rBd tx n (e, d, rn, pu, lf, V, (12, 1, b, c, x) :: K, S) := by
  refine rBd_mk fun s q => rd_121 (a := 0) q (by omega) fun s q => ?_
  rw [cS_239, cF_239_0, if_neg (by decide)]
  refine RO_bi (en_none ht q hN) fun z s1 g => ?_
  rw [if_pos g.1]
  exact RO_ret g.2
theorem t_10q (ht : tOk tx n) {e d rn pu : Int} {lf : Bool} {V : List tT} {K : List rTs} {S : List rSg} {t : tTk} {a b c x : Int} {T : tT} (hT : lxG tx n false e = some t) (hc : rNo t = 63) (hr : rn ≤ 490) (hK : (K.length : Int) ≤ 880) : rTo tx n (e, d, rn, pu, lf, T :: V, (10, a, b, c, x) :: K, S) (t.2.2.2.1, d, rn, pu, lf, T :: V, (9, a, 0, 0, 0) :: (5, 58, 0, 0, 0) :: (9, a, 0, 0, 0) :: (3, 47, t.2.2.1, 0, V.length) :: K, S) := by
  refine rTo_mk fun s q => rd_10 q (by omega) fun s q => ?_
  have a0 := q.at0
  rw [cS_234, cF_234_0]
  refine RO_l0 ht q hT fun s1 q1 => ?_
  have k1 := q1.tok
  rw [if_pos (by omega), q1.beg, q1.1.vm (by omega)]
  exact RO_pu q1 (by omega) fun s2 q2 => RO_la q2 (by simp only [List.length_cons]; omega) fun s3 q3 => RO_la q3 (by simp only [List.length_cons]; omega) fun s4 q4 => RO_la q4 (by simp only [List.length_cons]; omega) fun s5 q5 => RO_tk ht q5 hT fun s6 q6 => RO_ret q6.1
theorem t_10n (ht : tOk tx n) {e d rn pu : Int} {lf : Bool} {V : List tT} {K : List rTs} {S : List rSg} {t : tTk} {a b c x : Int} (hT : lxG tx n false e = some t) (hc : rNo t ≠ 63) (hs : ¬ asP (rNo t)) (hK : (K.length : Int) ≤ 880) : rTo tx n (e, d, rn, pu, lf, V, (10, a, b, c, x) :: K, S) (e, d, rn, pu, lf, V, K, S) := by
  refine rTo_mk fun s q => rd_10 q (by omega) fun s q => ?_
  have a0 := q.at0
  rw [cS_234, cF_234_0]
  refine RO_l0 ht q hT fun s1 q1 => ?_
  have k1 := q1.tok
  rw [if_neg (by omega), k1, cs_235, cm_bi_i, if_pos (by rw [cm_b0]; exact hs)]
  exact RO_ret q1.1
theorem t_10a (ht : tOk tx n) {e d rn pu : Int} {lf : Bool} {V : List tT} {K : List rTs} {S : List rSg} {t : tTk} {a b c x : Int} {T : tT} (hT : lxG tx n false e = some t) (hc : rNo t ≠ 63) (hs : asP (rNo t)) (hr : rn ≤ 490) (hK : (K.length : Int) ≤ 880) : rTo tx n (e, d, rn, pu, true, T :: V, (10, a, b, c, x) :: K, S) (t.2.2.2.1, d, rn, pu, true, T :: V, (9, a, 0, 0, 0) :: (3, 48, t.2.2.1, t.2.2.2.1 - t.2.2.1, V.length) :: K, S) := by
  refine rTo_mk fun s q => rd_10 q (by omega) fun s q => ?_
  have a0 := q.at0
  rw [cS_234, cF_234_0]
  refine RO_l0 ht q hT fun s1 q1 => ?_
  have k1 := q1.tok
  have hl : s1.1 4141 = cm_n true := q1.1.2.2.2.2.1
  rw [if_neg (by omega), k1, cs_235, cm_bi_i, if_neg (by rw [cm_b0]; exact fun z => z hs), if_neg (by rw [hl]; decide), q1.len ht a0.1 a0.2 hT, q1.beg, q1.1.vm (by omega)]
  exact RO_pu q1 (by omega) fun s2 q2 => RO_la q2 (by simp only [List.length_cons]; omega) fun s3 q3 => RO_tk ht q3 hT fun s4 q4 => RO_ret q4.1
theorem b_10a (ht : tOk tx n) {e d rn pu : Int} {lf : Bool} {V : List tT} {K : List rTs} {S : List rSg} {t : tTk} {a b c x : Int} (hT : lxG tx n false e = some t) (hc : rNo t ≠ 63) (hs : asP (rNo t)) (hK : (K.length : Int) ≤ 880) : rBd tx n (e, d, rn, pu, false, V, (10, a, b, c, x) :: K, S) := by
  refine rBd_mk fun s q => rd_10 q (by omega) fun s q => ?_
  have a0 := q.at0
  rw [cS_234, cF_234_0]
  refine RO_l0 ht q hT fun s1 q1 => ?_
  have k1 := q1.tok
  have hl : s1.1 4141 = cm_n false := q1.1.2.2.2.2.1
  rw [if_neg (by omega), k1, cs_235, cm_bi_i, if_neg (by rw [cm_b0]; exact fun z => z hs), if_pos (by rw [hl]; rfl)]
  exact RO_bd q1 fun s2 _ g2 => RO_ret g2
theorem un_p (ht : tOk tx n) {e d rn pu : Int} {lf : Bool} {V : List tT} {K : List rTs} {S : List rSg} {t : tTk} {o1 o2 : Option cm_V} {s : cm_S} (q : rR tx n (e, d, rn, pu, lf, V, K, S) s) (hT : lxG tx n true e = some t) (hc : (rNo t = 1005 ∨ rNo t = 1025 ∨ rNo t = 1023 ∨ rNo t = 11051 ∨ rNo t = 11565 ∨ rNo t = 43 ∨ rNo t = 45 ∨ rNo t = 126 ∨ rNo t = 33)) (hK : (K.length : Int) ≤ 880) : RO s (cm_lp cm_sem cm_k239 7 [some (.inr (.inl 41)), o1, o2] [] s) (rR tx n (t.2.2.2.1, d, rn, pu, lf, V, (12, 1, 0, 0, 0) :: (4, 0, 0, 0, 0) :: (3, 45, t.2.2.1, t.2.2.2.1 - t.2.2.1, V.length) :: K, S)) := by
  have a0 := q.at0
  rw [cE_239_7, cF_239_7]
  refine RO_l1 ht q hT fun s1 q1 => ?_
  have k1 := q1.tok
  have fin : RO s1 (cm_lp cm_sem cm_k239 47 [some (.inr (.inl 41)), o1, o2] [] s1) (rR tx n (t.2.2.2.1, d, rn, pu, lf, V, (12, 1, 0, 0, 0) :: (4, 0, 0, 0, 0) :: (3, 45, t.2.2.1, t.2.2.2.1 - t.2.2.1, V.length) :: K, S)) := by
    rw [cE_239_47, cF_239_47, q1.len ht a0.1 a0.2 hT, q1.beg, q1.1.val]
    exact RO_pu q1 (by omega) fun s2 q2 => RO_la q2 (by simp only [List.length_cons]; omega) fun s3 q3 => RO_la q3 (by simp only [List.length_cons]; omega) fun s4 q4 => RO_tk ht q4 hT fun s5 q5 => RO_ret q5.1
  refine RO_ite (fun _ => fin) fun _ => RO_ite (fun _ => fin) fun _ => RO_ite (fun _ => fin) fun _ => RO_ite (fun _ => fin) fun _ => RO_ite (fun _ => fin) fun _ => RO_ite (fun _ => fin) fun _ => RO_ite (fun _ => fin) fun _ => RO_ite (fun _ => fin) fun _ => RO_ite (fun _ => fin) fun _ => ?_
  exfalso; omega
theorem un_l (ht : tOk tx n) {e d rn pu : Int} {lf : Bool} {V : List tT} {K : List rTs} {S : List rSg} {t : tTk} {o1 o2 : Option cm_V} {s : cm_S} (q : rR tx n (e, d, rn, pu, lf, V, K, S) s) (hT : lxG tx n true e = some t) (hc : ¬ (rNo t = 1005 ∨ rNo t = 1025 ∨ rNo t = 1023 ∨ rNo t = 11051 ∨ rNo t = 11565 ∨ rNo t = 43 ∨ rNo t = 45 ∨ rNo t = 126 ∨ rNo t = 33)) (hK : (K.length : Int) ≤ 880) : RO s (cm_lp cm_sem cm_k239 7 [some (.inr (.inl 41)), o1, o2] [] s) (rR tx n (e, d, rn, pu, lf, V, (14, 0, 0, 0, 0) :: (13, 0, 0, 0, 0) :: K, S)) := by
  rw [cE_239_7, cF_239_7]
  refine RO_l1 ht q hT fun s1 q1 => ?_
  have k1 := q1.tok
  rw [if_neg (by omega), if_neg (by omega), if_neg (by omega), if_neg (by omega), if_neg (by omega), if_neg (by omega), if_neg (by omega), if_neg (by omega), if_neg (by omega)]
  exact RO_la q1 (by omega) fun s2 q2 => RO_la q2 (by simp only [List.length_cons]; omega) fun s3 q3 => RO_ret q3.1
theorem t_120p (ht : tOk tx n) {e d rn pu : Int} {lf : Bool} {V : List tT} {K : List rTs} {S : List rSg} {t : tTk} {b c x : Int} (hT : lxG tx n true e = some t) (hc : (rNo t = 1005 ∨ rNo t = 1025 ∨ rNo t = 1023 ∨ rNo t = 11051 ∨ rNo t = 11565 ∨ rNo t = 43 ∨ rNo t = 45 ∨ rNo t = 126 ∨ rNo t = 33)) (hK : (K.length : Int) ≤ 880) : rTo tx n (e, d, rn, pu, lf, V, (12, 0, b, c, x) :: K, S) (t.2.2.2.1, d, rn, pu, lf, V, (12, 1, 0, 0, 0) :: (4, 0, 0, 0, 0) :: (3, 45, t.2.2.1, t.2.2.2.1 - t.2.2.1, V.length) :: K, S) := by
  refine rTo_mk fun s q => rd_120 (a := 0) q (by omega) fun s q => ?_
  rw [cS_239, cF_239_0, if_pos rfl]
  exact un_p ht q hT hc hK
theorem t_120l (ht : tOk tx n) {e d rn pu : Int} {lf : Bool} {V : List tT} {K : List rTs} {S : List rSg} {t : tTk} {b c x : Int} (hT : lxG tx n true e = some t) (hc : ¬ (rNo t = 1005 ∨ rNo t = 1025 ∨ rNo t = 1023 ∨ rNo t = 11051 ∨ rNo t = 11565 ∨ rNo t = 43 ∨ rNo t = 45 ∨ rNo t = 126 ∨ rNo t = 33)) (hK : (K.length : Int) ≤ 880) : rTo tx n (e, d, rn, pu, lf, V, (12, 0, b, c, x) :: K, S) (e, d, rn, pu, lf, V, (14, 0, 0, 0, 0) :: (13, 0, 0, 0, 0) :: K, S) := by
  refine rTo_mk fun s q => rd_120 (a := 0) q (by omega) fun s q => ?_
  rw [cS_239, cF_239_0, if_pos rfl]
  exact un_l ht q hT hc hK
theorem t_121p (ht : tOk tx n) {e d rn pu : Int} {lf : Bool} {V : List tT} {K : List rTs} {S : List rSg} {t : tTk} {b c x : Int} (hT : lxG tx n true e = some t) (hc : (rNo t = 1005 ∨ rNo t = 1025 ∨ rNo t = 1023 ∨ rNo t = 11051 ∨ rNo t = 11565 ∨ rNo t = 43 ∨ rNo t = 45 ∨ rNo t = 126 ∨ rNo t = 33)) (h0 : 0 ≤ d) (hd : d < 20 ∨ 20 ≤ d ∧ d ≤ 30 ∧ rNo t = 0) (hK : (K.length : Int) ≤ 880) : rTo tx n (e, d, rn, pu, lf, V, (12, 1, b, c, x) :: K, S) (t.2.2.2.1, d + 1, rn, pu, lf, V, (12, 1, 0, 0, 0) :: (4, 0, 0, 0, 0) :: (3, 45, t.2.2.1, t.2.2.2.1 - t.2.2.1, V.length) :: K, S) := by
  refine rTo_mk fun s q => rd_121 (a := 0) q (by omega) fun s q => ?_
  rw [cS_239, cF_239_0, if_neg (by decide)]
  refine RO_bi (en_ok ht q hT h0 hd) fun z s1 g => ?_
  obtain ⟨rfl, q1⟩ := g
  rw [if_neg (by decide)]
  exact un_p ht q1.1 hT hc hK
theorem t_121l (ht : tOk tx n) {e d rn pu : Int} {lf : Bool} {V : List tT} {K : List rTs} {S : List rSg} {t : tTk} {b c x : Int} (hT : lxG tx n true e = some t) (hc : ¬ (rNo t = 1005 ∨ rNo t = 1025 ∨ rNo t = 1023 ∨ rNo t = 11051 ∨ rNo t = 11565 ∨ rNo t = 43 ∨ rNo t = 45 ∨ rNo t = 126 ∨ rNo t = 33)) (h0 : 0 ≤ d) (hd : d < 20 ∨ 20 ≤ d ∧ d ≤ 30 ∧ rNo t = 0) (hK : (K.length : Int) ≤ 880) : rTo tx n (e, d, rn, pu, lf, V, (12, 1, b, c, x) :: K, S) (e, d + 1, rn, pu, lf, V, (14, 0, 0, 0, 0) :: (13, 0, 0, 0, 0) :: K, S) := by
  refine rTo_mk fun s q => rd_121 (a := 0) q (by omega) fun s q => ?_
  rw [cS_239, cF_239_0, if_neg (by decide)]
  refine RO_bi (en_ok ht q hT h0 hd) fun z s1 g => ?_
  obtain ⟨rfl, q1⟩ := g
  rw [if_neg (by decide)]
  exact un_l ht q1.1 hT hc hK
theorem b_120n (ht : tOk tx n) {e d rn pu : Int} {lf : Bool} {V : List tT} {K : List rTs} {S : List rSg} {t : tTk} {b c x : Int} (hN : lxG tx n true e = none) (hr : rn ≤ 486) (hK : (K.length : Int) ≤ 880) : rBd tx n (e, d, rn, pu, lf, V, (12, 0, b, c, x) :: K, S) := by
  refine rBd_mk fun s q => rd_120 (a := 0) q (by omega) fun s q => ?_
  rw [cS_239, cF_239_0, if_pos rfl, cE_239_7, cF_239_7]
  refine RO_n1 ht q hN fun s1 q1 g1 x1 f1 => ?_
  have z := rZ_of q1 g1 x1 f1 (by omega) hr
  repeat' first
      | exact Z_ret ‹_›
      | refine Z_pu ‹_› (by omega) fun _ _ => ?_
      | refine Z_la ‹_› (by omega) fun _ _ => ?_
      | refine Z_tk ‹_› fun _ _ => ?_
      | rw [cE_239_47, cF_239_47]
      | refine RO_ite (fun _ => ?_) (fun _ => ?_)
theorem t_13p (ht : tOk tx n) {e d rn pu : Int} {lf : Bool} {V : List tT} {K : List rTs} {S : List rSg} {t : tTk} {a b c x : Int} {T : tT} (hT : lxG tx n false e = some t) (hl : t.2.2.2.2 = false) (hc : rNo t = 11051 ∨ rNo t = 11565) (hn : rn < 499) (hK : (K.length : Int) ≤ 880) (cc : Int) : rTo tx n (e, d, rn, pu, lf, T :: V, (13, a, b, c, x) :: K, S) (t.2.2.2.1, d, rn + 1, pu, false, ((44, t.2.2.1, t.2.2.2.1 - t.2.2.1, cc, false), fo [T]) :: V, K, S) := by
  refine rTo_mk fun s q => rd_13 q (by omega) fun s q => ?_
  have a0 := q.at0
  rw [cS_240, cF_240_0]
  refine RO_l0 ht q hT fun s1 q1 => ?_
  have k1 := q1.tok
  have q2 : rRt tx n (e, d, rn, pu, true, [T] ++ V, K, S) t (cm_p s1 4141 1) := by
    refine ⟨⟨rAt_fr q1.1.1 rfl fun j _ _ _ => cm_p_ne (by omega), ?_⟩, rTk_fr q1.2 fun j _ _ _ => cm_p_ne (by omega)⟩
    obtain ⟨h1, h2, h3, h4, h5, h6, h7, h8, h9, h10⟩ := q1.1.2
    exact ⟨(cm_p_ne (by decide)).trans h1, (cm_p_ne (by decide)).trans h2, (cm_p_ne (by decide)).trans h3, cm_p_at, (cm_p_ne (by decide)).trans h5, rSkA_fr (s := s1) _ (fun a i _ _ _ => rfl) h6, (cm_p_ne (by decide)).trans h7, rVaA_fr (s := s1) _ _ (fun a i _ _ _ => rfl) (fun i _ => rfl) h8, (cm_p_ne (by decide)).trans h9, rSgA_fr (s := s1) _ (fun a i _ _ _ => rfl) h10⟩
  have fin : RO s1 (cm_bv (cm_sem 202 [.inr (.inl 41), .inl 44, .inl (s1.1 4112), .inl (cm_w (s1.1 4113 - s1.1 4112)), .inl (cm_w (s1.1 4134 - 1))] (cm_p s1 4141 1)) fun s2 => cm_bv (cm_sem 198 [.inr (.inl 41)] s2) fun s3 => some (.inl none, s3)) (rR tx n (t.2.2.2.1, d, rn + 1, pu, false, ((44, t.2.2.1, t.2.2.2.1 - t.2.2.1, cc, false), fo [T]) :: V, K, S)) := by
    rw [q1.len ht a0.1 a0.2 hT, q1.beg, q1.1.vm (by omega)]
    exact RO_from (rFm_p (rFm_rf s1) (by omega)) (RO_re q2 hn rfl cc fun s3 q3 => RO_tk ht q3 hT fun s4 q4 => RO_ret q4.1)
  rw [if_pos (by rw [q1.lin, hl]; rfl)]
  exact RO_ite (fun _ => fin) fun _ => RO_ite (fun _ => fin) fun _ => by exfalso; omega
theorem t_13n (ht : tOk tx n) {e d rn pu : Int} {lf : Bool} {V : List tT} {K : List rTs} {S : List rSg} {t : tTk} {a b c x : Int} (hT : lxG tx n false e = some t) (hc : ¬ (t.2.2.2.2 = false ∧ (rNo t = 11051 ∨ rNo t = 11565))) (hK : (K.length : Int) ≤ 880) : rTo tx n (e, d, rn, pu, lf, V, (13, a, b, c, x) :: K, S) (e, d, rn, pu, true, V, K, S) := by
  refine rTo_mk fun s q => rd_13 q (by omega) fun s q => ?_
  have a0 := q.at0
  rw [cS_240, cF_240_0]
  refine RO_l0 ht q hT fun s1 q1 => ?_
  have k1 := q1.tok
  have fin : RO s1 (some (.inl none, cm_p s1 4141 1)) (rR tx n (e, d, rn, pu, true, V, K, S)) := by
    refine RO_at (rFm_p (rFm_rf s1) (by omega)) ⟨rAt_fr q1.1.1 rfl fun j _ _ _ => cm_p_ne (by omega), ?_⟩
    obtain ⟨h1, h2, h3, h4, h5, h6, h7, h8, h9, h10⟩ := q1.1.2
    exact ⟨(cm_p_ne (by decide)).trans h1, (cm_p_ne (by decide)).trans h2, (cm_p_ne (by decide)).trans h3, cm_p_at, (cm_p_ne (by decide)).trans h5, rSkA_fr (s := s1) _ (fun a i _ _ _ => rfl) h6, (cm_p_ne (by decide)).trans h7, rVaA_fr (s := s1) _ _ (fun a i _ _ _ => rfl) (fun i _ => rfl) h8, (cm_p_ne (by decide)).trans h9, rSgA_fr (s := s1) _ (fun a i _ _ _ => rfl) h10⟩
  refine RO_ite (fun hl => ?_) fun _ => fin
  rw [q1.lin, cm_n0] at hl
  refine RO_ite (fun h2 => ?_) fun _ => RO_ite (fun h2 => ?_) fun _ => fin
  · exact absurd ⟨hl, Or.inl (by omega)⟩ hc
  · exact absurd ⟨hl, Or.inr (by omega)⟩ hc
theorem lf_n (ht : tOk tx n) {e d rn pu : Int} {lf : Bool} {V : List tT} {K : List rTs} {S : List rSg} {t : tTk} {y : Int} {s : cm_S} (q : rR tx n (e, d, rn, pu, lf, V, K, S) s) (hT : lxG tx n true e = some t) (hc : rNo t = 1015) (hK : (K.length : Int) ≤ 880) : RO s (cm_sem 241 [.inr (.inl 41), .inl y] s) (rR tx n (t.2.2.2.1, d, rn, pu, lf, V, (15, 0, 0, 0, 0) :: (4, 0, 0, 0, 0) :: (17, t.2.2.1, V.length, 0, 0) :: (16, y, 0, 0, 0) :: K, S)) := by
  rw [cS_241, cF_241_0]
  refine RO_l1 ht q hT fun s1 q1 => RO_la q1 (by omega) fun s2 q2 => ?_
  rw [if_pos (by rw [q2.tok]; exact hc), q2.beg, q2.1.val]
  exact RO_pu q2 (by simp only [List.length_cons]; omega) fun s3 q3 => RO_la q3 (by simp only [List.length_cons]; omega) fun s4 q4 => RO_la q4 (by simp only [List.length_cons]; omega) fun s5 q5 => RO_tk ht q5 hT fun s6 q6 => RO_ret q6.1
theorem lf_o (ht : tOk tx n) {e d rn pu : Int} {lf : Bool} {V : List tT} {K : List rTs} {S : List rSg} {t : tTk} {y : Int} {s : cm_S} (q : rR tx n (e, d, rn, pu, lf, V, K, S) s) (hT : lxG tx n true e = some t) (hc : rNo t ≠ 1015) (hK : (K.length : Int) ≤ 880) : RO s (cm_sem 241 [.inr (.inl 41), .inl y] s) (rR tx n (e, d, rn, pu, lf, V, (20, 0, 0, 0, 0) :: (16, y, 0, 0, 0) :: K, S)) := by
  rw [cS_241, cF_241_0]
  refine RO_l1 ht q hT fun s1 q1 => RO_la q1 (by omega) fun s2 q2 => ?_
  rw [if_neg (by rw [q2.tok]; exact hc)]
  exact RO_la q2 (by simp only [List.length_cons]; omega) fun s3 q3 => RO_ret q3.1
theorem t_14n (ht : tOk tx n) {e d rn pu : Int} {lf : Bool} {V : List tT} {K : List rTs} {S : List rSg} {t : tTk} {a b c x : Int} (hT : lxG tx n true e = some t) (hc : rNo t = 1015) (hK : (K.length : Int) ≤ 880) : rTo tx n (e, d, rn, pu, lf, V, (14, a, b, c, x) :: K, S) (t.2.2.2.1, d, rn, pu, lf, V, (15, 0, 0, 0, 0) :: (4, 0, 0, 0, 0) :: (17, t.2.2.1, V.length, 0, 0) :: (16, 1, 0, 0, 0) :: K, S) := by
  exact rTo_mk fun s q => rd_14 q (by omega) fun s q => lf_n ht q hT hc hK
theorem t_14o (ht : tOk tx n) {e d rn pu : Int} {lf : Bool} {V : List tT} {K : List rTs} {S : List rSg} {t : tTk} {a b c x : Int} (hT : lxG tx n true e = some t) (hc : rNo t ≠ 1015) (hK : (K.length : Int) ≤ 880) : rTo tx n (e, d, rn, pu, lf, V, (14, a, b, c, x) :: K, S) (e, d, rn, pu, lf, V, (20, 0, 0, 0, 0) :: (16, 1, 0, 0, 0) :: K, S) := by
  exact rTo_mk fun s q => rd_14 q (by omega) fun s q => lf_o ht q hT hc hK
theorem t_15n (ht : tOk tx n) {e d rn pu : Int} {lf : Bool} {V : List tT} {K : List rTs} {S : List rSg} {t : tTk} {a b c x : Int} (hT : lxG tx n true e = some t) (hc : rNo t = 1015) (h0 : 0 ≤ d) (hd : d < 20 ∨ 20 ≤ d ∧ d ≤ 30 ∧ rNo t = 0) (hK : (K.length : Int) ≤ 880) : rTo tx n (e, d, rn, pu, lf, V, (15, a, b, c, x) :: K, S) (t.2.2.2.1, d + 1, rn, pu, lf, V, (15, 0, 0, 0, 0) :: (4, 0, 0, 0, 0) :: (17, t.2.2.1, V.length, 0, 0) :: (16, 0, 0, 0, 0) :: K, S) := by
  refine rTo_mk fun s q => rd_15 q (by omega) fun s q => ?_
  rw [cS_242, cF_242_0]
  refine RO_bi (en_ok ht q hT h0 hd) fun z s1 g => ?_
  obtain ⟨rfl, q1⟩ := g
  rw [if_neg (by decide)]
  exact RO_tail (lf_n ht q1.1 hT hc hK)
theorem t_15o (ht : tOk tx n) {e d rn pu : Int} {lf : Bool} {V : List tT} {K : List rTs} {S : List rSg} {t : tTk} {a b c x : Int} (hT : lxG tx n true e = some t) (hc : rNo t ≠ 1015) (h0 : 0 ≤ d) (hd : d < 20 ∨ 20 ≤ d ∧ d ≤ 30 ∧ rNo t = 0) (hK : (K.length : Int) ≤ 880) : rTo tx n (e, d, rn, pu, lf, V, (15, a, b, c, x) :: K, S) (e, d + 1, rn, pu, lf, V, (20, 0, 0, 0, 0) :: (16, 0, 0, 0, 0) :: K, S) := by
  refine rTo_mk fun s q => rd_15 q (by omega) fun s q => ?_
  rw [cS_242, cF_242_0]
  refine RO_bi (en_ok ht q hT h0 hd) fun z s1 g => ?_
  obtain ⟨rfl, q1⟩ := g
  rw [if_neg (by decide)]
  exact RO_tail (lf_o ht q1.1 hT hc hK)
theorem t_16d (ht : tOk tx n) {e d rn pu : Int} {lf : Bool} {V : List tT} {K : List rTs} {S : List rSg} {t : tTk} {a b c x : Int} {T : tT} {t2 : tTk} (hT : lxG tx n false e = some t) (hc : rNo t = 46) (hT2 : lxG tx n false t.2.2.2.1 = some t2) (hc2 : rNo t2 = 1 ∨ 1000 ≤ rNo t2 ∧ rNo t2 ≤ 1026) (hn : rn < 499) (hK : (K.length : Int) ≤ 880) (cc : Int) : rTo tx n (e, d, rn, pu, lf, T :: V, (16, a, b, c, x) :: K, S) (t2.2.2.2.1, d, rn + 1, pu, lf, ((41, t2.2.2.1, t2.2.2.2.1 - t2.2.2.1, cc, false), fo [T]) :: V, (16, a, 0, 0, 0) :: K, S) := by
  refine rTo_mk fun s q => rd_16 q (by omega) fun s q => ?_
  have a0 := q.at0
  rw [cS_243, cF_243_0]
  refine RO_l0 ht q hT fun s1 q1 => ?_
  have k1 := q1.tok
  rw [if_pos (by omega)]
  refine RO_tk ht q1 hT fun s2 q2 => RO_l0 ht q2.1 hT2 fun s3 q3 => ?_
  have k3 := q3.tok
  have a2 := q2.1.at0
  have q3' : rRt tx n (t.2.2.2.1, d, rn, pu, lf, [T] ++ V, K, S) t2 s3 := q3
  have fin : RO s3 (cm_bv (cm_sem 202 [.inr (.inl 41), .inl 41, .inl (s3.1 4112), .inl (cm_w (s3.1 4113 - s3.1 4112)), .inl (cm_w (s3.1 4134 - 1))] s3) fun s5 => cm_bv (cm_sem 198 [.inr (.inl 41)] s5) fun s6 => cm_bv (cm_sem 177 [.inr (.inl 41), .inl 16, .inl a] s6) fun s7 => some (.inl none, s7)) (rR tx n (t2.2.2.2.1, d, rn + 1, pu, lf, ((41, t2.2.2.1, t2.2.2.2.1 - t2.2.2.1, cc, false), fo [T]) :: V, (16, a, 0, 0, 0) :: K, S)) := by
    rw [q3.len ht a2.1 a2.2 hT2, q3.beg, q3.1.vm (by omega)]
    refine RO_re q3' hn rfl cc fun s4 q4 => RO_tk ht q4 hT2 fun s5 q5 => RO_la q5 (by omega) fun s6 q6 => RO_ret ?_
    have := q6.1
    simp only [show decide ((41 : Int) < 44 ∨ 49 < (41 : Int)) = true by decide, Bool.and_true] at this
    exact this
  refine RO_ite (fun _ => ?_) fun _ => ?_
  · rw [if_neg (by omega)]; exact fin
  · rw [if_neg (by omega), if_neg (by omega)]; exact fin
theorem b_16d (ht : tOk tx n) {e d rn pu : Int} {lf : Bool} {V : List tT} {K : List rTs} {S : List rSg} {t : tTk} {a b c x : Int} {t2 : tTk} (hT : lxG tx n false e = some t) (hc : rNo t = 46) (hT2 : lxG tx n false t.2.2.2.1 = some t2) (hc2 : ¬ (rNo t2 = 1 ∨ 1000 ≤ rNo t2 ∧ rNo t2 ≤ 1026)) (hK : (K.length : Int) ≤ 880) : rBd tx n (e, d, rn, pu, lf, V, (16, a, b, c, x) :: K, S) := by
  refine rBd_mk fun s q => rd_16 q (by omega) fun s q => ?_
  have a0 := q.at0
  rw [cS_243, cF_243_0]
  refine RO_l0 ht q hT fun s1 q1 => ?_
  have k1 := q1.tok
  rw [if_pos (by omega)]
  refine RO_tk ht q1 hT fun s2 q2 => RO_l0 ht q2.1 hT2 fun s3 q3 => ?_
  have k3 := q3.tok
  rw [if_neg (by omega)]
  refine RO_ite (fun _ => RO_bd q3 fun s4 _ g4 => RO_ret g4) fun _ => ?_
  rw [if_pos (by omega)]
  exact RO_bd q3 fun s4 _ g4 => RO_ret g4
theorem b_16dn (ht : tOk tx n) {e d rn pu : Int} {lf : Bool} {V : List tT} {K : List rTs} {S : List rSg} {t : tTk} {a b c x : Int} {T : tT} (hT : lxG tx n false e = some t) (hc : rNo t = 46) (hN : lxG tx n false t.2.2.2.1 = none) (hr : rn ≤ 486) (hK : (K.length : Int) ≤ 880) : rBd tx n (e, d, rn, pu, lf, T :: V, (16, a, b, c, x) :: K, S) := by
  refine rBd_mk fun s q => rd_16 q (by omega) fun s q => ?_
  have a0 := q.at0
  rw [cS_243, cF_243_0]
  refine RO_l0 ht q hT fun s1 q1 => ?_
  have k1 := q1.tok
  rw [if_pos (by omega)]
  refine RO_tk ht q1 hT fun s2 q2 => RO_n0 ht q2.1 hN fun s3 q3 g3 x3 f3 => ?_
  have z := rZ_of q3 g3 x3 f3 (by omega) hr
  rw [List.length_cons] at z
  repeat' first
      | exact Z_ret ‹_›
      | refine Z_la ‹_› (by omega) fun _ _ => ?_
      | refine Z_tk ‹_› fun _ _ => ?_
      | refine Z_bd ‹_› fun _ _ => ?_
      | refine Z_re1 ‹_› (by omega) (by omega) fun _ _ => ?_
      | refine RO_ite (fun _ => ?_) (fun _ => ?_)
theorem t_16i (ht : tOk tx n) {e d rn pu : Int} {lf : Bool} {V : List tT} {K : List rTs} {S : List rSg} {t : tTk} {a b c x : Int} {T : tT} (hT : lxG tx n false e = some t) (hc : rNo t = 91) (hr : rn ≤ 490) (hK : (K.length : Int) ≤ 880) : rTo tx n (e, d, rn, pu, lf, T :: V, (16, a, b, c, x) :: K, S) (t.2.2.2.1, d, rn, pu, lf, T :: V, (7, 0, 0, 0, 0) :: (5, 93, 0, 0, 0) :: (3, 40, t.2.2.1, 0, V.length) :: (16, a, 0, 0, 0) :: K, S) := by
  refine rTo_mk fun s q => rd_16 q (by omega) fun s q => ?_
  have a0 := q.at0
  rw [cS_243, cF_243_0]
  refine RO_l0 ht q hT fun s1 q1 => ?_
  have k1 := q1.tok
  rw [if_neg (by omega), if_pos (by omega)]
  refine RO_tk ht q1 hT fun s2 q2 => RO_la q2 (by omega) fun s3 q3 => ?_
  rw [q1.beg, q3.1.vm (by omega)]
  exact RO_pu q3 (by simp only [List.length_cons]; omega) fun s4 q4 => RO_la q4 (by simp only [List.length_cons]; omega) fun s5 q5 => RO_la q5 (by simp only [List.length_cons]; omega) fun s6 q6 => RO_ret q6.1
theorem t_16c (ht : tOk tx n) {e d rn pu : Int} {lf : Bool} {V : List tT} {K : List rTs} {S : List rSg} {t : tTk} {b c x : Int} {T : tT} (hT : lxG tx n false e = some t) (hc : rNo t = 40) (hr : rn ≤ 490) (hK : (K.length : Int) ≤ 880) : rTo tx n (e, d, rn, pu, lf, T :: V, (16, 1, b, c, x) :: K, S) (t.2.2.2.1, d, rn, pu, lf, T :: V, (18, 43, t.2.2.1, V.length, 0) :: (16, 1, 0, 0, 0) :: K, S) := by
  refine rTo_mk fun s q => rd_16 q (by omega) fun s q => ?_
  have a0 := q.at0
  rw [cS_243, cF_243_0]
  refine RO_l0 ht q hT fun s1 q1 => ?_
  have k1 := q1.tok
  rw [if_neg (by omega), if_neg (by omega), if_pos (by omega), if_pos rfl]
  refine RO_tk ht q1 hT fun s2 q2 => RO_la q2 (by omega) fun s3 q3 => ?_
  rw [q1.beg, q3.1.vm (by omega)]
  exact RO_pu q3 (by simp only [List.length_cons]; omega) fun s4 q4 => RO_ret q4.1
theorem t_16n (ht : tOk tx n) {e d rn pu : Int} {lf : Bool} {V : List tT} {K : List rTs} {S : List rSg} {t : tTk} {a b c x : Int} (hT : lxG tx n false e = some t) (hc : rNo t ≠ 46 ∧ rNo t ≠ 91) (h2 : rNo t ≠ 40 ∨ a ≠ 1) (hK : (K.length : Int) ≤ 880) : rTo tx n (e, d, rn, pu, lf, V, (16, a, b, c, x) :: K, S) (e, d, rn, pu, lf, V, K, S) := by
  refine rTo_mk fun s q => rd_16 q (by omega) fun s q => ?_
  have a0 := q.at0
  rw [cS_243, cF_243_0]
  refine RO_l0 ht q hT fun s1 q1 => ?_
  have k1 := q1.tok
  rw [if_neg (by omega), if_neg (by omega)]
  refine RO_ite (fun _ => ?_) fun _ => RO_ret q1.1
  rw [if_neg (by omega)]
  exact RO_ret q1.1
theorem t_17a (ht : tOk tx n) {e d rn pu : Int} {lf : Bool} {V : List tT} {K : List rTs} {S : List rSg} {t : tTk} {a b c x : Int} (hT : lxG tx n false e = some t) (hc : rNo t = 40) (hK : (K.length : Int) ≤ 880) : rTo tx n (e, d, rn, pu, lf, V, (17, a, b, c, x) :: K, S) (t.2.2.2.1, d, rn, pu, lf, V, (18, 42, a, b, 0) :: K, S) := by
  refine rTo_mk fun s q => rd_17 q (by omega) fun s q => ?_
  have a0 := q.at0
  rw [cS_244, cF_244_0]
  refine RO_l0 ht q hT fun s1 q1 => ?_
  have k1 := q1.tok
  rw [if_pos (by omega)]
  exact RO_tk ht q1 hT fun s2 q2 => RO_pu q2 (by omega) fun s3 q3 => RO_ret q3.1
theorem t_17n (ht : tOk tx n) {e d rn pu : Int} {lf : Bool} {V : List tT} {K : List rTs} {S : List rSg} {t : tTk} {a b c x : Int} {Vc : List tT} (hT : lxG tx n false e = some t) (hc : rNo t ≠ 40) (hn : rn < 499) (hb : b = V.length) (hK : (K.length : Int) ≤ 880) (cc : Int) : rTo tx n (e, d, rn, pu, lf, Vc ++ V, (17, a, b, c, x) :: K, S) (e, d, rn + 1, pu, lf, ((42, a, 0, cc, false), foR .leaf Vc) :: V, K, S) := by
  refine rTo_mk fun s q => rd_17 q (by omega) fun s q => ?_
  have a0 := q.at0
  rw [cS_244, cF_244_0]
  refine RO_l0 ht q hT fun s1 q1 => ?_
  have k1 := q1.tok
  rw [if_neg (by omega)]
  refine RO_re q1 hn hb cc fun s2 q2 => RO_ret ?_
  have := q2.1
  simp only [show decide ((42 : Int) < 44 ∨ 49 < (42 : Int)) = true by decide, Bool.and_true] at this
  exact this
theorem t_18e42 (ht : tOk tx n) {e d rn pu : Int} {lf : Bool} {V : List tT} {K : List rTs} {S : List rSg} {t : tTk} {b c x : Int} {Vc : List tT} (hT : lxG tx n true e = some t) (hc : rNo t = 41) (hn : rn < 499) (hb : c = V.length) (hK : (K.length : Int) ≤ 880) (cc : Int) : rTo tx n (e, d, rn, pu, lf, Vc ++ V, (18, 42, b, c, x) :: K, S) (t.2.2.2.1, d, rn + 1, pu, lf, ((42, b, 0, cc, false), foR .leaf Vc) :: V, K, S) := by
  refine rTo_mk fun s q => rd_18 q (by omega) fun s q => ?_
  have a0 := q.at0
  rw [cS_245, cF_245_0]
  refine RO_l1 ht q hT fun s1 q1 => ?_
  have k1 := q1.tok
  rw [if_pos (by omega)]
  refine RO_tk ht q1 hT fun s2 q2 => RO_re q2 hn hb cc fun s3 q3 => RO_ret ?_
  have := q3.1
  simp only [show decide ((42 : Int) < 44 ∨ 49 < (42 : Int)) = true by decide, Bool.and_true] at this
  exact this
theorem t_19e42 (ht : tOk tx n) {e d rn pu : Int} {lf : Bool} {V : List tT} {K : List rTs} {S : List rSg} {t : tTk} {b c x : Int} {Vc : List tT} (hT : lxG tx n false e = some t) (hc : rNo t = 41) (hn : rn < 499) (hb : c = V.length) (hK : (K.length : Int) ≤ 880) (cc : Int) : rTo tx n (e, d, rn, pu, lf, Vc ++ V, (19, 42, b, c, x) :: K, S) (t.2.2.2.1, d, rn + 1, pu, lf, ((42, b, 0, cc, false), foR .leaf Vc) :: V, K, S) := by
  refine rTo_mk fun s q => rd_19 q (by omega) fun s q => ?_
  have a0 := q.at0
  rw [cS_246, cF_246_0]
  refine RO_l0 ht q hT fun s1 q1 => ?_
  have k1 := q1.tok
  rw [if_neg (by omega), if_pos (by omega)]
  refine RO_tk ht q1 hT fun s2 q2 => RO_re q2 hn hb cc fun s3 q3 => RO_ret ?_
  have := q3.1
  simp only [show decide ((42 : Int) < 44 ∨ 49 < (42 : Int)) = true by decide, Bool.and_true] at this
  exact this
theorem t_18e43 (ht : tOk tx n) {e d rn pu : Int} {lf : Bool} {V : List tT} {K : List rTs} {S : List rSg} {t : tTk} {b c x : Int} {Vc : List tT} (hT : lxG tx n true e = some t) (hc : rNo t = 41) (hn : rn < 499) (hb : c = V.length) (hK : (K.length : Int) ≤ 880) (cc : Int) : rTo tx n (e, d, rn, pu, lf, Vc ++ V, (18, 43, b, c, x) :: K, S) (t.2.2.2.1, d, rn + 1, pu, lf, ((43, b, 0, cc, false), foR .leaf Vc) :: V, K, S) := by
  refine rTo_mk fun s q => rd_18 q (by omega) fun s q => ?_
  have a0 := q.at0
  rw [cS_245, cF_245_0]
  refine RO_l1 ht q hT fun s1 q1 => ?_
  have k1 := q1.tok
  rw [if_pos (by omega)]
  refine RO_tk ht q1 hT fun s2 q2 => RO_re q2 hn hb cc fun s3 q3 => RO_ret ?_
  have := q3.1
  simp only [show decide ((43 : Int) < 44 ∨ 49 < (43 : Int)) = true by decide, Bool.and_true] at this
  exact this
theorem t_19e43 (ht : tOk tx n) {e d rn pu : Int} {lf : Bool} {V : List tT} {K : List rTs} {S : List rSg} {t : tTk} {b c x : Int} {Vc : List tT} (hT : lxG tx n false e = some t) (hc : rNo t = 41) (hn : rn < 499) (hb : c = V.length) (hK : (K.length : Int) ≤ 880) (cc : Int) : rTo tx n (e, d, rn, pu, lf, Vc ++ V, (19, 43, b, c, x) :: K, S) (t.2.2.2.1, d, rn + 1, pu, lf, ((43, b, 0, cc, false), foR .leaf Vc) :: V, K, S) := by
  refine rTo_mk fun s q => rd_19 q (by omega) fun s q => ?_
  have a0 := q.at0
  rw [cS_246, cF_246_0]
  refine RO_l0 ht q hT fun s1 q1 => ?_
  have k1 := q1.tok
  rw [if_neg (by omega), if_pos (by omega)]
  refine RO_tk ht q1 hT fun s2 q2 => RO_re q2 hn hb cc fun s3 q3 => RO_ret ?_
  have := q3.1
  simp only [show decide ((43 : Int) < 44 ∨ 49 < (43 : Int)) = true by decide, Bool.and_true] at this
  exact this
theorem t_18m (ht : tOk tx n) {e d rn pu : Int} {lf : Bool} {V : List tT} {K : List rTs} {S : List rSg} {t : tTk} {a b c x : Int} (hT : lxG tx n true e = some t) (hc : rNo t ≠ 41) (hK : (K.length : Int) ≤ 880) : rTo tx n (e, d, rn, pu, lf, V, (18, a, b, c, x) :: K, S) (e, d, rn, pu, lf, V, (9, 0, 0, 0, 0) :: (19, a, b, c, 0) :: K, S) := by
  refine rTo_mk fun s q => rd_18 q (by omega) fun s q => ?_
  have a0 := q.at0
  rw [cS_245, cF_245_0]
  refine RO_l1 ht q hT fun s1 q1 => ?_
  have k1 := q1.tok
  rw [if_neg (by omega)]
  exact RO_pu q1 (by omega) fun s2 q2 => RO_la q2 (by simp only [List.length_cons]; omega) fun s3 q3 => RO_ret q3.1
theorem t_19m (ht : tOk tx n) {e d rn pu : Int} {lf : Bool} {V : List tT} {K : List rTs} {S : List rSg} {t : tTk} {a b c x : Int} (hT : lxG tx n false e = some t) (hc : rNo t = 44) (hK : (K.length : Int) ≤ 880) : rTo tx n (e, d, rn, pu, lf, V, (19, a, b, c, x) :: K, S) (t.2.2.2.1, d, rn, pu, lf, V, (9, 0, 0, 0, 0) :: (19, a, b, c, 0) :: K, S) := by
  refine rTo_mk fun s q => rd_19 q (by omega) fun s q => ?_
  have a0 := q.at0
  rw [cS_246, cF_246_0]
  refine RO_l0 ht q hT fun s1 q1 => ?_
  have k1 := q1.tok
  rw [if_pos (by omega)]
  exact RO_tk ht q1 hT fun s2 q2 => RO_pu q2 (by omega) fun s3 q3 => RO_la q3 (by simp only [List.length_cons]; omega) fun s4 q4 => RO_ret q4.1
theorem b_19 (ht : tOk tx n) {e d rn pu : Int} {lf : Bool} {V : List tT} {K : List rTs} {S : List rSg} {t : tTk} {a b c x : Int} (hT : lxG tx n false e = some t) (hc : rNo t ≠ 44 ∧ rNo t ≠ 41) (hK : (K.length : Int) ≤ 880) : rBd tx n (e, d, rn, pu, lf, V, (19, a, b, c, x) :: K, S) := by
  refine rBd_mk fun s q => rd_19 q (by omega) fun s q => ?_
  have a0 := q.at0
  rw [cS_246, cF_246_0]
  refine RO_l0 ht q hT fun s1 q1 => ?_
  have k1 := q1.tok
  rw [if_neg (by omega), if_neg (by omega)]
  exact RO_bd q1 fun s2 _ g2 => RO_ret g2
theorem t_20n (ht : tOk tx n) {e d rn pu : Int} {lf : Bool} {V : List tT} {K : List rTs} {S : List rSg} {t : tTk} {a b c x : Int} (hT : lxG tx n true e = some t) (hc : rNo t = 1) (hn : rn < 499) (hK : (K.length : Int) ≤ 880) (cc : Int) : rTo tx n (e, d, rn, pu, lf, V, (20, a, b, c, x) :: K, S) (t.2.2.2.1, d, rn + 1, pu, lf, ((31, t.2.2.1, t.2.2.2.1 - t.2.2.1, cc, false), .leaf) :: V, K, S) := by
  refine rTo_mk fun s q => rd_20E q (by omega) fun s q => ?_
  have a0 := q.at0
  rw [cS_247, cF_247_0]
  refine RO_l1 ht q hT fun s1 q1 => ?_
  have k1 := q1.tok
  have q1' : rRt tx n (e, d, rn, pu, lf, [] ++ V, K, S) t s1 := q1
  have fin : RO s1 (cm_bv (cm_sem 201 [.inr (.inl 41), .inl 31, .inl (t.2.2.2.1 - t.2.2.1)] s1) fun s2 => some (.inl none, s2)) (rR tx n (t.2.2.2.1, d, rn + 1, pu, lf, ((31, t.2.2.1, t.2.2.2.1 - t.2.2.1, cc, false), .leaf) :: V, K, S)) := by
    refine RO_tail ?_
    rw [cS_201, cF_201_0, q1.beg, q1.1.val]
    refine RO_re q1' hn rfl cc fun s2 q2 => RO_tk ht q2 hT fun s3 q3 => RO_ret ?_
    have := q3.1
    simp only [show decide ((31 : Int) < 44 ∨ 49 < (31 : Int)) = true by decide, Bool.and_true] at this
    exact this
  rw [if_pos (by omega), q1.len ht a0.1 a0.2 hT]
  exact fin
theorem t_20u (ht : tOk tx n) {e d rn pu : Int} {lf : Bool} {V : List tT} {K : List rTs} {S : List rSg} {t : tTk} {a b c x : Int} (hT : lxG tx n true e = some t) (hc : rNo t = 2) (hn : rn < 499) (hK : (K.length : Int) ≤ 880) (cc : Int) : rTo tx n (e, d, rn, pu, lf, V, (20, a, b, c, x) :: K, S) (t.2.2.2.1, d, rn + 1, pu, lf, ((33, t.2.2.1, t.2.2.2.1 - t.2.2.1, cc, false), .leaf) :: V, K, S) := by
  refine rTo_mk fun s q => rd_20E q (by omega) fun s q => ?_
  have a0 := q.at0
  rw [cS_247, cF_247_0]
  refine RO_l1 ht q hT fun s1 q1 => ?_
  have k1 := q1.tok
  have q1' : rRt tx n (e, d, rn, pu, lf, [] ++ V, K, S) t s1 := q1
  have fin : RO s1 (cm_bv (cm_sem 201 [.inr (.inl 41), .inl 33, .inl (t.2.2.2.1 - t.2.2.1)] s1) fun s2 => some (.inl none, s2)) (rR tx n (t.2.2.2.1, d, rn + 1, pu, lf, ((33, t.2.2.1, t.2.2.2.1 - t.2.2.1, cc, false), .leaf) :: V, K, S)) := by
    refine RO_tail ?_
    rw [cS_201, cF_201_0, q1.beg, q1.1.val]
    refine RO_re q1' hn rfl cc fun s2 q2 => RO_tk ht q2 hT fun s3 q3 => RO_ret ?_
    have := q3.1
    simp only [show decide ((33 : Int) < 44 ∨ 49 < (33 : Int)) = true by decide, Bool.and_true] at this
    exact this
  rw [if_neg (by omega), if_pos (by omega), q1.len ht a0.1 a0.2 hT]
  exact fin
theorem t_20s (ht : tOk tx n) {e d rn pu : Int} {lf : Bool} {V : List tT} {K : List rTs} {S : List rSg} {t : tTk} {a b c x : Int} (hT : lxG tx n true e = some t) (hc : rNo t = 3) (hn : rn < 499) (hK : (K.length : Int) ≤ 880) (cc : Int) : rTo tx n (e, d, rn, pu, lf, V, (20, a, b, c, x) :: K, S) (t.2.2.2.1, d, rn + 1, pu, lf, ((34, t.2.2.1, t.2.2.2.1 - t.2.2.1, cc, false), .leaf) :: V, K, S) := by
  refine rTo_mk fun s q => rd_20E q (by omega) fun s q => ?_
  have a0 := q.at0
  rw [cS_247, cF_247_0]
  refine RO_l1 ht q hT fun s1 q1 => ?_
  have k1 := q1.tok
  have q1' : rRt tx n (e, d, rn, pu, lf, [] ++ V, K, S) t s1 := q1
  have fin : RO s1 (cm_bv (cm_sem 201 [.inr (.inl 41), .inl 34, .inl (t.2.2.2.1 - t.2.2.1)] s1) fun s2 => some (.inl none, s2)) (rR tx n (t.2.2.2.1, d, rn + 1, pu, lf, ((34, t.2.2.1, t.2.2.2.1 - t.2.2.1, cc, false), .leaf) :: V, K, S)) := by
    refine RO_tail ?_
    rw [cS_201, cF_201_0, q1.beg, q1.1.val]
    refine RO_re q1' hn rfl cc fun s2 q2 => RO_tk ht q2 hT fun s3 q3 => RO_ret ?_
    have := q3.1
    simp only [show decide ((34 : Int) < 44 ∨ 49 < (34 : Int)) = true by decide, Bool.and_true] at this
    exact this
  rw [if_neg (by omega), if_neg (by omega), if_pos (by omega), q1.len ht a0.1 a0.2 hT]
  exact fin
theorem t_20p (ht : tOk tx n) {e d rn pu : Int} {lf : Bool} {V : List tT} {K : List rTs} {S : List rSg} {t : tTk} {a b c x : Int} (hT : lxG tx n true e = some t) (hc : rNo t = 4) (hn : rn < 499) (hK : (K.length : Int) ≤ 880) (cc : Int) : rTo tx n (e, d, rn, pu, lf, V, (20, a, b, c, x) :: K, S) (t.2.2.2.1, d, rn + 1, pu, lf, ((35, t.2.2.1, t.2.2.2.1 - t.2.2.1, cc, false), .leaf) :: V, K, S) := by
  refine rTo_mk fun s q => rd_20E q (by omega) fun s q => ?_
  have a0 := q.at0
  rw [cS_247, cF_247_0]
  refine RO_l1 ht q hT fun s1 q1 => ?_
  have k1 := q1.tok
  have q1' : rRt tx n (e, d, rn, pu, lf, [] ++ V, K, S) t s1 := q1
  have fin : RO s1 (cm_bv (cm_sem 201 [.inr (.inl 41), .inl 35, .inl (t.2.2.2.1 - t.2.2.1)] s1) fun s2 => some (.inl none, s2)) (rR tx n (t.2.2.2.1, d, rn + 1, pu, lf, ((35, t.2.2.1, t.2.2.2.1 - t.2.2.1, cc, false), .leaf) :: V, K, S)) := by
    refine RO_tail ?_
    rw [cS_201, cF_201_0, q1.beg, q1.1.val]
    refine RO_re q1' hn rfl cc fun s2 q2 => RO_tk ht q2 hT fun s3 q3 => RO_ret ?_
    have := q3.1
    simp only [show decide ((35 : Int) < 44 ∨ 49 < (35 : Int)) = true by decide, Bool.and_true] at this
    exact this
  rw [if_neg (by omega), if_neg (by omega), if_neg (by omega), if_pos (by omega), q1.len ht a0.1 a0.2 hT]
  exact fin
theorem t_20c (ht : tOk tx n) {e d rn pu : Int} {lf : Bool} {V : List tT} {K : List rTs} {S : List rSg} {t : tTk} {a b c x : Int} (hT : lxG tx n true e = some t) (hc : rNo t = 1008 ∨ rNo t = 1016 ∨ rNo t = 1021) (hn : rn < 499) (hK : (K.length : Int) ≤ 880) (cc : Int) : rTo tx n (e, d, rn, pu, lf, V, (20, a, b, c, x) :: K, S) (t.2.2.2.1, d, rn + 1, pu, lf, ((32, t.2.2.1, t.2.2.2.1 - t.2.2.1, cc, false), .leaf) :: V, K, S) := by
  refine rTo_mk fun s q => rd_20E q (by omega) fun s q => ?_
  have a0 := q.at0
  rw [cS_247, cF_247_0]
  refine RO_l1 ht q hT fun s1 q1 => ?_
  have k1 := q1.tok
  have q1' : rRt tx n (e, d, rn, pu, lf, [] ++ V, K, S) t s1 := q1
  have fin : RO s1 (cm_bv (cm_sem 201 [.inr (.inl 41), .inl 32, .inl (t.2.2.2.1 - t.2.2.1)] s1) fun s2 => some (.inl none, s2)) (rR tx n (t.2.2.2.1, d, rn + 1, pu, lf, ((32, t.2.2.1, t.2.2.2.1 - t.2.2.1, cc, false), .leaf) :: V, K, S)) := by
    refine RO_tail ?_
    rw [cS_201, cF_201_0, q1.beg, q1.1.val]
    refine RO_re q1' hn rfl cc fun s2 q2 => RO_tk ht q2 hT fun s3 q3 => RO_ret ?_
    have := q3.1
    simp only [show decide ((32 : Int) < 44 ∨ 49 < (32 : Int)) = true by decide, Bool.and_true] at this
    exact this
  rw [if_neg (by omega), if_neg (by omega), if_neg (by omega), if_neg (by omega), if_neg (by omega), if_neg (by omega), if_neg (by omega), q1.len ht a0.1 a0.2 hT]
  refine RO_ite (fun _ => fin) fun _ => ?_
  rw [if_neg (by omega)]
  refine RO_ite (fun _ => fin) fun _ => ?_
  rw [if_neg (by omega)]
  refine RO_ite (fun _ => fin) fun _ => ?_
  exfalso; omega
theorem t_20t (ht : tOk tx n) {e d rn pu : Int} {lf : Bool} {V : List tT} {K : List rTs} {S : List rSg} {t : tTk} {a b c x : Int} (hT : lxG tx n true e = some t) (hc : rNo t = 1019) (hn : rn < 499) (hK : (K.length : Int) ≤ 880) (cc : Int) : rTo tx n (e, d, rn, pu, lf, V, (20, a, b, c, x) :: K, S) (t.2.2.2.1, d, rn + 1, pu, lf, ((30, t.2.2.1, 0, cc, false), .leaf) :: V, K, S) := by
  refine rTo_mk fun s q => rd_20E q (by omega) fun s q => ?_
  have a0 := q.at0
  rw [cS_247, cF_247_0]
  refine RO_l1 ht q hT fun s1 q1 => ?_
  have k1 := q1.tok
  have q1' : rRt tx n (e, d, rn, pu, lf, [] ++ V, K, S) t s1 := q1
  have fin : RO s1 (cm_bv (cm_sem 201 [.inr (.inl 41), .inl 30, .inl (0)] s1) fun s2 => some (.inl none, s2)) (rR tx n (t.2.2.2.1, d, rn + 1, pu, lf, ((30, t.2.2.1, 0, cc, false), .leaf) :: V, K, S)) := by
    refine RO_tail ?_
    rw [cS_201, cF_201_0, q1.beg, q1.1.val]
    refine RO_re q1' hn rfl cc fun s2 q2 => RO_tk ht q2 hT fun s3 q3 => RO_ret ?_
    have := q3.1
    simp only [show decide ((30 : Int) < 44 ∨ 49 < (30 : Int)) = true by decide, Bool.and_true] at this
    exact this
  rw [if_neg (by omega), if_neg (by omega), if_neg (by omega), if_neg (by omega), if_neg (by omega), if_neg (by omega), if_neg (by omega), if_neg (by omega), if_neg (by omega), if_neg (by omega), if_pos (by omega)]
  exact fin
theorem t_20b (ht : tOk tx n) {e d rn pu : Int} {lf : Bool} {V : List tT} {K : List rTs} {S : List rSg} {t : tTk} {a b c x : Int} (hT : lxG tx n true e = some t) (hc : rNo t = 40) (hK : (K.length : Int) ≤ 880) : rTo tx n (e, d, rn, pu, lf, V, (20, a, b, c, x) :: K, S) (t.2.2.2.1, d, rn, pu, lf, V, (7, 0, 0, 0, 0) :: (28, 0, 0, 0, 0) :: K, S) := by
  refine rTo_mk fun s q => rd_20E q (by omega) fun s q => ?_
  have a0 := q.at0
  rw [cS_247, cF_247_0]
  refine RO_l1 ht q hT fun s1 q1 => ?_
  have k1 := q1.tok
  rw [if_neg (by omega), if_neg (by omega), if_neg (by omega), if_neg (by omega), if_pos (by omega)]
  exact RO_tk ht q1 hT fun s2 q2 => RO_la q2 (by omega) fun s3 q3 => RO_la q3 (by simp only [List.length_cons]; omega) fun s4 q4 => RO_ret q4.1
theorem t_20a (ht : tOk tx n) {e d rn pu : Int} {lf : Bool} {V : List tT} {K : List rTs} {S : List rSg} {t : tTk} {a b c x : Int} (hT : lxG tx n true e = some t) (hc : rNo t = 91) (hK : (K.length : Int) ≤ 880) : rTo tx n (e, d, rn, pu, lf, V, (20, a, b, c, x) :: K, S) (t.2.2.2.1, d, rn, pu, lf, V, (21, t.2.2.1, V.length, 0, 0) :: K, S) := by
  refine rTo_mk fun s q => rd_20E q (by omega) fun s q => ?_
  have a0 := q.at0
  rw [cS_247, cF_247_0]
  refine RO_l1 ht q hT fun s1 q1 => ?_
  have k1 := q1.tok
  rw [if_neg (by omega), if_neg (by omega), if_neg (by omega), if_neg (by omega), if_neg (by omega), if_pos (by omega), q1.beg, q1.1.val]
  exact RO_tk ht q1 hT fun s2 q2 => RO_pu q2 (by omega) fun s3 q3 => RO_ret q3.1
theorem t_20o (ht : tOk tx n) {e d rn pu : Int} {lf : Bool} {V : List tT} {K : List rTs} {S : List rSg} {t : tTk} {a b c x : Int} (hT : lxG tx n true e = some t) (hc : rNo t = 123) (hK : (K.length : Int) ≤ 880) : rTo tx n (e, d, rn, pu, lf, V, (20, a, b, c, x) :: K, S) (t.2.2.2.1, d, rn, pu, lf, V, (23, t.2.2.1, V.length, 0, 0) :: K, S) := by
  refine rTo_mk fun s q => rd_20E q (by omega) fun s q => ?_
  have a0 := q.at0
  rw [cS_247, cF_247_0]
  refine RO_l1 ht q hT fun s1 q1 => ?_
  have k1 := q1.tok
  rw [if_neg (by omega), if_neg (by omega), if_neg (by omega), if_neg (by omega), if_neg (by omega), if_neg (by omega), if_pos (by omega), q1.beg, q1.1.val]
  exact RO_tk ht q1 hT fun s2 q2 => RO_pu q2 (by omega) fun s3 q3 => RO_ret q3.1
theorem b_20 (ht : tOk tx n) {e d rn pu : Int} {lf : Bool} {V : List tT} {K : List rTs} {S : List rSg} {t : tTk} {a b c x : Int} (hT : lxG tx n true e = some t) (hc : rNo t ≠ 1 ∧ rNo t ≠ 2 ∧ rNo t ≠ 3 ∧ rNo t ≠ 4 ∧ rNo t ≠ 40 ∧ rNo t ≠ 91 ∧ rNo t ≠ 123 ∧ rNo t ≠ 1008 ∧ rNo t ≠ 1011 ∧ rNo t ≠ 1016 ∧ rNo t ≠ 1019 ∧ rNo t ≠ 1021) (hK : (K.length : Int) ≤ 880) : rBd tx n (e, d, rn, pu, lf, V, (20, a, b, c, x) :: K, S) := by
  refine rBd_mk fun s q => rd_20E q (by omega) fun s q => ?_
  have a0 := q.at0
  rw [cS_247, cF_247_0]
  refine RO_l1 ht q hT fun s1 q1 => ?_
  have k1 := q1.tok
  rw [if_neg (by omega), if_neg (by omega), if_neg (by omega), if_neg (by omega), if_neg (by omega), if_neg (by omega), if_neg (by omega), if_neg (by omega), if_neg (by omega), if_neg (by omega), if_neg (by omega), if_neg (by omega)]
  exact RO_bd q1 fun s2 _ g2 => RO_ret g2
theorem fn_n (ht : tOk tx n) {e d rn pu : Int} {lf : Bool} {V : List tT} {K : List rTs} {S : List rSg} {t : tTk} {t2 : tTk} {k : Int} {g : Bool} {s : cm_S} (q : rRt tx n (e, d, rn, pu, lf, V, K, S) t s) (hT : lxG tx n g e = some t) (hT2 : lxG tx n false t.2.2.2.1 = some t2) (hc2 : rNo t2 = 1) (hK : (K.length : Int) ≤ 880) : RO s (cm_sem 204 [.inr (.inl 41), .inl k] s) (rR tx n (t2.2.2.2.1, d, rn, pu, lf, V, (5, 40, 0, 0, 0) :: (25, 1, 0, 0, 0) :: (27, 0, 0, 0, 0) :: (3, k, t2.2.2.1, t2.2.2.2.1 - t2.2.2.1, V.length) :: K, S)) := by
  rw [cS_204, cF_204_0]
  refine RO_tk ht q hT fun s1 q1 => RO_l0 ht q1.1 hT2 fun s2 q2 => ?_
  have a2 := q1.1.at0
  rw [if_pos (by rw [q2.tok]; exact hc2), q2.len ht a2.1 a2.2 hT2, q2.beg]
  refine RO_tk ht q2 hT2 fun s3 q3 => ?_
  rw [q3.1.val]
  exact RO_pu q3 (by omega) fun s4 q4 => RO_la q4 (by simp only [List.length_cons]; omega) fun s5 q5 => RO_la q5 (by simp only [List.length_cons]; omega) fun s6 q6 => RO_la q6 (by simp only [List.length_cons]; omega) fun s7 q7 => RO_ret q7.1
theorem fn_o (ht : tOk tx n) {e d rn pu : Int} {lf : Bool} {V : List tT} {K : List rTs} {S : List rSg} {t : tTk} {t2 : tTk} {g : Bool} {s : cm_S} (q : rRt tx n (e, d, rn, pu, lf, V, K, S) t s) (hT : lxG tx n g e = some t) (hT2 : lxG tx n false t.2.2.2.1 = some t2) (hc2 : rNo t2 ≠ 1) (hK : (K.length : Int) ≤ 880) : RO s (cm_sem 204 [.inr (.inl 41), .inl 39] s) (rR tx n (t.2.2.2.1, d, rn, pu, lf, V, (5, 40, 0, 0, 0) :: (25, 1, 0, 0, 0) :: (27, 0, 0, 0, 0) :: (3, 39, t.2.2.1, 0, V.length) :: K, S)) := by
  rw [cS_204, cF_204_0]
  refine RO_tk ht q hT fun s1 q1 => RO_l0 ht q1.1 hT2 fun s2 q2 => ?_
  rw [if_neg (by rw [q2.tok]; exact hc2), if_neg (by decide), q.beg, q2.1.val]
  exact RO_pu q2 (by omega) fun s4 q4 => RO_la q4 (by simp only [List.length_cons]; omega) fun s5 q5 => RO_la q5 (by simp only [List.length_cons]; omega) fun s6 q6 => RO_la q6 (by simp only [List.length_cons]; omega) fun s7 q7 => RO_ret q7.1
theorem fn_b (ht : tOk tx n) {e d rn pu : Int} {lf : Bool} {V : List tT} {K : List rTs} {S : List rSg} {t : tTk} {t2 : tTk} {g : Bool} {s : cm_S} (q : rRt tx n (e, d, rn, pu, lf, V, K, S) t s) (hT : lxG tx n g e = some t) (hT2 : lxG tx n false t.2.2.2.1 = some t2) (hc2 : rNo t2 ≠ 1) (hr : rn ≤ 486) (hK : (K.length : Int) ≤ 880) : RO s (cm_sem 204 [.inr (.inl 41), .inl 20] s) gB := by
  rw [cS_204, cF_204_0]
  refine RO_tk ht q hT fun s1 q1 => RO_l0 ht q1.1 hT2 fun s2 q2 => ?_
  rw [if_neg (by rw [q2.tok]; exact hc2), if_pos rfl]
  have ok := lxG_rg ht q1.1.at0.1 q1.1.at0.2 hT2
  have h112 := q2.beg
  have hx := q2.1.1.1
  obtain ⟨s3, e1, e2, e3⟩ : RO s2 (cm_sem 205 [.inr (.inl 41)] s2) (rZ tx n V.length 0) := by
    refine ⟨_, cs_205 q2.nof, rFm_p (rFm_p (rFm_rf s2) (by omega)) (by omega), rZ_of (K := K) (rQ_p (rQ_p q2.1.2 (by decide)) (by decide)) ?_ (rTx_p (rTx_p hx (by decide)) (by decide)) ?_ (by omega) hr⟩
    · unfold gB; rw [cm_p_ne (by decide), cm_p_at]; decide
    · rw [cm_p_ne (by decide), cm_p_ne (by decide)]; omega
  rw [e1, cm_bv_o]
  exact RO_from e2 (Z_pu e3 (by omega) fun _ z1 => Z_la z1 (by omega) fun _ z2 => Z_la z2 (by omega) fun _ z3 => Z_la z3 (by omega) fun _ z4 => Z_ret z4)
theorem fn_d (ht : tOk tx n) {e d rn pu : Int} {lf : Bool} {V : List tT} {K : List rTs} {S : List rSg} {t : tTk} {k : Int} {g : Bool} {s : cm_S} (q : rRt tx n (e, d, rn, pu, lf, V, K, S) t s) (hT : lxG tx n g e = some t) (hN : lxG tx n false t.2.2.2.1 = none) (hr : rn ≤ 486) (hK : (K.length : Int) ≤ 880) : RO s (cm_sem 204 [.inr (.inl 41), .inl k] s) gB := by
  rw [cS_204, cF_204_0]
  refine RO_tk ht q hT fun s1 q1 => RO_n0 ht q1.1 hN fun s2 q2 g2 x2 f2 => ?_
  have z := rZ_of q2 g2 x2 f2 (by omega) hr
  repeat' first
      | exact Z_ret ‹_›
      | refine Z_pu ‹_› (by omega) fun _ _ => ?_
      | refine Z_la ‹_› (by omega) fun _ _ => ?_
      | refine Z_tk ‹_› fun _ _ => ?_
      | refine Z_bd ‹_› fun _ _ => ?_
      | refine RO_ite (fun _ => ?_) (fun _ => ?_)
theorem t_20fn (ht : tOk tx n) {e d rn pu : Int} {lf : Bool} {V : List tT} {K : List rTs} {S : List rSg} {t : tTk} {a b c x : Int} {t2 : tTk} (hT : lxG tx n true e = some t) (hc : rNo t = 1011) (hT2 : lxG tx n false t.2.2.2.1 = some t2) (hc2 : rNo t2 = 1) (hK : (K.length : Int) ≤ 880) : rTo tx n (e, d, rn, pu, lf, V, (20, a, b, c, x) :: K, S) (t2.2.2.2.1, d, rn, pu, lf, V, (5, 40, 0, 0, 0) :: (25, 1, 0, 0, 0) :: (27, 0, 0, 0, 0) :: (3, 39, t2.2.2.1, t2.2.2.2.1 - t2.2.2.1, V.length) :: K, S) := by
  refine rTo_mk fun s q => rd_20E q (by omega) fun s q => ?_
  have a0 := q.at0
  rw [cS_247, cF_247_0]
  refine RO_l1 ht q hT fun s1 q1 => ?_
  have k1 := q1.tok
  rw [if_neg (by omega), if_neg (by omega), if_neg (by omega), if_neg (by omega), if_neg (by omega), if_neg (by omega), if_neg (by omega), if_neg (by omega), if_pos (by omega)]
  exact RO_tail (fn_n ht q1 hT hT2 hc2 hK)
theorem t_20fo (ht : tOk tx n) {e d rn pu : Int} {lf : Bool} {V : List tT} {K : List rTs} {S : List rSg} {t : tTk} {a b c x : Int} {t2 : tTk} (hT : lxG tx n true e = some t) (hc : rNo t = 1011) (hT2 : lxG tx n false t.2.2.2.1 = some t2) (hc2 : rNo t2 ≠ 1) (hK : (K.length : Int) ≤ 880) : rTo tx n (e, d, rn, pu, lf, V, (20, a, b, c, x) :: K, S) (t.2.2.2.1, d, rn, pu, lf, V, (5, 40, 0, 0, 0) :: (25, 1, 0, 0, 0) :: (27, 0, 0, 0, 0) :: (3, 39, t.2.2.1, 0, V.length) :: K, S) := by
  refine rTo_mk fun s q => rd_20E q (by omega) fun s q => ?_
  have a0 := q.at0
  rw [cS_247, cF_247_0]
  refine RO_l1 ht q hT fun s1 q1 => ?_
  have k1 := q1.tok
  rw [if_neg (by omega), if_neg (by omega), if_neg (by omega), if_neg (by omega), if_neg (by omega), if_neg (by omega), if_neg (by omega), if_neg (by omega), if_pos (by omega)]
  exact RO_tail (fn_o ht q1 hT hT2 hc2 hK)
theorem b_20fd (ht : tOk tx n) {e d rn pu : Int} {lf : Bool} {V : List tT} {K : List rTs} {S : List rSg} {t : tTk} {a b c x : Int} (hT : lxG tx n true e = some t) (hc : rNo t = 1011) (hN : lxG tx n false t.2.2.2.1 = none) (hr : rn ≤ 486) (hK : (K.length : Int) ≤ 880) : rBd tx n (e, d, rn, pu, lf, V, (20, a, b, c, x) :: K, S) := by
  refine rBd_mk fun s q => rd_20E q (by omega) fun s q => ?_
  have a0 := q.at0
  rw [cS_247, cF_247_0]
  refine RO_l1 ht q hT fun s1 q1 => ?_
  have k1 := q1.tok
  rw [if_neg (by omega), if_neg (by omega), if_neg (by omega), if_neg (by omega), if_neg (by omega), if_neg (by omega), if_neg (by omega), if_neg (by omega), if_pos (by omega)]
  exact RO_tail (fn_d ht q1 hT hN hr hK)
theorem t_21e (ht : tOk tx n) {e d rn pu : Int} {lf : Bool} {V : List tT} {K : List rTs} {S : List rSg} {t : tTk} {a b c x : Int} {Vc : List tT} (hT : lxG tx n true e = some t) (hc : rNo t = 93) (hn : rn < 499) (hb : b = V.length) (hK : (K.length : Int) ≤ 880) (cc : Int) : rTo tx n (e, d, rn, pu, lf, Vc ++ V, (21, a, b, c, x) :: K, S) (t.2.2.2.1, d, rn + 1, pu, lf, ((36, a, 0, cc, false), foR .leaf Vc) :: V, K, S) := by
  refine rTo_mk fun s q => rd_21E q (by omega) fun s q => ?_
  have a0 := q.at0
  rw [cS_248, cF_248_0]
  refine RO_l1 ht q hT fun s1 q1 => ?_
  have k1 := q1.tok
  rw [if_pos (by omega)]
  refine RO_tk ht q1 hT fun s2 q2 => RO_re q2 hn hb cc fun s3 q3 => RO_ret ?_
  have := q3.1
  simp only [show decide ((36 : Int) < 44 ∨ 49 < (36 : Int)) = true by decide, Bool.and_true] at this
  exact this
theorem t_22e (ht : tOk tx n) {e d rn pu : Int} {lf : Bool} {V : List tT} {K : List rTs} {S : List rSg} {t : tTk} {a b c x : Int} {Vc : List tT} (hT : lxG tx n false e = some t) (hc : rNo t = 93) (hn : rn < 499) (hb : b = V.length) (hK : (K.length : Int) ≤ 880) (cc : Int) : rTo tx n (e, d, rn, pu, lf, Vc ++ V, (22, a, b, c, x) :: K, S) (t.2.2.2.1, d, rn + 1, pu, lf, ((36, a, 0, cc, false), foR .leaf Vc) :: V, K, S) := by
  refine rTo_mk fun s q => rd_22 q (by omega) fun s q => ?_
  have a0 := q.at0
  rw [cS_249, cF_249_0]
  refine RO_l0 ht q hT fun s1 q1 => ?_
  have k1 := q1.tok
  rw [if_neg (by omega), if_pos (by omega)]
  refine RO_tk ht q1 hT fun s2 q2 => RO_re q2 hn hb cc fun s3 q3 => RO_ret ?_
  have := q3.1
  simp only [show decide ((36 : Int) < 44 ∨ 49 < (36 : Int)) = true by decide, Bool.and_true] at this
  exact this
theorem t_23e (ht : tOk tx n) {e d rn pu : Int} {lf : Bool} {V : List tT} {K : List rTs} {S : List rSg} {t : tTk} {a b c x : Int} {Vc : List tT} (hT : lxG tx n false e = some t) (hc : rNo t = 125) (hn : rn < 499) (hb : b = V.length) (hK : (K.length : Int) ≤ 880) (cc : Int) : rTo tx n (e, d, rn, pu, lf, Vc ++ V, (23, a, b, c, x) :: K, S) (t.2.2.2.1, d, rn + 1, pu, lf, ((37, a, 0, cc, false), foR .leaf Vc) :: V, K, S) := by
  refine rTo_mk fun s q => rd_23 q (by omega) fun s q => ?_
  have a0 := q.at0
  rw [cS_250, cF_250_0]
  refine RO_l0 ht q hT fun s1 q1 => ?_
  have k1 := q1.tok
  rw [if_pos (by omega)]
  refine RO_tk ht q1 hT fun s2 q2 => RO_re q2 hn hb cc fun s3 q3 => RO_ret ?_
  have := q3.1
  simp only [show decide ((37 : Int) < 44 ∨ 49 < (37 : Int)) = true by decide, Bool.and_true] at this
  exact this
theorem t_24e (ht : tOk tx n) {e d rn pu : Int} {lf : Bool} {V : List tT} {K : List rTs} {S : List rSg} {t : tTk} {a b c x : Int} {Vc : List tT} (hT : lxG tx n false e = some t) (hc : rNo t = 125) (hn : rn < 499) (hb : b = V.length) (hK : (K.length : Int) ≤ 880) (cc : Int) : rTo tx n (e, d, rn, pu, lf, Vc ++ V, (24, a, b, c, x) :: K, S) (t.2.2.2.1, d, rn + 1, pu, lf, ((37, a, 0, cc, false), foR .leaf Vc) :: V, K, S) := by
  refine rTo_mk fun s q => rd_24 q (by omega) fun s q => ?_
  have a0 := q.at0
  rw [cS_251, cF_251_0]
  refine RO_l0 ht q hT fun s1 q1 => ?_
  have k1 := q1.tok
  rw [if_neg (by omega), if_pos (by omega)]
  refine RO_tk ht q1 hT fun s2 q2 => RO_re q2 hn hb cc fun s3 q3 => RO_ret ?_
  have := q3.1
  simp only [show decide ((37 : Int) < 44 ∨ 49 < (37 : Int)) = true by decide, Bool.and_true] at this
  exact this
theorem no_g {e d rn pu : Int} {lf : Bool} {V : List tT} {K : List rTs} {S : List rSg} {t : tTk} {s : cm_S} (q : rRt tx n (e, d, rn, pu, lf, V, K, S) t s) (hn : rn < 499) : RO s (cm_sem 214 [.inr (.inl 41)] s) (rRt tx n (e, d, rn + 1, pu, lf, ((21, 0, 0, 0, false), .leaf) :: V, K, S) t) := by
  rw [cS_214, cF_214_0, q.1.val]
  have q' : rRt tx n (e, d, rn, pu, lf, [] ++ V, K, S) t s := q
  refine RO_re q' hn rfl 0 fun s2 q2 => RO_ret ?_
  simp only [show decide ((21 : Int) < 44 ∨ 49 < (21 : Int)) = true by decide, Bool.and_true] at q2
  exact q2
theorem t_21h (ht : tOk tx n) {e d rn pu : Int} {lf : Bool} {V : List tT} {K : List rTs} {S : List rSg} {t : tTk} {a b c x : Int} (hT : lxG tx n true e = some t) (hc : rNo t = 44) (hn : rn < 499) (hK : (K.length : Int) ≤ 880) : rTo tx n (e, d, rn, pu, lf, V, (21, a, b, c, x) :: K, S) (t.2.2.2.1, d, rn + 1, pu, lf, ((21, 0, 0, 0, false), .leaf) :: V, (21, a, b, 0, 0) :: K, S) := by
  refine rTo_mk fun s q => rd_21E q (by omega) fun s q => ?_
  have a0 := q.at0
  rw [cS_248, cF_248_0]
  refine RO_l1 ht q hT fun s1 q1 => ?_
  have k1 := q1.tok
  rw [if_neg (by omega), if_pos (by omega)]
  refine RO_tk ht q1 hT fun s2 q2 => RO_bind (no_g q2 hn) fun s3 q3 => RO_pu q3 (by omega) fun s4 q4 => RO_ret q4.1
theorem t_21m (ht : tOk tx n) {e d rn pu : Int} {lf : Bool} {V : List tT} {K : List rTs} {S : List rSg} {t : tTk} {a b c x : Int} (hT : lxG tx n true e = some t) (hc : rNo t ≠ 93 ∧ rNo t ≠ 44) (hK : (K.length : Int) ≤ 880) : rTo tx n (e, d, rn, pu, lf, V, (21, a, b, c, x) :: K, S) (e, d, rn, pu, lf, V, (9, 0, 0, 0, 0) :: (22, a, b, 0, 0) :: K, S) := by
  refine rTo_mk fun s q => rd_21E q (by omega) fun s q => ?_
  have a0 := q.at0
  rw [cS_248, cF_248_0]
  refine RO_l1 ht q hT fun s1 q1 => ?_
  have k1 := q1.tok
  rw [if_neg (by omega), if_neg (by omega)]
  exact RO_pu q1 (by omega) fun s2 q2 => RO_la q2 (by simp only [List.length_cons]; omega) fun s3 q3 => RO_ret q3.1
theorem t_22m (ht : tOk tx n) {e d rn pu : Int} {lf : Bool} {V : List tT} {K : List rTs} {S : List rSg} {t : tTk} {a b c x : Int} (hT : lxG tx n false e = some t) (hc : rNo t = 44) (hK : (K.length : Int) ≤ 880) : rTo tx n (e, d, rn, pu, lf, V, (22, a, b, c, x) :: K, S) (t.2.2.2.1, d, rn, pu, lf, V, (21, a, b, 0, 0) :: K, S) := by
  refine rTo_mk fun s q => rd_22 q (by omega) fun s q => ?_
  have a0 := q.at0
  rw [cS_249, cF_249_0]
  refine RO_l0 ht q hT fun s1 q1 => ?_
  have k1 := q1.tok
  rw [if_pos (by omega)]
  exact RO_tk ht q1 hT fun s2 q2 => RO_pu q2 (by omega) fun s3 q3 => RO_ret q3.1
theorem b_22 (ht : tOk tx n) {e d rn pu : Int} {lf : Bool} {V : List tT} {K : List rTs} {S : List rSg} {t : tTk} {a b c x : Int} (hT : lxG tx n false e = some t) (hc : rNo t ≠ 44 ∧ rNo t ≠ 93) (hK : (K.length : Int) ≤ 880) : rBd tx n (e, d, rn, pu, lf, V, (22, a, b, c, x) :: K, S) := by
  refine rBd_mk fun s q => rd_22 q (by omega) fun s q => ?_
  have a0 := q.at0
  rw [cS_249, cF_249_0]
  refine RO_l0 ht q hT fun s1 q1 => ?_
  have k1 := q1.tok
  rw [if_neg (by omega), if_neg (by omega)]
  exact RO_bd q1 fun s2 _ g2 => RO_ret g2
theorem t_23m (ht : tOk tx n) {e d rn pu : Int} {lf : Bool} {V : List tT} {K : List rTs} {S : List rSg} {t : tTk} {a b c x : Int} (hT : lxG tx n false e = some t) (hc : rNo t ≠ 125) (h2 : (rNo t = 1 ∨ rNo t = 3 ∨ rNo t = 2 ∨ 1000 ≤ rNo t ∧ rNo t ≤ 1026)) (hK : (K.length : Int) ≤ 880) : rTo tx n (e, d, rn, pu, lf, V, (23, a, b, c, x) :: K, S) (t.2.2.2.1, d, rn, pu, lf, V, (5, 58, 0, 0, 0) :: (9, 0, 0, 0, 0) :: (3, 38, t.2.2.1, t.2.2.2.1 - t.2.2.1, V.length) :: (24, a, b, 0, 0) :: K, S) := by
  refine rTo_mk fun s q => rd_23 q (by omega) fun s q => ?_
  have a0 := q.at0
  rw [cS_250, cF_250_0]
  refine RO_l0 ht q hT fun s1 q1 => ?_
  have k1 := q1.tok
  have fin : RO s1 (cm_bv (cm_sem 176 [.inr (.inl 41), .inl 24, .inl a, .inl b, .inl 0, .inl 0] s1) fun s4 => cm_bv (cm_sem 176 [.inr (.inl 41), .inl 3, .inl 38, .inl (s4.1 4112), .inl (cm_w ((s4.1 4113) - (s4.1 4112))), .inl (s4.1 4134)] s4) fun s5 => cm_bv (cm_sem 177 [.inr (.inl 41), .inl 9, .inl 0] s5) fun s6 => cm_bv (cm_sem 177 [.inr (.inl 41), .inl 5, .inl 58] s6) fun s7 => cm_bv (cm_sem 198 [.inr (.inl 41)] s7) fun s8 => some (.inl none, s8)) (rR tx n (t.2.2.2.1, d, rn, pu, lf, V, (5, 58, 0, 0, 0) :: (9, 0, 0, 0, 0) :: (3, 38, t.2.2.1, t.2.2.2.1 - t.2.2.1, V.length) :: (24, a, b, 0, 0) :: K, S)) := by
    refine RO_pu q1 (by omega) fun s2 q2 => ?_
    rw [q2.len ht a0.1 a0.2 hT, q2.beg, q2.1.val]
    exact RO_pu q2 (by simp only [List.length_cons]; omega) fun s3 q3 => RO_la q3 (by simp only [List.length_cons]; omega) fun s4 q4 => RO_la q4 (by simp only [List.length_cons]; omega) fun s5 q5 => RO_tk ht q5 hT fun s6 q6 => RO_ret q6.1
  rw [if_neg (by omega)]
  refine RO_ite (fun _ => fin) fun _ => RO_ite (fun _ => fin) fun _ => RO_ite (fun _ => fin) fun _ => ?_
  rw [if_neg (by omega), if_neg (by omega)]
  exact fin
theorem b_23 (ht : tOk tx n) {e d rn pu : Int} {lf : Bool} {V : List tT} {K : List rTs} {S : List rSg} {t : tTk} {a b c x : Int} (hT : lxG tx n false e = some t) (hc : rNo t ≠ 125) (h2 : ¬ (rNo t = 1 ∨ rNo t = 3 ∨ rNo t = 2 ∨ 1000 ≤ rNo t ∧ rNo t ≤ 1026)) (hK : (K.length : Int) ≤ 880) : rBd tx n (e, d, rn, pu, lf, V, (23, a, b, c, x) :: K, S) := by
  refine rBd_mk fun s q => rd_23 q (by omega) fun s q => ?_
  have a0 := q.at0
  rw [cS_250, cF_250_0]
  refine RO_l0 ht q hT fun s1 q1 => ?_
  have k1 := q1.tok
  rw [if_neg (by omega), if_neg (by omega), if_neg (by omega), if_neg (by omega)]
  refine RO_ite (fun _ => RO_bd q1 fun s2 _ g2 => RO_ret g2) fun _ => ?_
  rw [if_pos (by omega)]
  exact RO_bd q1 fun s2 _ g2 => RO_ret g2
theorem t_24m (ht : tOk tx n) {e d rn pu : Int} {lf : Bool} {V : List tT} {K : List rTs} {S : List rSg} {t : tTk} {a b c x : Int} (hT : lxG tx n false e = some t) (hc : rNo t = 44) (hK : (K.length : Int) ≤ 880) : rTo tx n (e, d, rn, pu, lf, V, (24, a, b, c, x) :: K, S) (t.2.2.2.1, d, rn, pu, lf, V, (23, a, b, 0, 0) :: K, S) := by
  refine rTo_mk fun s q => rd_24 q (by omega) fun s q => ?_
  have a0 := q.at0
  rw [cS_251, cF_251_0]
  refine RO_l0 ht q hT fun s1 q1 => ?_
  have k1 := q1.tok
  rw [if_pos (by omega)]
  exact RO_tk ht q1 hT fun s2 q2 => RO_pu q2 (by omega) fun s3 q3 => RO_ret q3.1
theorem b_24 (ht : tOk tx n) {e d rn pu : Int} {lf : Bool} {V : List tT} {K : List rTs} {S : List rSg} {t : tTk} {a b c x : Int} (hT : lxG tx n false e = some t) (hc : rNo t ≠ 44 ∧ rNo t ≠ 125) (hK : (K.length : Int) ≤ 880) : rBd tx n (e, d, rn, pu, lf, V, (24, a, b, c, x) :: K, S) := by
  refine rBd_mk fun s q => rd_24 q (by omega) fun s q => ?_
  have a0 := q.at0
  rw [cS_251, cF_251_0]
  refine RO_l0 ht q hT fun s1 q1 => ?_
  have k1 := q1.tok
  rw [if_neg (by omega), if_neg (by omega)]
  exact RO_bd q1 fun s2 _ g2 => RO_ret g2
theorem t_25e (ht : tOk tx n) {e d rn pu : Int} {lf : Bool} {V : List tT} {K : List rTs} {S : List rSg} {t : tTk} {b c x : Int} (hT : lxG tx n false e = some t) (hc : rNo t = 41) (hK : (K.length : Int) ≤ 880) : rTo tx n (e, d, rn, pu, lf, V, (25, 1, b, c, x) :: K, S) (t.2.2.2.1, d, rn, pu, lf, V, K, S) := by
  refine rTo_mk fun s q => rd_251 (a := 0) q (by omega) fun s q => ?_
  have a0 := q.at0
  rw [cS_228, cF_228_0]
  refine RO_l0 ht q hT fun s1 q1 => ?_
  have k1 := q1.tok
  rw [if_pos (by omega), if_neg (by decide)]
  exact RO_tk ht q1 hT fun s2 q2 => RO_ret q2.1
theorem t_25p0 (ht : tOk tx n) {e d rn pu : Int} {lf : Bool} {V : List tT} {K : List rTs} {S : List rSg} {t : tTk} {b c x : Int} (hT : lxG tx n false e = some t) (hc : rNo t = 1) (hn : rn < 499) (hK : (K.length : Int) ≤ 880) (cc : Int) : rTo tx n (e, d, rn, pu, lf, V, (25, 0, b, c, x) :: K, S) (t.2.2.2.1, d, rn + 1, pu, lf, ((22, t.2.2.1, t.2.2.2.1 - t.2.2.1, cc, false), .leaf) :: V, (26, 0, 0, 0, 0) :: K, S) := by
  refine rTo_mk fun s q => rd_250 (a := 0) q (by omega) fun s q => ?_
  have a0 := q.at0
  rw [cS_228, cF_228_0]
  refine RO_l0 ht q hT fun s1 q1 => ?_
  have k1 := q1.tok
  rw [if_neg (by omega), if_pos (by omega), if_pos q1.nof]
  refine RO_la q1 (by omega) fun s2 q2 => RO_tail ?_
  rw [q2.len ht a0.1 a0.2 hT, cS_201, cF_201_0, q2.beg, q2.1.val]
  have q2' : rRt tx n (e, d, rn, pu, lf, [] ++ V, (26, 0, 0, 0, 0) :: K, S) t s2 := q2
  refine RO_re q2' hn rfl cc fun s3 q3 => RO_tk ht q3 hT fun s4 q4 => RO_ret ?_
  have := q4.1
  simp only [show decide ((22 : Int) < 44 ∨ 49 < (22 : Int)) = true by decide, Bool.and_true] at this
  exact this
theorem b_250 (ht : tOk tx n) {e d rn pu : Int} {lf : Bool} {V : List tT} {K : List rTs} {S : List rSg} {t : tTk} {b c x : Int} (hT : lxG tx n false e = some t) (hc : rNo t ≠ 1) (hK : (K.length : Int) ≤ 880) : rBd tx n (e, d, rn, pu, lf, V, (25, 0, b, c, x) :: K, S) := by
  refine rBd_mk fun s q => rd_250 (a := 0) q (by omega) fun s q => ?_
  have a0 := q.at0
  rw [cS_228, cF_228_0]
  refine RO_l0 ht q hT fun s1 q1 => ?_
  have k1 := q1.tok
  refine RO_ite (fun _ => ?_) fun _ => ?_
  · rw [if_pos rfl, if_neg (by omega)]
    exact RO_bd q1 fun s2 _ g2 => RO_ret g2
  · rw [if_neg (by omega)]
    exact RO_bd q1 fun s2 _ g2 => RO_ret g2
theorem t_25p1 (ht : tOk tx n) {e d rn pu : Int} {lf : Bool} {V : List tT} {K : List rTs} {S : List rSg} {t : tTk} {b c x : Int} (hT : lxG tx n false e = some t) (hc : rNo t = 1) (hn : rn < 499) (hK : (K.length : Int) ≤ 880) (cc : Int) : rTo tx n (e, d, rn, pu, lf, V, (25, 1, b, c, x) :: K, S) (t.2.2.2.1, d, rn + 1, pu, lf, ((22, t.2.2.1, t.2.2.2.1 - t.2.2.1, cc, false), .leaf) :: V, (26, 0, 0, 0, 0) :: K, S) := by
  refine rTo_mk fun s q => rd_251 (a := 0) q (by omega) fun s q => ?_
  have a0 := q.at0
  rw [cS_228, cF_228_0]
  refine RO_l0 ht q hT fun s1 q1 => ?_
  have k1 := q1.tok
  rw [if_neg (by omega), if_pos (by omega), if_pos q1.nof]
  refine RO_la q1 (by omega) fun s2 q2 => RO_tail ?_
  rw [q2.len ht a0.1 a0.2 hT, cS_201, cF_201_0, q2.beg, q2.1.val]
  have q2' : rRt tx n (e, d, rn, pu, lf, [] ++ V, (26, 0, 0, 0, 0) :: K, S) t s2 := q2
  refine RO_re q2' hn rfl cc fun s3 q3 => RO_tk ht q3 hT fun s4 q4 => RO_ret ?_
  have := q4.1
  simp only [show decide ((22 : Int) < 44 ∨ 49 < (22 : Int)) = true by decide, Bool.and_true] at this
  exact this
theorem b_251 (ht : tOk tx n) {e d rn pu : Int} {lf : Bool} {V : List tT} {K : List rTs} {S : List rSg} {t : tTk} {b c x : Int} (hT : lxG tx n false e = some t) (hc : rNo t ≠ 1 ∧ rNo t ≠ 41) (hK : (K.length : Int) ≤ 880) : rBd tx n (e, d, rn, pu, lf, V, (25, 1, b, c, x) :: K, S) := by
  refine rBd_mk fun s q => rd_251 (a := 0) q (by omega) fun s q => ?_
  have a0 := q.at0
  rw [cS_228, cF_228_0]
  refine RO_l0 ht q hT fun s1 q1 => ?_
  have k1 := q1.tok
  rw [if_neg (by omega), if_neg (by omega)]
  exact RO_bd q1 fun s2 _ g2 => RO_ret g2
theorem t_26m (ht : tOk tx n) {e d rn pu : Int} {lf : Bool} {V : List tT} {K : List rTs} {S : List rSg} {t : tTk} {a b c x : Int} (hT : lxG tx n false e = some t) (hc : rNo t = 44) (hK : (K.length : Int) ≤ 880) : rTo tx n (e, d, rn, pu, lf, V, (26, a, b, c, x) :: K, S) (t.2.2.2.1, d, rn, pu, lf, V, (25, 0, 0, 0, 0) :: K, S) := by
  refine rTo_mk fun s q => rd_26 q (by omega) fun s q => ?_
  have a0 := q.at0
  rw [cS_229, cF_229_0]
  refine RO_l0 ht q hT fun s1 q1 => ?_
  have k1 := q1.tok
  rw [if_pos (by omega)]
  exact RO_tk ht q1 hT fun s2 q2 => RO_la q2 (by omega) fun s3 q3 => RO_ret q3.1
theorem t_26e (ht : tOk tx n) {e d rn pu : Int} {lf : Bool} {V : List tT} {K : List rTs} {S : List rSg} {t : tTk} {a b c x : Int} (hT : lxG tx n false e = some t) (hc : rNo t = 41) (hK : (K.length : Int) ≤ 880) : rTo tx n (e, d, rn, pu, lf, V, (26, a, b, c, x) :: K, S) (t.2.2.2.1, d, rn, pu, lf, V, K, S) := by
  refine rTo_mk fun s q => rd_26 q (by omega) fun s q => ?_
  have a0 := q.at0
  rw [cS_229, cF_229_0]
  refine RO_l0 ht q hT fun s1 q1 => ?_
  have k1 := q1.tok
  rw [if_neg (by omega), if_pos (by omega)]
  exact RO_tk ht q1 hT fun s2 q2 => RO_ret q2.1
theorem b_26 (ht : tOk tx n) {e d rn pu : Int} {lf : Bool} {V : List tT} {K : List rTs} {S : List rSg} {t : tTk} {a b c x : Int} (hT : lxG tx n false e = some t) (hc : rNo t ≠ 44 ∧ rNo t ≠ 41) (hK : (K.length : Int) ≤ 880) : rBd tx n (e, d, rn, pu, lf, V, (26, a, b, c, x) :: K, S) := by
  refine rBd_mk fun s q => rd_26 q (by omega) fun s q => ?_
  have a0 := q.at0
  rw [cS_229, cF_229_0]
  refine RO_l0 ht q hT fun s1 q1 => ?_
  have k1 := q1.tok
  rw [if_neg (by omega), if_neg (by omega)]
  exact RO_bd q1 fun s2 _ g2 => RO_ret g2
theorem t_27 (ht : tOk tx n) {e d rn pu : Int} {lf : Bool} {V : List tT} {K : List rTs} {S : List rSg} {t : tTk} {a b c x : Int} (hT : lxG tx n false e = some t) (hT1 : lxG tx n true e = some t) (hc : rNo t = 123) (h0 : 0 ≤ d) (hd : d < 20) (hK : (K.length : Int) ≤ 880) : rTo tx n (e, d, rn, pu, lf, V, (27, a, b, c, x) :: K, S) (t.2.2.2.1, d + 1, rn, pu, lf, V, (1, 3, 0, 0, 0) :: (3, 23, t.2.2.1, 0, V.length) :: (4, 0, 0, 0, 0) :: K, S) := by
  refine rTo_mk fun s q => rd_27 q (by omega) fun s q => ?_
  have a0 := q.at0
  rw [cS_230, cF_230_0]
  refine RO_l0 ht q hT fun s1 q1 => ?_
  have k1 := q1.tok
  rw [if_pos (by omega)]
  refine RO_bi (en_ok ht q1.1 hT1 h0 (Or.inl hd)) fun z s2 g => ?_
  obtain ⟨rfl, q2⟩ := g
  rw [if_neg (by decide)]
  refine RO_la q2 (by omega) fun s3 q3 => ?_
  rw [q3.beg, q3.1.val]
  exact RO_pu q3 (by simp only [List.length_cons]; omega) fun s4 q4 => RO_la q4 (by simp only [List.length_cons]; omega) fun s5 q5 => RO_tk ht q5 hT1 fun s6 q6 => RO_ret q6.1
theorem b_27d (ht : tOk tx n) {e d rn pu : Int} {lf : Bool} {V : List tT} {K : List rTs} {S : List rSg} {t : tTk} {a b c x : Int} (hT : lxG tx n false e = some t) (hT1 : lxG tx n true e = some t) (hc : rNo t = 123) (hd : d = 20) (hK : (K.length : Int) ≤ 880) : rBd tx n (e, d, rn, pu, lf, V, (27, a, b, c, x) :: K, S) := by
  refine rBd_mk fun s q => rd_27 q (by omega) fun s q => ?_
  have a0 := q.at0
  rw [cS_230, cF_230_0]
  refine RO_l0 ht q hT fun s1 q1 => ?_
  have k1 := q1.tok
  rw [if_pos (by omega)]
  refine RO_bi (en_deep ht q1.1 hT1 hd (by omega)) fun z s2 g => ?_
  rw [if_pos g.1]
  exact RO_ret g.2
theorem b_27 (ht : tOk tx n) {e d rn pu : Int} {lf : Bool} {V : List tT} {K : List rTs} {S : List rSg} {t : tTk} {a b c x : Int} (hT : lxG tx n false e = some t) (hc : rNo t ≠ 123) (hK : (K.length : Int) ≤ 880) : rBd tx n (e, d, rn, pu, lf, V, (27, a, b, c, x) :: K, S) := by
  refine rBd_mk fun s q => rd_27 q (by omega) fun s q => ?_
  have a0 := q.at0
  rw [cS_230, cF_230_0]
  refine RO_l0 ht q hT fun s1 q1 => ?_
  have k1 := q1.tok
  rw [if_neg (by omega)]
  exact RO_bd q1 fun s2 _ g2 => RO_ret g2
theorem t_28 (ht : tOk tx n) {e d rn pu : Int} {lf : Bool} {V : List tT} {K : List rTs} {S : List rSg} {t : tTk} {a b c x : Int} {T : tT} (hT : lxG tx n false e = some t) (hc : rNo t = 41) (hr : rn ≤ 490) (hK : (K.length : Int) ≤ 880) : rTo tx n (e, d, rn, pu, lf, T :: V, (28, a, b, c, x) :: K, S) (t.2.2.2.1, d, rn, pu, lf, ((T.1.1, T.1.2.1, T.1.2.2.1, T.1.2.2.2.1, T.1.2.2.2.2 || decide (T.1.1 = 34)), T.2) :: V, K, S) := by
  refine rTo_mk fun s q => rd_28 q (by omega) fun s q => ?_
  have a0 := q.at0
  rw [cS_252, cF_252_0]
  have h1 : RO s (cm_sem 210 [.inr (.inl 41), .inl 41] s) (rRt tx n (t.2.2.2.1, d, rn, pu, lf, T :: V, K, S) t) := by
    rw [cS_210, cF_210_0]
    refine RO_l0 ht q hT fun s1 q1 => ?_
    rw [if_pos (by rw [q1.tok]; exact hc)]
    exact RO_tk ht q1 hT fun s2 q2 => RO_ret q2
  refine RO_bind h1 fun s1 q1 => ?_
  have hvm := q1.1.vm (by omega)
  have hrn := q1.1.rn0
  obtain ⟨h1, h2, h3, h4, h5, h6, h7, ⟨lo, ⟨v1, v2, ⟨l1, l2, l3, l4⟩, v4, v5⟩, v6⟩, h9, h10⟩ := q1.1.2
  have hlo := rVaA_b _ _ v6
  simp only at h2 v1 v2 v5 hrn
  rw [List.length_cons] at hrn
  rw [hvm, if_pos (by omega)]
  generalize hv : s1.2 61 V.length = v at *
  have hvr : (0 : Int) ≤ v ∧ v < 500 := by omega
  have fin : ∀ y : Int, y = cm_n (T.1.2.2.2.2 || decide (T.1.1 = 34)) → RO s1 (some (.inl none, cm_q s1 54 v y)) (rR tx n (t.2.2.2.1, d, rn, pu, lf, ((T.1.1, T.1.2.1, T.1.2.2.1, T.1.2.2.2.1, T.1.2.2.2.2 || decide (T.1.1 = 34)), T.2) :: V, K, S)) := by
    intro y hy
    refine RO_at (rFm_q (rFm_rf s1) (by omega)) ⟨rAt_fr q1.1.1 (cm_q_ne (by decide)) fun j _ _ _ => rfl, h1, h2, h3, h4, h5, rSkA_fr (s := s1) _ (fun a i _ _ _ => by rw [cm_q_ne (by omega)]) h6, h7, ⟨lo, ?_, ?_⟩, h9, rSgA_fr (s := s1) _ (fun a i _ _ _ => by rw [cm_q_ne (by omega)]) h10⟩
    · rw [cm_q_ne (by decide), hv]
      refine ⟨v1, v2, ⟨?_, ?_, ?_, ?_⟩, ?_, ?_⟩
      · rw [cm_q_ne (by decide)]; exact l1
      · rw [cm_q_ne (by decide)]; exact l2
      · rw [cm_q_ne (by decide)]; exact l3
      · rw [cm_q_at, if_pos rfl, hy]
      · rw [cm_q_ne (by decide)]; exact v4
      · rw [cm_q_ne (show (50 : Nat) ≠ 54 by decide)]
        exact rFo_fr _ _ _ _ _ (fun a i a1 a2 a3 a4 => cm_q_old (by have a5 : i < rn - 1 := a4; omega)) v5
    · exact rVaA_fr (s := s1) V lo (fun a i a1 a2 a3 => cm_q_old (by omega)) (fun i _ => by rw [cm_q_ne (by decide)]) v6
  rw [if_pos hvr, l4, l1]
  by_cases hw : T.1.2.2.2.2 = true
  · rw [if_neg (by rw [show lbW T.1 = true from hw]; decide), if_pos hvr]
    exact fin _ (by rw [hw]; rfl)
  · have hw' : T.1.2.2.2.2 = false := by simpa using hw
    rw [if_pos (by rw [show lbW T.1 = false from hw']; rfl), if_pos hvr]
    by_cases h34 : T.1.1 = 34
    · rw [if_pos h34, if_pos hvr]
      exact fin _ (by rw [hw', h34]; rfl)
    · rw [if_neg h34, if_pos hvr]
      exact fin _ (by rw [hw', decide_eq_false h34]; rfl)
theorem b_28 (ht : tOk tx n) {e d rn pu : Int} {lf : Bool} {V : List tT} {K : List rTs} {S : List rSg} {t : tTk} {a b c x : Int} {T : tT} (hT : lxG tx n false e = some t) (hc : rNo t ≠ 41) (hr : rn ≤ 486) (hK : (K.length : Int) ≤ 880) : rBd tx n (e, d, rn, pu, lf, T :: V, (28, a, b, c, x) :: K, S) := by
  refine rBd_mk fun s q => rd_28 q (by omega) fun s q => ?_
  have a0 := q.at0
  rw [cS_252, cF_252_0]
  have h1 : RO s (cm_sem 210 [.inr (.inl 41), .inl 41] s) (rZ tx n (T :: V).length 0) := by
    rw [cS_210, cF_210_0]
    refine RO_l0 ht q hT fun s1 q1 => ?_
    rw [if_neg (by rw [q1.tok]; exact hc)]
    have ok := lxG_rg ht a0.1 a0.2 hT
    have h112 := q1.beg
    have hx := q1.1.1.1
    refine RO_tail ⟨_, cs_205 q1.nof, rFm_p (rFm_p (rFm_rf s1) (by omega)) (by omega), rZ_of (K := K) (rQ_p (rQ_p q1.1.2 (by decide)) (by decide)) ?_ (rTx_p (rTx_p hx (by decide)) (by decide)) ?_ (by omega) hr⟩
    · unfold gB; rw [cm_p_ne (by decide), cm_p_at]; decide
    · rw [cm_p_ne (by decide), cm_p_ne (by decide)]; omega
  refine RO_bind h1 fun s1 z => ?_
  have zz := z
  obtain ⟨z1, z2, z3, z4, z5, z6, z7, z8, z9, z10, z11⟩ := zz
  rw [List.length_cons] at z8
  have hv := z11 (s1.1 4134 - 1) (by omega) (by omega)
  have go : ∀ v y : Int, RO s1 (some (.inl none, cm_q s1 54 v y)) gB := fun v y => RO_at (rFm_q (rFm_rf s1) (by omega)) z1
  rw [cm_w_id (by omega) (by omega), if_pos (by omega), if_pos hv]
  refine RO_ite (fun _ => ?_) (fun _ => ?_)
  · rw [if_pos hv]
    refine RO_ite (fun _ => ?_) (fun _ => ?_)
    · rw [if_pos hv]; exact go _ _
    · rw [if_pos hv]; exact go _ _
  · rw [if_pos hv]; exact go _ _
end TX37
