/-! ===== what each task does, on (printed by wip/gen/ref/mk9i.py) ===== -/
section TX38
variable {tx : Int → Int} {n : Int}
theorem t_29 (ht : tOk tx n) {e d rn pu : Int} {lf : Bool} {V : List tT} {K : List rTs} {S : List rSg} {t : tTk} {a b c x : Int} (hT : lxG tx n false e = some t) (hc : rNo t = 1) (hK : (K.length : Int) ≤ 880) : rTo tx n (e, d, rn, pu, lf, V, (29, a, b, c, x) :: K, S) (t.2.2.2.1, d, rn, pu, lf, V, (30, a, 0, 0, 0) :: (3, 3, t.2.2.1, t.2.2.2.1 - t.2.2.1, V.length) :: (31, a, 0, 0, 0) :: K, S) := by
  refine rTo_mk fun s q => rd_29 q (by omega) fun s q => ?_
  have a0 := q.at0
  rw [cS_225, cF_225_0]
  refine RO_l0 ht q hT fun s1 q1 => ?_
  have k1 := q1.tok
  rw [if_pos (by omega)]
  refine RO_la q1 (by omega) fun s2 q2 => ?_
  rw [q2.len ht a0.1 a0.2 hT, q2.beg, q2.1.val]
  exact RO_pu q2 (by simp only [List.length_cons]; omega) fun s3 q3 => RO_la q3 (by simp only [List.length_cons]; omega) fun s4 q4 => RO_tk ht q4 hT fun s5 q5 => RO_ret q5.1
theorem b_29 (ht : tOk tx n) {e d rn pu : Int} {lf : Bool} {V : List tT} {K : List rTs} {S : List rSg} {t : tTk} {a b c x : Int} (hT : lxG tx n false e = some t) (hc : rNo t ≠ 1) (hK : (K.length : Int) ≤ 880) : rBd tx n (e, d, rn, pu, lf, V, (29, a, b, c, x) :: K, S) := by
  refine rBd_mk fun s q => rd_29 q (by omega) fun s q => ?_
  have a0 := q.at0
  rw [cS_225, cF_225_0]
  refine RO_l0 ht q hT fun s1 q1 => ?_
  have k1 := q1.tok
  rw [if_neg (by omega)]
  exact RO_bd q1 fun s2 _ g2 => RO_ret g2
theorem t_30y (ht : tOk tx n) {e d rn pu : Int} {lf : Bool} {V : List tT} {K : List rTs} {S : List rSg} {t : tTk} {a b c x : Int} (hT : lxG tx n false e = some t) (hc : rNo t = 61) (hK : (K.length : Int) ≤ 880) : rTo tx n (e, d, rn, pu, lf, V, (30, a, b, c, x) :: K, S) (t.2.2.2.1, d, rn, pu, lf, V, (9, a, 0, 0, 0) :: K, S) := by
  refine rTo_mk fun s q => rd_30 q (by omega) fun s q => ?_
  have a0 := q.at0
  rw [cS_226, cF_226_0]
  refine RO_l0 ht q hT fun s1 q1 => ?_
  have k1 := q1.tok
  rw [if_pos (by omega)]
  exact RO_tk ht q1 hT fun s2 q2 => RO_la q2 (by omega) fun s3 q3 => RO_ret q3.1
theorem t_30n (ht : tOk tx n) {e d rn pu : Int} {lf : Bool} {V : List tT} {K : List rTs} {S : List rSg} {t : tTk} {a b c x : Int} (hT : lxG tx n false e = some t) (hc : rNo t ≠ 61) (hK : (K.length : Int) ≤ 880) : rTo tx n (e, d, rn, pu, lf, V, (30, a, b, c, x) :: K, S) (e, d, rn, pu, lf, V, K, S) := by
  refine rTo_mk fun s q => rd_30 q (by omega) fun s q => ?_
  have a0 := q.at0
  rw [cS_226, cF_226_0]
  refine RO_l0 ht q hT fun s1 q1 => ?_
  have k1 := q1.tok
  rw [if_neg (by omega)]
  exact RO_ret q1.1
theorem t_31y (ht : tOk tx n) {e d rn pu : Int} {lf : Bool} {V : List tT} {K : List rTs} {S : List rSg} {t : tTk} {a b c x : Int} (hT : lxG tx n false e = some t) (hc : rNo t = 44) (hK : (K.length : Int) ≤ 880) : rTo tx n (e, d, rn, pu, lf, V, (31, a, b, c, x) :: K, S) (t.2.2.2.1, d, rn, pu, lf, V, (29, a, 0, 0, 0) :: K, S) := by
  refine rTo_mk fun s q => rd_31 q (by omega) fun s q => ?_
  have a0 := q.at0
  rw [cS_227, cF_227_0]
  refine RO_l0 ht q hT fun s1 q1 => ?_
  have k1 := q1.tok
  rw [if_pos (by omega)]
  exact RO_tk ht q1 hT fun s2 q2 => RO_la q2 (by omega) fun s3 q3 => RO_ret q3.1
theorem t_31n (ht : tOk tx n) {e d rn pu : Int} {lf : Bool} {V : List tT} {K : List rTs} {S : List rSg} {t : tTk} {a b c x : Int} (hT : lxG tx n false e = some t) (hc : rNo t ≠ 44) (hK : (K.length : Int) ≤ 880) : rTo tx n (e, d, rn, pu, lf, V, (31, a, b, c, x) :: K, S) (e, d, rn, pu, lf, V, K, S) := by
  refine rTo_mk fun s q => rd_31 q (by omega) fun s q => ?_
  have a0 := q.at0
  rw [cS_227, cF_227_0]
  refine RO_l0 ht q hT fun s1 q1 => ?_
  have k1 := q1.tok
  rw [if_neg (by omega)]
  exact RO_ret q1.1
theorem t_32y (ht : tOk tx n) {e d rn pu : Int} {lf : Bool} {V : List tT} {K : List rTs} {S : List rSg} {t : tTk} {a b c x : Int} (hT : lxG tx n false e = some t) (hc : rNo t = 1007) (hK : (K.length : Int) ≤ 880) : rTo tx n (e, d, rn, pu, lf, V, (32, a, b, c, x) :: K, S) (t.2.2.2.1, d, rn, pu, lf, V, (2, 0, 0, 0, 0) :: K, S) := by
  refine rTo_mk fun s q => rd_32 q (by omega) fun s q => ?_
  have a0 := q.at0
  rw [cS_212, cF_212_0]
  refine RO_l0 ht q hT fun s1 q1 => ?_
  have k1 := q1.tok
  rw [if_pos (by omega), if_pos q1.nof]
  exact RO_tk ht q1 hT fun s2 q2 => RO_la q2 (by omega) fun s3 q3 => RO_ret q3.1
theorem t_32n (ht : tOk tx n) {e d rn pu : Int} {lf : Bool} {V : List tT} {K : List rTs} {S : List rSg} {t : tTk} {a b c x : Int} (hT : lxG tx n false e = some t) (hc : rNo t ≠ 1007) (hK : (K.length : Int) ≤ 880) : rTo tx n (e, d, rn, pu, lf, V, (32, a, b, c, x) :: K, S) (e, d, rn, pu, lf, V, K, S) := by
  refine rTo_mk fun s q => rd_32 q (by omega) fun s q => ?_
  have a0 := q.at0
  rw [cS_212, cF_212_0]
  refine RO_l0 ht q hT fun s1 q1 => ?_
  have k1 := q1.tok
  rw [if_neg (by omega)]
  exact RO_ret q1.1
theorem fr_g {e d rn pu : Int} {lf : Bool} {V : List tT} {K : List rTs} {S : List rSg} {t : tTk} {a b : Int} {s : cm_S} (q : rRt tx n (e, d, rn, pu, lf, V, K, S) t s) (hK : (K.length : Int) ≤ 880) : RO s (cm_sem 215 [.inr (.inl 41), .inl a, .inl b] s) (rR tx n (e, d, rn, pu, lf, V, (5, 59, 0, 0, 0) :: (36, 59, 0, 0, 0) :: (5, 59, 0, 0, 0) :: (36, 41, 0, 0, 0) :: (5, 41, 0, 0, 0) :: (2, 0, 0, 0, 0) :: (3, 9, a, 0, b) :: K, S)) := by
  rw [cS_215, cF_215_0]
  exact RO_pu q (by omega) fun s1 q1 => RO_la q1 (by simp only [List.length_cons]; omega) fun s2 q2 => RO_la q2 (by simp only [List.length_cons]; omega) fun s3 q3 => RO_la q3 (by simp only [List.length_cons]; omega) fun s4 q4 => RO_la q4 (by simp only [List.length_cons]; omega) fun s5 q5 => RO_la q5 (by simp only [List.length_cons]; omega) fun s6 q6 => RO_la q6 (by simp only [List.length_cons]; omega) fun s7 q7 => RO_ret q7.1
theorem fi_g (ht : tOk tx n) {e d rn pu : Int} {lf : Bool} {V : List tT} {K : List rTs} {S : List rSg} {t : tTk} {a b : Int} {g : Bool} {s : cm_S} (q : rRt tx n (e, d, rn, pu, lf, V, K, S) t s) (hT : lxG tx n g e = some t) (hK : (K.length : Int) ≤ 880) : RO s (cm_sem 218 [.inr (.inl 41), .inl a, .inl b] s) (rR tx n (t.2.2.2.1, d, rn, pu, lf, V, (7, 0, 0, 0, 0) :: (5, 41, 0, 0, 0) :: (2, 0, 0, 0, 0) :: (3, 10, a, 0, b) :: K, S)) := by
  rw [cS_218, cF_218_0]
  exact RO_tk ht q hT fun s0 q0 => RO_pu q0 (by omega) fun s1 q1 => RO_la q1 (by simp only [List.length_cons]; omega) fun s2 q2 => RO_la q2 (by simp only [List.length_cons]; omega) fun s3 q3 => RO_la q3 (by simp only [List.length_cons]; omega) fun s4 q4 => RO_ret q4.1
theorem fm_o (ht : tOk tx n) {e d rn pu : Int} {lf : Bool} {V : List tT} {K : List rTs} {S : List rSg} {t : tTk} {a b y : Int} {s : cm_S} (q : rR tx n (e, d, rn, pu, lf, V, K, S) s) (hT : lxG tx n false e = some t) (hc : rNo t ≠ 1013) (hK : (K.length : Int) ≤ 880) : RO s (cm_sem 217 [.inr (.inl 41), .inl a, .inl b, .inl y] s) (rR tx n (e, d, rn, pu, lf, V, (5, 59, 0, 0, 0) :: (36, 59, 0, 0, 0) :: (5, 59, 0, 0, 0) :: (36, 41, 0, 0, 0) :: (5, 41, 0, 0, 0) :: (2, 0, 0, 0, 0) :: (3, 9, a, 0, b) :: K, S)) := by
  rw [cS_217, cF_217_0]
  refine RO_l0 ht q hT fun s1 q1 => ?_
  have k1 := q1.tok
  rw [if_neg (by omega), if_neg (by omega)]
  exact RO_tail (fr_g q1 hK)
theorem fm_i (ht : tOk tx n) {e d rn pu : Int} {lf : Bool} {V : List tT} {K : List rTs} {S : List rSg} {t : tTk} {a b y : Int} {s : cm_S} (q : rR tx n (e, d, rn, pu, lf, V, K, S) s) (hT : lxG tx n false e = some t) (hc : rNo t = 1013) (hy : y ≠ 0) (hK : (K.length : Int) ≤ 880) : RO s (cm_sem 217 [.inr (.inl 41), .inl a, .inl b, .inl y] s) (rR tx n (t.2.2.2.1, d, rn, pu, lf, V, (7, 0, 0, 0, 0) :: (5, 41, 0, 0, 0) :: (2, 0, 0, 0, 0) :: (3, 10, a, 0, b) :: K, S)) := by
  rw [cS_217, cF_217_0]
  refine RO_l0 ht q hT fun s1 q1 => ?_
  have k1 := q1.tok
  rw [if_pos (by omega), if_neg hy]
  exact RO_tail (fi_g ht q1 hT hK)
theorem fm_b (ht : tOk tx n) {e d rn pu : Int} {lf : Bool} {V : List tT} {K : List rTs} {S : List rSg} {t : tTk} {a b : Int} {s : cm_S} (q : rR tx n (e, d, rn, pu, lf, V, K, S) s) (hT : lxG tx n false e = some t) (hc : rNo t = 1013) : RO s (cm_sem 217 [.inr (.inl 41), .inl a, .inl b, .inl 0] s) gB := by
  rw [cS_217, cF_217_0]
  refine RO_l0 ht q hT fun s1 q1 => ?_
  have k1 := q1.tok
  rw [if_pos (by omega), if_pos rfl, if_pos (by omega)]
  exact RO_bd q1 fun s2 _ g2 => RO_ret g2
theorem t_33s (ht : tOk tx n) {e d rn pu : Int} {lf : Bool} {V : List tT} {K : List rTs} {S : List rSg} {t : tTk} {a b c x : Int} (hT : lxG tx n true e = some t) (hc : rNo t = 59) (hn : rn < 499) (hK : (K.length : Int) ≤ 880) : rTo tx n (e, d, rn, pu, lf, V, (33, a, b, c, x) :: K, S) (e, d, rn + 1, pu, lf, ((21, 0, 0, 0, false), .leaf) :: V, (5, 59, 0, 0, 0) :: (36, 59, 0, 0, 0) :: (5, 59, 0, 0, 0) :: (36, 41, 0, 0, 0) :: (5, 41, 0, 0, 0) :: (2, 0, 0, 0, 0) :: (3, 9, a, 0, b) :: K, S) := by
  refine rTo_mk fun s q => rd_33 q (by omega) fun s q => ?_
  have a0 := q.at0
  rw [cS_213, cF_213_0]
  refine RO_l1 ht q hT fun s1 q1 => ?_
  have k1 := q1.tok
  rw [if_pos (by omega)]
  exact RO_bind (no_g q1 hn) fun s2 q2 => RO_tail (fr_g q2 hK)
theorem t_33v (ht : tOk tx n) {e d rn pu : Int} {lf : Bool} {V : List tT} {K : List rTs} {S : List rSg} {t : tTk} {a b c x : Int} (hT : lxG tx n true e = some t) (hc : rNo t = 1024) (hK : (K.length : Int) ≤ 880) : rTo tx n (e, d, rn, pu, lf, V, (33, a, b, c, x) :: K, S) (t.2.2.2.1, d, rn, pu, lf, V, (29, 1, 0, 0, 0) :: (34, a, b, t.2.2.1, V.length) :: K, S) := by
  refine rTo_mk fun s q => rd_33 q (by omega) fun s q => ?_
  have a0 := q.at0
  rw [cS_213, cF_213_0]
  refine RO_l1 ht q hT fun s1 q1 => ?_
  have k1 := q1.tok
  rw [if_neg (by omega), if_pos (by omega), q1.beg, q1.1.val]
  exact RO_pu q1 (by omega) fun s2 q2 => RO_la q2 (by simp only [List.length_cons]; omega) fun s3 q3 => RO_tk ht q3 hT fun s4 q4 => RO_ret q4.1
theorem t_33x (ht : tOk tx n) {e d rn pu : Int} {lf : Bool} {V : List tT} {K : List rTs} {S : List rSg} {t : tTk} {a b c x : Int} (hT : lxG tx n true e = some t) (hc : rNo t ≠ 59 ∧ rNo t ≠ 1024) (hK : (K.length : Int) ≤ 880) : rTo tx n (e, d, rn, pu, lf, V, (33, a, b, c, x) :: K, S) (e, d, rn, pu, lf, V, (7, 1, 0, 0, 0) :: (35, a, b, 0, 0) :: K, S) := by
  refine rTo_mk fun s q => rd_33 q (by omega) fun s q => ?_
  have a0 := q.at0
  rw [cS_213, cF_213_0]
  refine RO_l1 ht q hT fun s1 q1 => ?_
  have k1 := q1.tok
  rw [if_neg (by omega), if_neg (by omega)]
  exact RO_pu q1 (by omega) fun s2 q2 => RO_la q2 (by simp only [List.length_cons]; omega) fun s3 q3 => RO_ret q3.1
theorem b_33n (ht : tOk tx n) {e d rn pu : Int} {lf : Bool} {V : List tT} {K : List rTs} {S : List rSg} {t : tTk} {a b c x : Int} (hN : lxG tx n true e = none) (hr : rn ≤ 486) (hK : (K.length : Int) ≤ 880) : rBd tx n (e, d, rn, pu, lf, V, (33, a, b, c, x) :: K, S) := by
  refine rBd_mk fun s q => rd_33 q (by omega) fun s q => ?_
  rw [cS_213, cF_213_0]
  refine RO_n1 ht q hN fun s1 q1 g1 x1 f1 => ?_
  have z := rZ_of q1 g1 x1 f1 (by omega) hr
  repeat' first
      | exact Z_ret ‹_›
      | refine Z_pu ‹_› (by omega) fun _ _ => ?_
      | refine Z_la ‹_› (by omega) fun _ _ => ?_
      | refine Z_tk ‹_› fun _ _ => ?_
      | refine Z_no ‹_› (by omega) fun _ _ => ?_
      | refine Z_215 ‹_› (by omega) fun _ _ => ?_
      | refine RO_ite (fun _ => ?_) (fun _ => ?_)
theorem t_34o (ht : tOk tx n) {e d rn pu : Int} {lf : Bool} {V : List tT} {K : List rTs} {S : List rSg} {t : tTk} {a b c : Int} {Vc : List tT} (hT : lxG tx n false e = some t) (hc : rNo t ≠ 1013) (hn : rn < 499) (hK : (K.length : Int) ≤ 880) : rTo tx n (e, d, rn, pu, lf, Vc ++ V, (34, a, b, c, V.length) :: K, S) (e, d, rn + 1, pu, lf, ((2, c, 0, 0, false), foR .leaf Vc) :: V, (5, 59, 0, 0, 0) :: (36, 59, 0, 0, 0) :: (5, 59, 0, 0, 0) :: (36, 41, 0, 0, 0) :: (5, 41, 0, 0, 0) :: (2, 0, 0, 0, 0) :: (3, 9, a, 0, b) :: K, S) := by
  refine rTo_mk fun s q => rd_34 q (by omega) fun s q => ?_
  obtain ⟨s', e1, e2, e3, e4⟩ := cs_202 q.2 hn 2 c 0 0
  have q' : rR tx n (e, d, rn + 1, pu, lf, ((2, c, 0, 0, false), foR .leaf Vc) :: V, K, S) s' := by
    refine ⟨rAt_fr q.1 (e3.1 46 (by omega)) (fun j _ _ _ => e4 j (by omega) (by omega) (by omega)), ?_⟩
    simp only [show decide ((2 : Int) < 44 ∨ 49 < (2 : Int)) = true by decide, Bool.and_true] at e2
    exact e2
  have hl := q.rn0
  rw [List.length_append] at hl
  rw [cS_216, cF_216_0, q.val, List.length_append, cm_w_id (by omega) (by omega), e1]
  refine RO_ite (fun hq => ?_) fun hq => ?_
  · rw [cm_bv_o]; exact RO_from e3 (RO_tail (fm_o ht q' hT hc hK))
  · rw [cm_bv_o]; exact RO_from e3 (RO_tail (fm_o ht q' hT hc hK))
theorem t_34i (ht : tOk tx n) {e d rn pu : Int} {lf : Bool} {V : List tT} {K : List rTs} {S : List rSg} {t : tTk} {a b c : Int} {T : tT} (hT : lxG tx n false e = some t) (hc : rNo t = 1013) (hn : rn < 499) (hK : (K.length : Int) ≤ 880) : rTo tx n (e, d, rn, pu, lf, T :: V, (34, a, b, c, V.length) :: K, S) (t.2.2.2.1, d, rn + 1, pu, lf, ((2, c, 0, 0, false), fo [T]) :: V, (7, 0, 0, 0, 0) :: (5, 41, 0, 0, 0) :: (2, 0, 0, 0, 0) :: (3, 10, a, 0, b) :: K, S) := by
  refine rTo_mk fun s q => rd_34 q (by omega) fun s q => ?_
  change rR tx n (e, d, rn, pu, lf, [T] ++ V, K, S) s at q
  obtain ⟨s', e1, e2, e3, e4⟩ := cs_202 q.2 hn 2 c 0 0
  have q' : rR tx n (e, d, rn + 1, pu, lf, ((2, c, 0, 0, false), foR .leaf [T]) :: V, K, S) s' := by
    refine ⟨rAt_fr q.1 (e3.1 46 (by omega)) (fun j _ _ _ => e4 j (by omega) (by omega) (by omega)), ?_⟩
    simp only [show decide ((2 : Int) < 44 ∨ 49 < (2 : Int)) = true by decide, Bool.and_true] at e2
    exact e2
  have hl := q.rn0
  rw [List.length_append] at hl
  rw [cS_216, cF_216_0, q.val, List.length_append, cm_w_id (by omega) (by omega), e1]
  rw [if_pos (by rw [List.length_singleton]; omega), cm_bv_o]
  exact RO_from e3 (RO_tail (fm_i ht q' hT hc (by decide) hK))
theorem b_34 (ht : tOk tx n) {e d rn pu : Int} {lf : Bool} {V : List tT} {K : List rTs} {S : List rSg} {t : tTk} {a b c : Int} {Vc : List tT} (hT : lxG tx n false e = some t) (hc : rNo t = 1013) (h1 : Vc.length ≠ 1) (hn : rn < 499) (hK : (K.length : Int) ≤ 880) : rBd tx n (e, d, rn, pu, lf, Vc ++ V, (34, a, b, c, V.length) :: K, S) := by
  refine rBd_mk fun s q => rd_34 q (by omega) fun s q => ?_
  obtain ⟨s', e1, e2, e3, e4⟩ := cs_202 q.2 hn 2 c 0 0
  have q' : rR tx n (e, d, rn + 1, pu, lf, ((2, c, 0, 0, false), foR .leaf Vc) :: V, K, S) s' := by
    refine ⟨rAt_fr q.1 (e3.1 46 (by omega)) (fun j _ _ _ => e4 j (by omega) (by omega) (by omega)), ?_⟩
    simp only [show decide ((2 : Int) < 44 ∨ 49 < (2 : Int)) = true by decide, Bool.and_true] at e2
    exact e2
  have hl := q.rn0
  rw [List.length_append] at hl
  rw [cS_216, cF_216_0, q.val, List.length_append, cm_w_id (by omega) (by omega), e1]
  rw [if_neg (by omega), cm_bv_o]
  exact RO_from e3 (RO_tail (fm_b ht q' hT hc))
theorem t_35o (ht : tOk tx n) {e d rn pu : Int} {lf : Bool} {V : List tT} {K : List rTs} {S : List rSg} {t : tTk} {a b c x : Int} (hT : lxG tx n false e = some t) (hc : rNo t ≠ 1013) (hK : (K.length : Int) ≤ 880) : rTo tx n (e, d, rn, pu, lf, V, (35, a, b, c, x) :: K, S) (e, d, rn, pu, lf, V, (5, 59, 0, 0, 0) :: (36, 59, 0, 0, 0) :: (5, 59, 0, 0, 0) :: (36, 41, 0, 0, 0) :: (5, 41, 0, 0, 0) :: (2, 0, 0, 0, 0) :: (3, 9, a, 0, b) :: K, S) := by
  exact rTo_mk fun s q => rd_35 q (by omega) fun s q => fm_o ht q hT hc hK
theorem t_35i (ht : tOk tx n) {e d rn pu : Int} {lf : Bool} {V : List tT} {K : List rTs} {S : List rSg} {t : tTk} {a b c x : Int} (hT : lxG tx n false e = some t) (hc : rNo t = 1013) (hK : (K.length : Int) ≤ 880) : rTo tx n (e, d, rn, pu, true, V, (35, a, b, c, x) :: K, S) (t.2.2.2.1, d, rn, pu, true, V, (7, 0, 0, 0, 0) :: (5, 41, 0, 0, 0) :: (2, 0, 0, 0, 0) :: (3, 10, a, 0, b) :: K, S) := by
  exact rTo_mk fun s q => rd_35 q (by omega) fun s q => fm_i ht q hT hc (by decide) hK
theorem b_35 (ht : tOk tx n) {e d rn pu : Int} {lf : Bool} {V : List tT} {K : List rTs} {S : List rSg} {t : tTk} {a b c x : Int} (hT : lxG tx n false e = some t) (hc : rNo t = 1013) (hK : (K.length : Int) ≤ 880) : rBd tx n (e, d, rn, pu, false, V, (35, a, b, c, x) :: K, S) := by
  exact rBd_mk fun s q => rd_35 q (by omega) fun s q => fm_b ht q hT hc
theorem t_36n (ht : tOk tx n) {e d rn pu : Int} {lf : Bool} {V : List tT} {K : List rTs} {S : List rSg} {t : tTk} {a b c x : Int} (hT : lxG tx n true e = some t) (hc : rNo t = a) (hn : rn < 499) (hK : (K.length : Int) ≤ 880) : rTo tx n (e, d, rn, pu, lf, V, (36, a, b, c, x) :: K, S) (e, d, rn + 1, pu, lf, ((21, 0, 0, 0, false), .leaf) :: V, K, S) := by
  refine rTo_mk fun s q => rd_36 q (by omega) fun s q => ?_
  have a0 := q.at0
  rw [cS_219, cF_219_0]
  refine RO_l1 ht q hT fun s1 q1 => ?_
  have k1 := q1.tok
  rw [if_pos (by omega)]
  exact RO_bind (no_g q1 hn) fun s2 q2 => RO_ret q2.1
theorem t_36x (ht : tOk tx n) {e d rn pu : Int} {lf : Bool} {V : List tT} {K : List rTs} {S : List rSg} {t : tTk} {a b c x : Int} (hT : lxG tx n true e = some t) (hc : rNo t ≠ a) (hK : (K.length : Int) ≤ 880) : rTo tx n (e, d, rn, pu, lf, V, (36, a, b, c, x) :: K, S) (e, d, rn, pu, lf, V, (7, 0, 0, 0, 0) :: K, S) := by
  refine rTo_mk fun s q => rd_36 q (by omega) fun s q => ?_
  have a0 := q.at0
  rw [cS_219, cF_219_0]
  refine RO_l1 ht q hT fun s1 q1 => ?_
  have k1 := q1.tok
  rw [if_neg (by omega)]
  exact RO_la q1 (by omega) fun s2 q2 => RO_ret q2.1
theorem b_36n (ht : tOk tx n) {e d rn pu : Int} {lf : Bool} {V : List tT} {K : List rTs} {S : List rSg} {t : tTk} {a b c x : Int} (hN : lxG tx n true e = none) (hr : rn ≤ 486) (hK : (K.length : Int) ≤ 880) : rBd tx n (e, d, rn, pu, lf, V, (36, a, b, c, x) :: K, S) := by
  refine rBd_mk fun s q => rd_36 q (by omega) fun s q => ?_
  rw [cS_219, cF_219_0]
  refine RO_n1 ht q hN fun s1 q1 g1 x1 f1 => ?_
  have z := rZ_of q1 g1 x1 f1 (by omega) hr
  repeat' first
      | exact Z_ret ‹_›
      | refine Z_la ‹_› (by omega) fun _ _ => ?_
      | refine Z_no ‹_› (by omega) fun _ _ => ?_
      | refine RO_ite (fun _ => ?_) (fun _ => ?_)
theorem t_37e (ht : tOk tx n) {e d rn pu : Int} {lf : Bool} {V : List tT} {K : List rTs} {S : List rSg} {t : tTk} {a b c x : Int} (hT : lxG tx n false e = some t) (hc : rNo t = 125) (hK : (K.length : Int) ≤ 880) : rTo tx n (e, d, rn, pu, lf, V, (37, a, b, c, x) :: K, S) (t.2.2.2.1, d, rn, pu, lf, V, K, S) := by
  refine rTo_mk fun s q => rd_37 q (by omega) fun s q => ?_
  have a0 := q.at0
  rw [cS_220, cF_220_0]
  refine RO_l0 ht q hT fun s1 q1 => ?_
  have k1 := q1.tok
  rw [if_pos (by omega)]
  refine RO_tk ht q1 hT fun s2 q2 => ?_
  rw [if_pos (by omega)]
  exact RO_ret q2.1
theorem t_37c (ht : tOk tx n) {e d rn pu : Int} {lf : Bool} {V : List tT} {K : List rTs} {S : List rSg} {t : tTk} {a b c x : Int} (hT : lxG tx n false e = some t) (hc : rNo t = 1001) (hK : (K.length : Int) ≤ 880) : rTo tx n (e, d, rn, pu, lf, V, (37, a, b, c, x) :: K, S) (t.2.2.2.1, d, rn, pu, lf, V, (7, 0, 0, 0, 0) :: (5, 58, 0, 0, 0) :: (1, 2, 0, 0, 0) :: (3, 15, t.2.2.1, 0, V.length) :: (37, 0, 0, 0, 0) :: K, S) := by
  refine rTo_mk fun s q => rd_37 q (by omega) fun s q => ?_
  have a0 := q.at0
  rw [cS_220, cF_220_0]
  refine RO_l0 ht q hT fun s1 q1 => ?_
  have k1 := q1.tok
  rw [if_neg (by omega), if_pos (by omega)]
  refine RO_tk ht q1 hT fun s2 q2 => ?_
  rw [if_neg (by omega), q1.beg, q1.1.val]
  refine RO_la q2 (by omega) fun s3 q3 => RO_pu q3 (by simp only [List.length_cons]; omega) fun s4 q4 => RO_la q4 (by simp only [List.length_cons]; omega) fun s5 q5 => RO_la q5 (by simp only [List.length_cons]; omega) fun s6 q6 => ?_
  rw [if_pos (by omega)]
  exact RO_la q6 (by simp only [List.length_cons]; omega) fun s7 q7 => RO_ret q7.1
theorem t_37d (ht : tOk tx n) {e d rn pu : Int} {lf : Bool} {V : List tT} {K : List rTs} {S : List rSg} {t : tTk} {a b c x : Int} (hT : lxG tx n false e = some t) (hc : rNo t = 1004) (hn : rn < 499) (hK : (K.length : Int) ≤ 880) : rTo tx n (e, d, rn, pu, lf, V, (37, a, b, c, x) :: K, S) (t.2.2.2.1, d, rn + 1, pu, lf, ((21, 0, 0, 0, false), .leaf) :: V, (5, 58, 0, 0, 0) :: (1, 2, 0, 0, 0) :: (3, 15, t.2.2.1, 0, V.length) :: (37, 0, 0, 0, 0) :: K, S) := by
  refine rTo_mk fun s q => rd_37 q (by omega) fun s q => ?_
  have a0 := q.at0
  rw [cS_220, cF_220_0]
  refine RO_l0 ht q hT fun s1 q1 => ?_
  have k1 := q1.tok
  rw [if_neg (by omega), if_neg (by omega), if_pos (by omega)]
  refine RO_tk ht q1 hT fun s2 q2 => ?_
  rw [if_neg (by omega), q1.beg, q1.1.val]
  refine RO_la q2 (by omega) fun s3 q3 => RO_pu q3 (by simp only [List.length_cons]; omega) fun s4 q4 => RO_la q4 (by simp only [List.length_cons]; omega) fun s5 q5 => RO_la q5 (by simp only [List.length_cons]; omega) fun s6 q6 => ?_
  rw [if_neg (by omega)]
  exact RO_bind (no_g q6 hn) fun s7 q7 => RO_ret q7.1
theorem b_37 (ht : tOk tx n) {e d rn pu : Int} {lf : Bool} {V : List tT} {K : List rTs} {S : List rSg} {t : tTk} {a b c x : Int} (hT : lxG tx n false e = some t) (hc : rNo t ≠ 125 ∧ rNo t ≠ 1001 ∧ rNo t ≠ 1004) (hK : (K.length : Int) ≤ 880) : rBd tx n (e, d, rn, pu, lf, V, (37, a, b, c, x) :: K, S) := by
  refine rBd_mk fun s q => rd_37 q (by omega) fun s q => ?_
  have a0 := q.at0
  rw [cS_220, cF_220_0]
  refine RO_l0 ht q hT fun s1 q1 => ?_
  have k1 := q1.tok
  rw [if_neg (by omega), if_neg (by omega), if_neg (by omega)]
  exact RO_bd q1 fun s2 _ g2 => RO_ret g2
theorem t_38 (ht : tOk tx n) {e d rn pu : Int} {lf : Bool} {V : List tT} {K : List rTs} {S : List rSg} {t : tTk} {a b c x : Int} (hT : lxG tx n false e = some t) (hc : rNo t = 123) (hK : (K.length : Int) ≤ 880) : rTo tx n (e, d, rn, pu, lf, V, (38, a, b, c, x) :: K, S) (t.2.2.2.1, d, rn, pu, lf, V, (1, 1, 0, 0, 0) :: (3, 1, t.2.2.1, 0, V.length) :: K, S) := by
  refine rTo_mk fun s q => rd_38 q (by omega) fun s q => ?_
  have a0 := q.at0
  rw [cS_221, cF_221_0]
  refine RO_l0 ht q hT fun s1 q1 => ?_
  have k1 := q1.tok
  rw [if_pos (by omega), q1.beg, q1.1.val]
  exact RO_pu q1 (by omega) fun s2 q2 => RO_la q2 (by simp only [List.length_cons]; omega) fun s3 q3 => RO_tk ht q3 hT fun s4 q4 => RO_ret q4.1
theorem b_38 (ht : tOk tx n) {e d rn pu : Int} {lf : Bool} {V : List tT} {K : List rTs} {S : List rSg} {t : tTk} {a b c x : Int} (hT : lxG tx n false e = some t) (hc : rNo t ≠ 123) (hK : (K.length : Int) ≤ 880) : rBd tx n (e, d, rn, pu, lf, V, (38, a, b, c, x) :: K, S) := by
  refine rBd_mk fun s q => rd_38 q (by omega) fun s q => ?_
  have a0 := q.at0
  rw [cS_221, cF_221_0]
  refine RO_l0 ht q hT fun s1 q1 => ?_
  have k1 := q1.tok
  rw [if_neg (by omega)]
  exact RO_bd q1 fun s2 _ g2 => RO_ret g2
theorem t_39y (ht : tOk tx n) {e d rn pu : Int} {lf : Bool} {V : List tT} {K : List rTs} {S : List rSg} {t : tTk} {a b c x : Int} (hT : lxG tx n false e = some t) (hc : rNo t = 1002) (hK : (K.length : Int) ≤ 880) : rTo tx n (e, d, rn, pu, lf, V, (39, a, b, c, x) :: K, S) (t.2.2.2.1, d, rn, pu, lf, V, (5, 40, 0, 0, 0) :: (41, 0, 0, 0, 0) :: (40, a, b, 1, 0) :: K, S) := by
  refine rTo_mk fun s q => rd_39 q (by omega) fun s q => ?_
  have a0 := q.at0
  rw [cS_222, cF_222_0]
  refine RO_l0 ht q hT fun s1 q1 => ?_
  have k1 := q1.tok
  rw [if_pos (by omega)]
  exact RO_pu q1 (by omega) fun s2 q2 => RO_tk ht q2 hT fun s3 q3 => RO_la q3 (by simp only [List.length_cons]; omega) fun s4 q4 => RO_la q4 (by simp only [List.length_cons]; omega) fun s5 q5 => RO_ret q5.1
theorem t_39n (ht : tOk tx n) {e d rn pu : Int} {lf : Bool} {V : List tT} {K : List rTs} {S : List rSg} {t : tTk} {a b c x : Int} (hT : lxG tx n false e = some t) (hc : rNo t ≠ 1002) (hn : rn < 499) (hK : (K.length : Int) ≤ 880) : rTo tx n (e, d, rn, pu, lf, V, (39, a, b, c, x) :: K, S) (e, d, rn + 1, pu, lf, ((21, 0, 0, 0, false), .leaf) :: V, (40, a, b, 0, 0) :: K, S) := by
  refine rTo_mk fun s q => rd_39 q (by omega) fun s q => ?_
  have a0 := q.at0
  rw [cS_222, cF_222_0]
  refine RO_l0 ht q hT fun s1 q1 => ?_
  have k1 := q1.tok
  rw [if_neg (by omega)]
  exact RO_pu q1 (by omega) fun s2 q2 => RO_bind (no_g q2 hn) fun s3 q3 => RO_ret q3.1
theorem t_40y0 (ht : tOk tx n) {e d rn pu : Int} {lf : Bool} {V : List tT} {K : List rTs} {S : List rSg} {t : tTk} {a b x : Int} (hT : lxG tx n false e = some t) (hc : rNo t = 1009) (hK : (K.length : Int) ≤ 880) : rTo tx n (e, d, rn, pu, lf, V, (40, a, b, 0, x) :: K, S) (t.2.2.2.1, d, rn, pu, lf, V, (38, 0, 0, 0, 0) :: (3, 18, a, 0, b) :: K, S) := by
  refine rTo_mk fun s q => rd_400 (c := 0) q (by omega) fun s q => ?_
  have a0 := q.at0
  rw [cS_224, cF_224_0]
  refine RO_l0 ht q hT fun s1 q1 => ?_
  have k1 := q1.tok
  rw [if_pos (by omega)]
  exact RO_tk ht q1 hT fun s2 q2 => RO_pu q2 (by omega) fun s3 q3 => RO_la q3 (by simp only [List.length_cons]; omega) fun s4 q4 => RO_ret q4.1
theorem t_40y1 (ht : tOk tx n) {e d rn pu : Int} {lf : Bool} {V : List tT} {K : List rTs} {S : List rSg} {t : tTk} {a b x : Int} (hT : lxG tx n false e = some t) (hc : rNo t = 1009) (hK : (K.length : Int) ≤ 880) : rTo tx n (e, d, rn, pu, lf, V, (40, a, b, 1, x) :: K, S) (t.2.2.2.1, d, rn, pu, lf, V, (38, 0, 0, 0, 0) :: (3, 18, a, 0, b) :: K, S) := by
  refine rTo_mk fun s q => rd_401 (c := 0) q (by omega) fun s q => ?_
  have a0 := q.at0
  rw [cS_224, cF_224_0]
  refine RO_l0 ht q hT fun s1 q1 => ?_
  have k1 := q1.tok
  rw [if_pos (by omega)]
  exact RO_tk ht q1 hT fun s2 q2 => RO_pu q2 (by omega) fun s3 q3 => RO_la q3 (by simp only [List.length_cons]; omega) fun s4 q4 => RO_ret q4.1
theorem t_40n (ht : tOk tx n) {e d rn pu : Int} {lf : Bool} {V : List tT} {K : List rTs} {S : List rSg} {t : tTk} {a b x : Int} {Vc : List tT} (hT : lxG tx n false e = some t) (hc : rNo t ≠ 1009) (hn : rn < 498) (hb : b = V.length) (hK : (K.length : Int) ≤ 880) (cc : Int) : rTo tx n (e, d, rn, pu, lf, Vc ++ V, (40, a, b, 1, x) :: K, S) (e, d, rn + 1 + 1, pu, lf, ((18, a, 0, cc, false), foR .leaf (((21, 0, 0, 0, false), .leaf) :: Vc)) :: V, K, S) := by
  refine rTo_mk fun s q => rd_401 (c := 0) q (by omega) fun s q => ?_
  have a0 := q.at0
  rw [cS_224, cF_224_0]
  refine RO_l0 ht q hT fun s1 q1 => ?_
  have k1 := q1.tok
  rw [if_neg (by omega), if_neg (by decide)]
  refine RO_bind (no_g q1 (by omega)) fun s2 q2 => ?_
  have q2' : rRt tx n (e, d, rn + 1, pu, lf, (((21, 0, 0, 0, false), .leaf) :: Vc) ++ V, K, S) t s2 := q2
  refine RO_re q2' (by omega) hb cc fun s3 q3 => RO_ret ?_
  have := q3.1
  simp only [show decide ((18 : Int) < 44 ∨ 49 < (18 : Int)) = true by decide, Bool.and_true] at this
  exact this
theorem b_40 (ht : tOk tx n) {e d rn pu : Int} {lf : Bool} {V : List tT} {K : List rTs} {S : List rSg} {t : tTk} {a b x : Int} (hT : lxG tx n false e = some t) (hc : rNo t ≠ 1009) (hK : (K.length : Int) ≤ 880) : rBd tx n (e, d, rn, pu, lf, V, (40, a, b, 0, x) :: K, S) := by
  refine rBd_mk fun s q => rd_400 (c := 0) q (by omega) fun s q => ?_
  have a0 := q.at0
  rw [cS_224, cF_224_0]
  refine RO_l0 ht q hT fun s1 q1 => ?_
  have k1 := q1.tok
  rw [if_neg (by omega), if_pos rfl]
  exact RO_bd q1 fun s2 _ g2 => RO_ret g2
theorem t_41 (ht : tOk tx n) {e d rn pu : Int} {lf : Bool} {V : List tT} {K : List rTs} {S : List rSg} {t : tTk} {a b c x : Int} (hT : lxG tx n false e = some t) (hc : rNo t = 1) (hK : (K.length : Int) ≤ 880) : rTo tx n (e, d, rn, pu, lf, V, (41, a, b, c, x) :: K, S) (t.2.2.2.1, d, rn, pu, lf, V, (5, 41, 0, 0, 0) :: (38, 0, 0, 0, 0) :: (3, 19, t.2.2.1, t.2.2.2.1 - t.2.2.1, V.length) :: K, S) := by
  refine rTo_mk fun s q => rd_41 q (by omega) fun s q => ?_
  have a0 := q.at0
  rw [cS_223, cF_223_0]
  refine RO_l0 ht q hT fun s1 q1 => ?_
  have k1 := q1.tok
  rw [if_pos (by omega), q1.len ht a0.1 a0.2 hT, q1.beg, q1.1.val]
  exact RO_pu q1 (by omega) fun s2 q2 => RO_la q2 (by simp only [List.length_cons]; omega) fun s3 q3 => RO_la q3 (by simp only [List.length_cons]; omega) fun s4 q4 => RO_tk ht q4 hT fun s5 q5 => RO_ret q5.1
theorem b_41 (ht : tOk tx n) {e d rn pu : Int} {lf : Bool} {V : List tT} {K : List rTs} {S : List rSg} {t : tTk} {a b c x : Int} (hT : lxG tx n false e = some t) (hc : rNo t ≠ 1) (hK : (K.length : Int) ≤ 880) : rBd tx n (e, d, rn, pu, lf, V, (41, a, b, c, x) :: K, S) := by
  refine rBd_mk fun s q => rd_41 q (by omega) fun s q => ?_
  have a0 := q.at0
  rw [cS_223, cF_223_0]
  refine RO_l0 ht q hT fun s1 q1 => ?_
  have k1 := q1.tok
  rw [if_neg (by omega)]
  exact RO_bd q1 fun s2 _ g2 => RO_ret g2
theorem t_2b0 (ht : tOk tx n) {e d rn pu : Int} {lf : Bool} {V : List tT} {K : List rTs} {S : List rSg} {t : tTk} {b c x : Int} (hT : lxG tx n true e = some t) (hc : rNo t = 123) (h0 : 0 ≤ d) (hd : d < 20 ∨ 20 ≤ d ∧ d ≤ 30 ∧ rNo t = 0) (hK : (K.length : Int) ≤ 870) : rTo tx n (e, d, rn, pu, lf, V, (2, 0, b, c, x) :: K, S) (e, d + 1, rn, pu, lf, V, (38, 0, 0, 0, 0) :: (4, 0, 0, 0, 0) :: K, S) := by
  refine rTo_mk fun s q => rd_20 (a := 0) q (by omega) fun s q => ?_
  have a0 := q.at0
  rw [cS_199, cF_199_0]
  refine RO_bi (en_ok ht q hT h0 hd) fun z s1 g => ?_
  obtain ⟨rfl, q1⟩ := g
  rw [if_neg (by decide)]
  refine RO_la q1 (by omega) fun s2 q2 => ?_
  have k2 := q2.tok
  rw [if_pos (by omega)]
  exact RO_la q2 (by simp only [List.length_cons]; omega) fun s3 q3 => RO_ret q3.1
theorem t_2b1 (ht : tOk tx n) {e d rn pu : Int} {lf : Bool} {V : List tT} {K : List rTs} {S : List rSg} {t : tTk} {b c x : Int} (hT : lxG tx n true e = some t) (hc : rNo t = 123) (h0 : 0 ≤ d) (hd : d < 20 ∨ 20 ≤ d ∧ d ≤ 30 ∧ rNo t = 0) (hK : (K.length : Int) ≤ 870) : rTo tx n (e, d, rn, pu, lf, V, (2, 1, b, c, x) :: K, S) (e, d + 1, rn, pu, lf, V, (38, 0, 0, 0, 0) :: (4, 0, 0, 0, 0) :: K, S) := by
  refine rTo_mk fun s q => rd_21 (a := 0) q (by omega) fun s q => ?_
  have a0 := q.at0
  rw [cS_199, cF_199_0]
  refine RO_bi (en_ok ht q hT h0 hd) fun z s1 g => ?_
  obtain ⟨rfl, q1⟩ := g
  rw [if_neg (by decide)]
  refine RO_la q1 (by omega) fun s2 q2 => ?_
  have k2 := q2.tok
  rw [if_pos (by omega)]
  exact RO_la q2 (by simp only [List.length_cons]; omega) fun s3 q3 => RO_ret q3.1
theorem t_2e0 (ht : tOk tx n) {e d rn pu : Int} {lf : Bool} {V : List tT} {K : List rTs} {S : List rSg} {t : tTk} {b c x : Int} (hT : lxG tx n true e = some t) (hc : rNo t = 59) (hn : rn < 499) (h0 : 0 ≤ d) (hd : d < 20 ∨ 20 ≤ d ∧ d ≤ 30 ∧ rNo t = 0) (hK : (K.length : Int) ≤ 870) : rTo tx n (e, d, rn, pu, lf, V, (2, 0, b, c, x) :: K, S) (t.2.2.2.1, d + 1, rn + 1, pu, lf, ((4, t.2.2.1, 0, 0, false), .leaf) :: V, (4, 0, 0, 0, 0) :: K, S) := by
  refine rTo_mk fun s q => rd_20 (a := 0) q (by omega) fun s q => ?_
  have a0 := q.at0
  rw [cS_199, cF_199_0]
  refine RO_bi (en_ok ht q hT h0 hd) fun z s1 g => ?_
  obtain ⟨rfl, q1⟩ := g
  rw [if_neg (by decide)]
  refine RO_la q1 (by omega) fun s2 q2 => ?_
  have k2 := q2.tok
  rw [if_neg (by omega), if_pos (by omega)]
  refine RO_tail ?_
  rw [cS_201, cF_201_0, q2.beg, q2.1.val]
  have q2' : rRt tx n (e, d + 1, rn, pu, lf, [] ++ V, (4, 0, 0, 0, 0) :: K, S) t s2 := q2
  refine RO_re q2' hn rfl 0 fun s3 q3 => RO_tk ht q3 hT fun s4 q4 => RO_ret ?_
  have := q4.1
  simp only [show decide ((4 : Int) < 44 ∨ 49 < (4 : Int)) = true by decide, Bool.and_true] at this
  exact this
theorem t_2e1 (ht : tOk tx n) {e d rn pu : Int} {lf : Bool} {V : List tT} {K : List rTs} {S : List rSg} {t : tTk} {b c x : Int} (hT : lxG tx n true e = some t) (hc : rNo t = 59) (hn : rn < 499) (h0 : 0 ≤ d) (hd : d < 20 ∨ 20 ≤ d ∧ d ≤ 30 ∧ rNo t = 0) (hK : (K.length : Int) ≤ 870) : rTo tx n (e, d, rn, pu, lf, V, (2, 1, b, c, x) :: K, S) (t.2.2.2.1, d + 1, rn + 1, pu, lf, ((4, t.2.2.1, 0, 0, false), .leaf) :: V, (4, 0, 0, 0, 0) :: K, S) := by
  refine rTo_mk fun s q => rd_21 (a := 0) q (by omega) fun s q => ?_
  have a0 := q.at0
  rw [cS_199, cF_199_0]
  refine RO_bi (en_ok ht q hT h0 hd) fun z s1 g => ?_
  obtain ⟨rfl, q1⟩ := g
  rw [if_neg (by decide)]
  refine RO_la q1 (by omega) fun s2 q2 => ?_
  have k2 := q2.tok
  rw [if_neg (by omega), if_pos (by omega)]
  refine RO_tail ?_
  rw [cS_201, cF_201_0, q2.beg, q2.1.val]
  have q2' : rRt tx n (e, d + 1, rn, pu, lf, [] ++ V, (4, 0, 0, 0, 0) :: K, S) t s2 := q2
  refine RO_re q2' hn rfl 0 fun s3 q3 => RO_tk ht q3 hT fun s4 q4 => RO_ret ?_
  have := q4.1
  simp only [show decide ((4 : Int) < 44 ∨ 49 < (4 : Int)) = true by decide, Bool.and_true] at this
  exact this
theorem t_2l0 (ht : tOk tx n) {e d rn pu : Int} {lf : Bool} {V : List tT} {K : List rTs} {S : List rSg} {t : tTk} {b c x : Int} (hT : lxG tx n true e = some t) {t2 : tTk} (hc : rNo t = 1) (hT2 : lxG tx n false t.2.2.2.1 = some t2) (hc2 : rNo t2 = 58) (h0 : 0 ≤ d) (hd : d < 20 ∨ 20 ≤ d ∧ d ≤ 30 ∧ rNo t = 0) (hK : (K.length : Int) ≤ 870) : rTo tx n (e, d, rn, pu, lf, V, (2, 0, b, c, x) :: K, S) (t2.2.2.2.1, d + 1, rn, pu, lf, V, (2, 0, 0, 0, 0) :: (3, 16, t.2.2.1, t.2.2.2.1 - t.2.2.1, V.length) :: (4, 0, 0, 0, 0) :: K, S) := by
  refine rTo_mk fun s q => rd_20 (a := 0) q (by omega) fun s q => ?_
  have a0 := q.at0
  rw [cS_199, cF_199_0]
  refine RO_bi (en_ok ht q hT h0 hd) fun z s1 g => ?_
  obtain ⟨rfl, q1⟩ := g
  rw [if_neg (by decide)]
  refine RO_la q1 (by omega) fun s2 q2 => ?_
  have k2 := q2.tok
  rw [if_neg (by omega), if_neg (by omega), if_pos (by omega)]
  have hL : ROI s2 (cm_sem 203 [.inr (.inl 41)] s2) fun z s' => z = 1 ∧ rR tx n (t2.2.2.2.1, d + 1, rn, pu, lf, V, (2, 0, 0, 0, 0) :: (3, 16, t.2.2.1, t.2.2.2.1 - t.2.2.1, V.length) :: (4, 0, 0, 0, 0) :: K, S) s' := by
    rw [cS_203, cF_203_0]
    refine ROI_bi (G1 := rRt tx n (t.2.2.2.1, d + 1, rn, pu, lf, V, (4, 0, 0, 0, 0) :: K, S) t) ?_ fun s3 q3 => ?_
    · obtain ⟨s3, e1, e2, e3⟩ := RO_tk ht q2 hT (f := fun s => some (.inl none, s)) (G := rRt tx n (t.2.2.2.1, d + 1, rn, pu, lf, V, (4, 0, 0, 0, 0) :: K, S) t) fun s3 q3 => RO_ret q3
      rw [cs_198, cm_bv_o] at e1
      exact ⟨s3, by rw [cs_198]; exact e1, e2, e3⟩
    · obtain ⟨s4, e1, e2, -, e4, e5, -⟩ := (cs_180 ht q3.1.1 false).1 t2 hT2
      have q4 : rRt tx n (t.2.2.2.1, d + 1, rn, pu, lf, V, (4, 0, 0, 0, 0) :: K, S) t2 s4 := ⟨⟨e4, rQ_fr q3.1.2 e2⟩, e5⟩
      refine ROI_bi (G1 := rRt tx n (t.2.2.2.1, d + 1, rn, pu, lf, V, (4, 0, 0, 0, 0) :: K, S) t2) ⟨s4, e1, e2.fm, q4⟩ fun s5 q5 => ?_
      rw [if_pos (by rw [q5.tok]; exact hc2), if_pos q5.nof, q2.len ht a0.1 a0.2 hT, q2.beg]
      refine ROI_bi (G1 := fun s' => rR tx n (t2.2.2.2.1, d + 1, rn, pu, lf, V, (4, 0, 0, 0, 0) :: K, S) s') ?_ fun s6 q6 => ?_
      · obtain ⟨s6, e1, e2, e3⟩ := RO_tk ht q5 hT2 (f := fun s => some (.inl none, s)) (G := rRt tx n (t2.2.2.2.1, d + 1, rn, pu, lf, V, (4, 0, 0, 0, 0) :: K, S) t2) fun s3 q3 => RO_ret q3
        rw [cs_198, cm_bv_o] at e1
        exact ⟨s6, by rw [cs_198]; exact e1, e2, e3.1⟩
      · have h6 : s6.1 4128 = ((((4, 0, 0, 0, 0) : rTs) :: K).length : Nat) := q6.2.2.2.2.2.1
        rw [List.length_cons] at h6
        rw [q6.val]
        refine ROI_bi ⟨_, cs_176 (by omega) _ _ _ _ _, rPu_fm _ _, rR_pu q6 _⟩ fun s7 q7 => ?_
        have h7 : s7.1 4128 = ((((3, 16, t.2.2.1, t.2.2.2.1 - t.2.2.1, (V.length : Int)) : rTs) :: (4, 0, 0, 0, 0) :: K).length : Nat) := q7.2.2.2.2.2.1
        rw [List.length_cons, List.length_cons] at h7
        refine ROI_bi ⟨_, cs_177 (by omega) _ _, rPu_fm _ _, rR_pu q7 _⟩ fun s8 q8 => ⟨1, s8, rfl, rFm_rf _, rfl, q8⟩
  refine RO_bi hL fun z s3 g => ?_
  rw [if_neg (by omega)]
  exact RO_ret g.2
theorem t_2l1 (ht : tOk tx n) {e d rn pu : Int} {lf : Bool} {V : List tT} {K : List rTs} {S : List rSg} {t : tTk} {b c x : Int} (hT : lxG tx n true e = some t) {t2 : tTk} (hc : rNo t = 1) (hT2 : lxG tx n false t.2.2.2.1 = some t2) (hc2 : rNo t2 = 58) (h0 : 0 ≤ d) (hd : d < 20 ∨ 20 ≤ d ∧ d ≤ 30 ∧ rNo t = 0) (hK : (K.length : Int) ≤ 870) : rTo tx n (e, d, rn, pu, lf, V, (2, 1, b, c, x) :: K, S) (t2.2.2.2.1, d + 1, rn, pu, lf, V, (2, 0, 0, 0, 0) :: (3, 16, t.2.2.1, t.2.2.2.1 - t.2.2.1, V.length) :: (4, 0, 0, 0, 0) :: K, S) := by
  refine rTo_mk fun s q => rd_21 (a := 0) q (by omega) fun s q => ?_
  have a0 := q.at0
  rw [cS_199, cF_199_0]
  refine RO_bi (en_ok ht q hT h0 hd) fun z s1 g => ?_
  obtain ⟨rfl, q1⟩ := g
  rw [if_neg (by decide)]
  refine RO_la q1 (by omega) fun s2 q2 => ?_
  have k2 := q2.tok
  rw [if_neg (by omega), if_neg (by omega), if_pos (by omega)]
  have hL : ROI s2 (cm_sem 203 [.inr (.inl 41)] s2) fun z s' => z = 1 ∧ rR tx n (t2.2.2.2.1, d + 1, rn, pu, lf, V, (2, 0, 0, 0, 0) :: (3, 16, t.2.2.1, t.2.2.2.1 - t.2.2.1, V.length) :: (4, 0, 0, 0, 0) :: K, S) s' := by
    rw [cS_203, cF_203_0]
    refine ROI_bi (G1 := rRt tx n (t.2.2.2.1, d + 1, rn, pu, lf, V, (4, 0, 0, 0, 0) :: K, S) t) ?_ fun s3 q3 => ?_
    · obtain ⟨s3, e1, e2, e3⟩ := RO_tk ht q2 hT (f := fun s => some (.inl none, s)) (G := rRt tx n (t.2.2.2.1, d + 1, rn, pu, lf, V, (4, 0, 0, 0, 0) :: K, S) t) fun s3 q3 => RO_ret q3
      rw [cs_198, cm_bv_o] at e1
      exact ⟨s3, by rw [cs_198]; exact e1, e2, e3⟩
    · obtain ⟨s4, e1, e2, -, e4, e5, -⟩ := (cs_180 ht q3.1.1 false).1 t2 hT2
      have q4 : rRt tx n (t.2.2.2.1, d + 1, rn, pu, lf, V, (4, 0, 0, 0, 0) :: K, S) t2 s4 := ⟨⟨e4, rQ_fr q3.1.2 e2⟩, e5⟩
      refine ROI_bi (G1 := rRt tx n (t.2.2.2.1, d + 1, rn, pu, lf, V, (4, 0, 0, 0, 0) :: K, S) t2) ⟨s4, e1, e2.fm, q4⟩ fun s5 q5 => ?_
      rw [if_pos (by rw [q5.tok]; exact hc2), if_pos q5.nof, q2.len ht a0.1 a0.2 hT, q2.beg]
      refine ROI_bi (G1 := fun s' => rR tx n (t2.2.2.2.1, d + 1, rn, pu, lf, V, (4, 0, 0, 0, 0) :: K, S) s') ?_ fun s6 q6 => ?_
      · obtain ⟨s6, e1, e2, e3⟩ := RO_tk ht q5 hT2 (f := fun s => some (.inl none, s)) (G := rRt tx n (t2.2.2.2.1, d + 1, rn, pu, lf, V, (4, 0, 0, 0, 0) :: K, S) t2) fun s3 q3 => RO_ret q3
        rw [cs_198, cm_bv_o] at e1
        exact ⟨s6, by rw [cs_198]; exact e1, e2, e3.1⟩
      · have h6 : s6.1 4128 = ((((4, 0, 0, 0, 0) : rTs) :: K).length : Nat) := q6.2.2.2.2.2.1
        rw [List.length_cons] at h6
        rw [q6.val]
        refine ROI_bi ⟨_, cs_176 (by omega) _ _ _ _ _, rPu_fm _ _, rR_pu q6 _⟩ fun s7 q7 => ?_
        have h7 : s7.1 4128 = ((((3, 16, t.2.2.1, t.2.2.2.1 - t.2.2.1, (V.length : Int)) : rTs) :: (4, 0, 0, 0, 0) :: K).length : Nat) := q7.2.2.2.2.2.1
        rw [List.length_cons, List.length_cons] at h7
        refine ROI_bi ⟨_, cs_177 (by omega) _ _, rPu_fm _ _, rR_pu q7 _⟩ fun s8 q8 => ⟨1, s8, rfl, rFm_rf _, rfl, q8⟩
  refine RO_bi hL fun z s3 g => ?_
  rw [if_neg (by omega)]
  exact RO_ret g.2
theorem b_2ln0 (ht : tOk tx n) {e d rn pu : Int} {lf : Bool} {V : List tT} {K : List rTs} {S : List rSg} {t : tTk} {b c x : Int} (hT : lxG tx n true e = some t) (hc : rNo t = 1) (hN : lxG tx n false t.2.2.2.1 = none) (h0 : 0 ≤ d) (hd : d < 20 ∨ 20 ≤ d ∧ d ≤ 30 ∧ rNo t = 0) (hK : (K.length : Int) ≤ 870) : rBd tx n (e, d, rn, pu, lf, V, (2, 0, b, c, x) :: K, S) := by
  refine rBd_mk fun s q => rd_20 (a := 0) q (by omega) fun s q => ?_
  have a0 := q.at0
  rw [cS_199, cF_199_0]
  refine RO_bi (en_ok ht q hT h0 hd) fun z s1 g => ?_
  obtain ⟨rfl, q1⟩ := g
  rw [if_neg (by decide)]
  refine RO_la q1 (by omega) fun s2 q2 => ?_
  have k2 := q2.tok
  rw [if_neg (by omega), if_neg (by omega), if_pos (by omega)]
  have hL : ROI s2 (cm_sem 203 [.inr (.inl 41)] s2) fun z s' => z = 1 ∧ gB s' := by
    rw [cS_203, cF_203_0]
    refine ROI_bi (G1 := rRt tx n (t.2.2.2.1, d + 1, rn, pu, lf, V, (4, 0, 0, 0, 0) :: K, S) t) ?_ fun s3 q3 => ?_
    · obtain ⟨s3, e1, e2, e3⟩ := RO_tk ht q2 hT (f := fun s => some (.inl none, s)) (G := rRt tx n (t.2.2.2.1, d + 1, rn, pu, lf, V, (4, 0, 0, 0, 0) :: K, S) t) fun s3 q3 => RO_ret q3
      rw [cs_198, cm_bv_o] at e1
      exact ⟨s3, by rw [cs_198]; exact e1, e2, e3⟩
    · obtain ⟨s4, e1, e2, e3, -⟩ := (cs_180 ht q3.1.1 false).2 hN
      refine ROI_bi (G1 := fun s' => s'.1 4108 = 1) ⟨s4, e1, e2.fm, e3⟩ fun s5 f5 => ?_
      have fin : ROI s5 (some (.inl (some (.inl 1)), cm_p (cm_p s5 4114 (s2.1 4114)) 4116 0)) fun z s' => z = 1 ∧ gB s' := by
        refine ⟨1, _, rfl, rFm_p (rFm_p (rFm_rf s5) (by omega)) (by omega), rfl, ?_⟩
        unfold gB
        rw [cm_p_ne (by decide), cm_p_ne (by decide)]
        omega
      by_cases h58 : s5.1 4111 = 58
      · rw [if_pos h58, if_neg (by omega), if_neg (by omega), if_pos (by omega)]; exact fin
      · rw [if_neg h58, if_neg (by omega), if_pos (by omega)]; exact fin
  refine RO_bi hL fun z s3 g => ?_
  rw [if_neg (by omega)]
  exact RO_ret g.2
theorem b_2ln1 (ht : tOk tx n) {e d rn pu : Int} {lf : Bool} {V : List tT} {K : List rTs} {S : List rSg} {t : tTk} {b c x : Int} (hT : lxG tx n true e = some t) (hc : rNo t = 1) (hN : lxG tx n false t.2.2.2.1 = none) (h0 : 0 ≤ d) (hd : d < 20 ∨ 20 ≤ d ∧ d ≤ 30 ∧ rNo t = 0) (hK : (K.length : Int) ≤ 870) : rBd tx n (e, d, rn, pu, lf, V, (2, 1, b, c, x) :: K, S) := by
  refine rBd_mk fun s q => rd_21 (a := 0) q (by omega) fun s q => ?_
  have a0 := q.at0
  rw [cS_199, cF_199_0]
  refine RO_bi (en_ok ht q hT h0 hd) fun z s1 g => ?_
  obtain ⟨rfl, q1⟩ := g
  rw [if_neg (by decide)]
  refine RO_la q1 (by omega) fun s2 q2 => ?_
  have k2 := q2.tok
  rw [if_neg (by omega), if_neg (by omega), if_pos (by omega)]
  have hL : ROI s2 (cm_sem 203 [.inr (.inl 41)] s2) fun z s' => z = 1 ∧ gB s' := by
    rw [cS_203, cF_203_0]
    refine ROI_bi (G1 := rRt tx n (t.2.2.2.1, d + 1, rn, pu, lf, V, (4, 0, 0, 0, 0) :: K, S) t) ?_ fun s3 q3 => ?_
    · obtain ⟨s3, e1, e2, e3⟩ := RO_tk ht q2 hT (f := fun s => some (.inl none, s)) (G := rRt tx n (t.2.2.2.1, d + 1, rn, pu, lf, V, (4, 0, 0, 0, 0) :: K, S) t) fun s3 q3 => RO_ret q3
      rw [cs_198, cm_bv_o] at e1
      exact ⟨s3, by rw [cs_198]; exact e1, e2, e3⟩
    · obtain ⟨s4, e1, e2, e3, -⟩ := (cs_180 ht q3.1.1 false).2 hN
      refine ROI_bi (G1 := fun s' => s'.1 4108 = 1) ⟨s4, e1, e2.fm, e3⟩ fun s5 f5 => ?_
      have fin : ROI s5 (some (.inl (some (.inl 1)), cm_p (cm_p s5 4114 (s2.1 4114)) 4116 0)) fun z s' => z = 1 ∧ gB s' := by
        refine ⟨1, _, rfl, rFm_p (rFm_p (rFm_rf s5) (by omega)) (by omega), rfl, ?_⟩
        unfold gB
        rw [cm_p_ne (by decide), cm_p_ne (by decide)]
        omega
      by_cases h58 : s5.1 4111 = 58
      · rw [if_pos h58, if_neg (by omega), if_neg (by omega), if_pos (by omega)]; exact fin
      · rw [if_neg h58, if_neg (by omega), if_pos (by omega)]; exact fin
  refine RO_bi hL fun z s3 g => ?_
  rw [if_neg (by omega)]
  exact RO_ret g.2
theorem st_x {e d rn pu : Int} {lf : Bool} {V : List tT} {K : List rTs} {S : List rSg} {t : tTk} {f b : Int} {s : cm_S} (q : rRt tx n (e, d, rn, pu, lf, V, K, S) t s) (hc : rNo t < 1000 ∨ rNo t ≠ 1011 ∧ rNo t ≠ 1024 ∧ rNo t ≠ 1020 ∧ rNo t ≠ 1017 ∧ rNo t ≠ 1000 ∧ rNo t ≠ 1003 ∧ rNo t ≠ 1012 ∧ rNo t ≠ 1006 ∧ rNo t ≠ 1026 ∧ rNo t ≠ 1010 ∧ rNo t ≠ 1018 ∧ rNo t ≠ 1022) (hK : (K.length : Int) ≤ 880) : RO s (cm_lp cm_sem cm_k199 41 [some (.inr (.inl 41)), some (.inl f), some (.inl b), some (.inl (V.length : Int))] [] s) (rR tx n (e, d, rn, pu, lf, V, (7, 0, 0, 0, 0) :: (6, 0, 0, 0, 0) :: (3, 5, b, 0, V.length) :: K, S)) := by
  rw [cE_199_41, cF_199_41]
  have k := q.tok
  have fin : RO s (cm_bv (cm_sem 176 [.inr (.inl 41), .inl 3, .inl 5, .inl b, .inl 0, .inl (V.length : Int)] s) fun s12 => cm_bv (cm_sem 177 [.inr (.inl 41), .inl 6, .inl 0] s12) fun s13 => cm_bv (cm_sem 177 [.inr (.inl 41), .inl 7, .inl 0] s13) fun s14 => some (.inl none, s14)) (rR tx n (e, d, rn, pu, lf, V, (7, 0, 0, 0, 0) :: (6, 0, 0, 0, 0) :: (3, 5, b, 0, V.length) :: K, S)) := RO_pu q (by omega) fun s1 q1 => RO_la q1 (by simp only [List.length_cons]; omega) fun s2 q2 => RO_la q2 (by simp only [List.length_cons]; omega) fun s3 q3 => RO_ret q3.1
  rw [if_neg (by omega), if_neg (by omega), if_neg (by omega), if_neg (by omega), if_neg (by omega), if_neg (by omega)]
  refine RO_ite (fun _ => fin) fun h => ?_
  rw [cS_207, cF_207_0, if_neg (by omega), if_neg (by omega), if_neg (by omega), if_neg (by omega), if_neg (by omega), if_neg (by omega), cm_bi_i, if_pos rfl]
  exact fin
theorem t_2x0 (ht : tOk tx n) {e d rn pu : Int} {lf : Bool} {V : List tT} {K : List rTs} {S : List rSg} {t : tTk} {b c x : Int} (hT : lxG tx n true e = some t) (hc : rNo t ≠ 123 ∧ rNo t ≠ 59 ∧ rNo t ≠ 1) (hx : rNo t < 1000 ∨ rNo t ≠ 1011 ∧ rNo t ≠ 1024 ∧ rNo t ≠ 1020 ∧ rNo t ≠ 1017 ∧ rNo t ≠ 1000 ∧ rNo t ≠ 1003 ∧ rNo t ≠ 1012 ∧ rNo t ≠ 1006 ∧ rNo t ≠ 1026 ∧ rNo t ≠ 1010 ∧ rNo t ≠ 1018 ∧ rNo t ≠ 1022) (h0 : 0 ≤ d) (hd : d < 20 ∨ 20 ≤ d ∧ d ≤ 30 ∧ rNo t = 0) (hK : (K.length : Int) ≤ 870) : rTo tx n (e, d, rn, pu, lf, V, (2, 0, b, c, x) :: K, S) (e, d + 1, rn, pu, lf, V, (7, 0, 0, 0, 0) :: (6, 0, 0, 0, 0) :: (3, 5, t.2.2.1, 0, V.length) :: (4, 0, 0, 0, 0) :: K, S) := by
  refine rTo_mk fun s q => rd_20 (a := 0) q (by omega) fun s q => ?_
  have a0 := q.at0
  rw [cS_199, cF_199_0]
  refine RO_bi (en_ok ht q hT h0 hd) fun z s1 g => ?_
  obtain ⟨rfl, q1⟩ := g
  rw [if_neg (by decide)]
  refine RO_la q1 (by omega) fun s2 q2 => ?_
  have k2 := q2.tok
  rw [if_neg (by omega), if_neg (by omega), if_neg (by omega), q2.beg, q2.1.val]
  exact st_x q2 hx (by simp only [List.length_cons]; omega)
theorem t_2x1 (ht : tOk tx n) {e d rn pu : Int} {lf : Bool} {V : List tT} {K : List rTs} {S : List rSg} {t : tTk} {b c x : Int} (hT : lxG tx n true e = some t) (hc : rNo t ≠ 123 ∧ rNo t ≠ 59 ∧ rNo t ≠ 1) (hx : rNo t < 1000 ∨ rNo t ≠ 1011 ∧ rNo t ≠ 1024 ∧ rNo t ≠ 1020 ∧ rNo t ≠ 1017 ∧ rNo t ≠ 1000 ∧ rNo t ≠ 1003 ∧ rNo t ≠ 1012 ∧ rNo t ≠ 1006 ∧ rNo t ≠ 1026 ∧ rNo t ≠ 1010 ∧ rNo t ≠ 1018 ∧ rNo t ≠ 1022) (h0 : 0 ≤ d) (hd : d < 20 ∨ 20 ≤ d ∧ d ≤ 30 ∧ rNo t = 0) (hK : (K.length : Int) ≤ 870) : rTo tx n (e, d, rn, pu, lf, V, (2, 1, b, c, x) :: K, S) (e, d + 1, rn, pu, lf, V, (7, 0, 0, 0, 0) :: (6, 0, 0, 0, 0) :: (3, 5, t.2.2.1, 0, V.length) :: (4, 0, 0, 0, 0) :: K, S) := by
  refine rTo_mk fun s q => rd_21 (a := 0) q (by omega) fun s q => ?_
  have a0 := q.at0
  rw [cS_199, cF_199_0]
  refine RO_bi (en_ok ht q hT h0 hd) fun z s1 g => ?_
  obtain ⟨rfl, q1⟩ := g
  rw [if_neg (by decide)]
  refine RO_la q1 (by omega) fun s2 q2 => ?_
  have k2 := q2.tok
  rw [if_neg (by omega), if_neg (by omega), if_neg (by omega), q2.beg, q2.1.val]
  exact st_x q2 hx (by simp only [List.length_cons]; omega)
theorem t_2n0 (ht : tOk tx n) {e d rn pu : Int} {lf : Bool} {V : List tT} {K : List rTs} {S : List rSg} {t : tTk} {b c x : Int} (hT : lxG tx n true e = some t) {t2 : tTk} (hc : rNo t = 1) (hT2 : lxG tx n false t.2.2.2.1 = some t2) (hc2 : rNo t2 ≠ 58) (h0 : 0 ≤ d) (hd : d < 20 ∨ 20 ≤ d ∧ d ≤ 30 ∧ rNo t = 0) (hK : (K.length : Int) ≤ 870) : rTo tx n (e, d, rn, pu, lf, V, (2, 0, b, c, x) :: K, S) (e, d + 1, rn, pu, lf, V, (7, 0, 0, 0, 0) :: (6, 0, 0, 0, 0) :: (3, 5, t.2.2.1, 0, V.length) :: (4, 0, 0, 0, 0) :: K, S) := by
  refine rTo_mk fun s q => rd_20 (a := 0) q (by omega) fun s q => ?_
  have a0 := q.at0
  rw [cS_199, cF_199_0]
  refine RO_bi (en_ok ht q hT h0 hd) fun z s1 g => ?_
  obtain ⟨rfl, q1⟩ := g
  rw [if_neg (by decide)]
  refine RO_la q1 (by omega) fun s2 q2 => ?_
  have k2 := q2.tok
  rw [if_neg (by omega), if_neg (by omega), if_pos (by omega)]
  have h14 : s2.1 4114 = e := q2.1.1.2.2.2.1
  have hL : ROI s2 (cm_sem 203 [.inr (.inl 41)] s2) fun z s' => z = 0 ∧ rRt tx n (e, d + 1, rn, pu, lf, V, (4, 0, 0, 0, 0) :: K, S) t s' := by
    rw [cS_203, cF_203_0]
    refine ROI_bi (G1 := rRt tx n (t.2.2.2.1, d + 1, rn, pu, lf, V, (4, 0, 0, 0, 0) :: K, S) t) ?_ fun s3 q3 => ?_
    · obtain ⟨s3, e1, e2, e3⟩ := RO_tk ht q2 hT (f := fun s => some (.inl none, s)) (G := rRt tx n (t.2.2.2.1, d + 1, rn, pu, lf, V, (4, 0, 0, 0, 0) :: K, S) t) fun s3 q3 => RO_ret q3
      rw [cs_198, cm_bv_o] at e1
      exact ⟨s3, by rw [cs_198]; exact e1, e2, e3⟩
    · obtain ⟨s4, e1, e2, -, e4, e5, -⟩ := (cs_180 ht q3.1.1 false).1 t2 hT2
      have q4 : rRt tx n (t.2.2.2.1, d + 1, rn, pu, lf, V, (4, 0, 0, 0, 0) :: K, S) t2 s4 := ⟨⟨e4, rQ_fr q3.1.2 e2⟩, e5⟩
      refine ROI_bi (G1 := rRt tx n (t.2.2.2.1, d + 1, rn, pu, lf, V, (4, 0, 0, 0, 0) :: K, S) t2) ⟨s4, e1, e2.fm, q4⟩ fun s5 q5 => ?_
      rw [if_neg (by rw [q5.tok]; exact hc2), if_pos q5.nof, h14]
      have q6 : rR tx n (e, d + 1, rn, pu, lf, V, (4, 0, 0, 0, 0) :: K, S) (cm_p (cm_p s5 4114 e) 4116 0) := by
        obtain ⟨b1, b2, b3, b4, b5, b6⟩ := q5.1.1
        exact ⟨⟨rTx_p (rTx_p b1 (by decide)) (by decide), a0.1, a0.2, by rw [cm_p_ne (by decide), cm_p_at], by rw [cm_p_ne (by decide), cm_p_ne (by decide)]; exact b5, Or.inl cm_p_at⟩, rQ_p (rQ_p q5.1.2 (by decide)) (by decide)⟩
      obtain ⟨s7, e1, e2, -, e4, e5, -⟩ := (cs_180 ht q6.1 true).1 t hT
      have q7 : rRt tx n (e, d + 1, rn, pu, lf, V, (4, 0, 0, 0, 0) :: K, S) t s7 := ⟨⟨e4, rQ_fr q6.2 e2⟩, e5⟩
      have fm : rFm s5 s7 := (rFm_p (rFm_p (rFm_rf s5) (by omega)) (by omega)).tr e2.fm
      refine ROI_bi (G1 := rRt tx n (e, d + 1, rn, pu, lf, V, (4, 0, 0, 0, 0) :: K, S) t) ⟨s7, e1, fm, q7⟩ fun s8 q8 => ?_
      rw [if_neg (by rw [q8.nof]; decide)]
      exact ⟨0, s8, rfl, rFm_rf _, rfl, q8⟩
  rw [q2.beg, q2.1.val]
  refine RO_bi hL fun z s3 g => ?_
  rw [if_pos g.1]
  exact st_x g.2 (by omega) (by simp only [List.length_cons]; omega)
theorem t_2n1 (ht : tOk tx n) {e d rn pu : Int} {lf : Bool} {V : List tT} {K : List rTs} {S : List rSg} {t : tTk} {b c x : Int} (hT : lxG tx n true e = some t) {t2 : tTk} (hc : rNo t = 1) (hT2 : lxG tx n false t.2.2.2.1 = some t2) (hc2 : rNo t2 ≠ 58) (h0 : 0 ≤ d) (hd : d < 20 ∨ 20 ≤ d ∧ d ≤ 30 ∧ rNo t = 0) (hK : (K.length : Int) ≤ 870) : rTo tx n (e, d, rn, pu, lf, V, (2, 1, b, c, x) :: K, S) (e, d + 1, rn, pu, lf, V, (7, 0, 0, 0, 0) :: (6, 0, 0, 0, 0) :: (3, 5, t.2.2.1, 0, V.length) :: (4, 0, 0, 0, 0) :: K, S) := by
  refine rTo_mk fun s q => rd_21 (a := 0) q (by omega) fun s q => ?_
  have a0 := q.at0
  rw [cS_199, cF_199_0]
  refine RO_bi (en_ok ht q hT h0 hd) fun z s1 g => ?_
  obtain ⟨rfl, q1⟩ := g
  rw [if_neg (by decide)]
  refine RO_la q1 (by omega) fun s2 q2 => ?_
  have k2 := q2.tok
  rw [if_neg (by omega), if_neg (by omega), if_pos (by omega)]
  have h14 : s2.1 4114 = e := q2.1.1.2.2.2.1
  have hL : ROI s2 (cm_sem 203 [.inr (.inl 41)] s2) fun z s' => z = 0 ∧ rRt tx n (e, d + 1, rn, pu, lf, V, (4, 0, 0, 0, 0) :: K, S) t s' := by
    rw [cS_203, cF_203_0]
    refine ROI_bi (G1 := rRt tx n (t.2.2.2.1, d + 1, rn, pu, lf, V, (4, 0, 0, 0, 0) :: K, S) t) ?_ fun s3 q3 => ?_
    · obtain ⟨s3, e1, e2, e3⟩ := RO_tk ht q2 hT (f := fun s => some (.inl none, s)) (G := rRt tx n (t.2.2.2.1, d + 1, rn, pu, lf, V, (4, 0, 0, 0, 0) :: K, S) t) fun s3 q3 => RO_ret q3
      rw [cs_198, cm_bv_o] at e1
      exact ⟨s3, by rw [cs_198]; exact e1, e2, e3⟩
    · obtain ⟨s4, e1, e2, -, e4, e5, -⟩ := (cs_180 ht q3.1.1 false).1 t2 hT2
      have q4 : rRt tx n (t.2.2.2.1, d + 1, rn, pu, lf, V, (4, 0, 0, 0, 0) :: K, S) t2 s4 := ⟨⟨e4, rQ_fr q3.1.2 e2⟩, e5⟩
      refine ROI_bi (G1 := rRt tx n (t.2.2.2.1, d + 1, rn, pu, lf, V, (4, 0, 0, 0, 0) :: K, S) t2) ⟨s4, e1, e2.fm, q4⟩ fun s5 q5 => ?_
      rw [if_neg (by rw [q5.tok]; exact hc2), if_pos q5.nof, h14]
      have q6 : rR tx n (e, d + 1, rn, pu, lf, V, (4, 0, 0, 0, 0) :: K, S) (cm_p (cm_p s5 4114 e) 4116 0) := by
        obtain ⟨b1, b2, b3, b4, b5, b6⟩ := q5.1.1
        exact ⟨⟨rTx_p (rTx_p b1 (by decide)) (by decide), a0.1, a0.2, by rw [cm_p_ne (by decide), cm_p_at], by rw [cm_p_ne (by decide), cm_p_ne (by decide)]; exact b5, Or.inl cm_p_at⟩, rQ_p (rQ_p q5.1.2 (by decide)) (by decide)⟩
      obtain ⟨s7, e1, e2, -, e4, e5, -⟩ := (cs_180 ht q6.1 true).1 t hT
      have q7 : rRt tx n (e, d + 1, rn, pu, lf, V, (4, 0, 0, 0, 0) :: K, S) t s7 := ⟨⟨e4, rQ_fr q6.2 e2⟩, e5⟩
      have fm : rFm s5 s7 := (rFm_p (rFm_p (rFm_rf s5) (by omega)) (by omega)).tr e2.fm
      refine ROI_bi (G1 := rRt tx n (e, d + 1, rn, pu, lf, V, (4, 0, 0, 0, 0) :: K, S) t) ⟨s7, e1, fm, q7⟩ fun s8 q8 => ?_
      rw [if_neg (by rw [q8.nof]; decide)]
      exact ⟨0, s8, rfl, rFm_rf _, rfl, q8⟩
  rw [q2.beg, q2.1.val]
  refine RO_bi hL fun z s3 g => ?_
  rw [if_pos g.1]
  exact st_x g.2 (by omega) (by simp only [List.length_cons]; omega)
theorem t_2fn (ht : tOk tx n) {e d rn pu : Int} {lf : Bool} {V : List tT} {K : List rTs} {S : List rSg} {t : tTk} {b c x : Int} (hT : lxG tx n true e = some t) {t2 : tTk} (hc : rNo t = 1011) (hT2 : lxG tx n false t.2.2.2.1 = some t2) (hc2 : rNo t2 = 1) (h0 : 0 ≤ d) (hd : d < 20 ∨ 20 ≤ d ∧ d ≤ 30 ∧ rNo t = 0) (hK : (K.length : Int) ≤ 870) : rTo tx n (e, d, rn, pu, lf, V, (2, 1, b, c, x) :: K, S) (t2.2.2.2.1, d + 1, rn, pu, lf, V, (5, 40, 0, 0, 0) :: (25, 1, 0, 0, 0) :: (27, 0, 0, 0, 0) :: (3, 20, t2.2.2.1, t2.2.2.2.1 - t2.2.2.1, V.length) :: (4, 0, 0, 0, 0) :: K, S) := by
  refine rTo_mk fun s q => rd_21 (a := 0) q (by omega) fun s q => ?_
  have a0 := q.at0
  rw [cS_199, cF_199_0]
  refine RO_bi (en_ok ht q hT h0 hd) fun z s1 g => ?_
  obtain ⟨rfl, q1⟩ := g
  rw [if_neg (by decide)]
  refine RO_la q1 (by omega) fun s2 q2 => ?_
  have k2 := q2.tok
  rw [if_neg (by omega), if_neg (by omega), if_neg (by omega), cE_199_41, cF_199_41, if_pos (by omega), if_neg (by decide)]
  exact RO_tail (fn_n ht q2 hT hT2 hc2 (by simp only [List.length_cons]; omega))
theorem b_2fb (ht : tOk tx n) {e d rn pu : Int} {lf : Bool} {V : List tT} {K : List rTs} {S : List rSg} {t : tTk} {b c x : Int} (hT : lxG tx n true e = some t) {t2 : tTk} (hc : rNo t = 1011) (hT2 : lxG tx n false t.2.2.2.1 = some t2) (hc2 : rNo t2 ≠ 1) (hr : rn ≤ 486) (h0 : 0 ≤ d) (hd : d < 20 ∨ 20 ≤ d ∧ d ≤ 30 ∧ rNo t = 0) (hK : (K.length : Int) ≤ 870) : rBd tx n (e, d, rn, pu, lf, V, (2, 1, b, c, x) :: K, S) := by
  refine rBd_mk fun s q => rd_21 (a := 0) q (by omega) fun s q => ?_
  have a0 := q.at0
  rw [cS_199, cF_199_0]
  refine RO_bi (en_ok ht q hT h0 hd) fun z s1 g => ?_
  obtain ⟨rfl, q1⟩ := g
  rw [if_neg (by decide)]
  refine RO_la q1 (by omega) fun s2 q2 => ?_
  have k2 := q2.tok
  rw [if_neg (by omega), if_neg (by omega), if_neg (by omega), cE_199_41, cF_199_41, if_pos (by omega), if_neg (by decide)]
  exact RO_tail (fn_b ht q2 hT hT2 hc2 hr (by simp only [List.length_cons]; omega))
theorem b_2fd (ht : tOk tx n) {e d rn pu : Int} {lf : Bool} {V : List tT} {K : List rTs} {S : List rSg} {t : tTk} {b c x : Int} (hT : lxG tx n true e = some t) (hc : rNo t = 1011) (hN : lxG tx n false t.2.2.2.1 = none) (hr : rn ≤ 486) (h0 : 0 ≤ d) (hd : d < 20 ∨ 20 ≤ d ∧ d ≤ 30 ∧ rNo t = 0) (hK : (K.length : Int) ≤ 870) : rBd tx n (e, d, rn, pu, lf, V, (2, 1, b, c, x) :: K, S) := by
  refine rBd_mk fun s q => rd_21 (a := 0) q (by omega) fun s q => ?_
  have a0 := q.at0
  rw [cS_199, cF_199_0]
  refine RO_bi (en_ok ht q hT h0 hd) fun z s1 g => ?_
  obtain ⟨rfl, q1⟩ := g
  rw [if_neg (by decide)]
  refine RO_la q1 (by omega) fun s2 q2 => ?_
  have k2 := q2.tok
  rw [if_neg (by omega), if_neg (by omega), if_neg (by omega), cE_199_41, cF_199_41, if_pos (by omega), if_neg (by decide)]
  exact RO_tail (fn_d ht q2 hT hN hr (by simp only [List.length_cons]; omega))
theorem b_2f (ht : tOk tx n) {e d rn pu : Int} {lf : Bool} {V : List tT} {K : List rTs} {S : List rSg} {t : tTk} {b c x : Int} (hT : lxG tx n true e = some t) (hc : rNo t = 1011) (h0 : 0 ≤ d) (hd : d < 20 ∨ 20 ≤ d ∧ d ≤ 30 ∧ rNo t = 0) (hK : (K.length : Int) ≤ 870) : rBd tx n (e, d, rn, pu, lf, V, (2, 0, b, c, x) :: K, S) := by
  refine rBd_mk fun s q => rd_20 (a := 0) q (by omega) fun s q => ?_
  have a0 := q.at0
  rw [cS_199, cF_199_0]
  refine RO_bi (en_ok ht q hT h0 hd) fun z s1 g => ?_
  obtain ⟨rfl, q1⟩ := g
  rw [if_neg (by decide)]
  refine RO_la q1 (by omega) fun s2 q2 => ?_
  have k2 := q2.tok
  rw [if_neg (by omega), if_neg (by omega), if_neg (by omega), cE_199_41, cF_199_41, if_pos (by omega), if_pos rfl]
  exact RO_bd q2 fun s3 _ g3 => RO_ret g3
theorem t_2v0 (ht : tOk tx n) {e d rn pu : Int} {lf : Bool} {V : List tT} {K : List rTs} {S : List rSg} {t : tTk} {b c x : Int} (hT : lxG tx n true e = some t) (hc : rNo t = 1024) (h0 : 0 ≤ d) (hd : d < 20 ∨ 20 ≤ d ∧ d ≤ 30 ∧ rNo t = 0) (hK : (K.length : Int) ≤ 870) : rTo tx n (e, d, rn, pu, lf, V, (2, 0, b, c, x) :: K, S) (t.2.2.2.1, d + 1, rn, pu, lf, V, (29, 0, 0, 0, 0) :: (6, 0, 0, 0, 0) :: (3, 2, t.2.2.1, 0, V.length) :: (4, 0, 0, 0, 0) :: K, S) := by
  refine rTo_mk fun s q => rd_20 (a := 0) q (by omega) fun s q => ?_
  have a0 := q.at0
  rw [cS_199, cF_199_0]
  refine RO_bi (en_ok ht q hT h0 hd) fun z s1 g => ?_
  obtain ⟨rfl, q1⟩ := g
  rw [if_neg (by decide)]
  refine RO_la q1 (by omega) fun s2 q2 => ?_
  have k2 := q2.tok
  rw [if_neg (by omega), if_neg (by omega), if_neg (by omega), cE_199_41, cF_199_41, if_neg (by omega), if_pos (by omega)]
  refine RO_tail ?_
  rw [cS_206, cF_206_0, q2.beg, q2.1.val]
  refine RO_tk ht q2 hT fun s3 q3 => ?_
  rw [if_pos (by omega)]
  exact RO_pu q3 (by simp only [List.length_cons]; omega) fun s4 q4 => RO_la q4 (by simp only [List.length_cons]; omega) fun s5 q5 => RO_la q5 (by simp only [List.length_cons]; omega) fun s6 q6 => RO_ret q6.1
theorem t_2v1 (ht : tOk tx n) {e d rn pu : Int} {lf : Bool} {V : List tT} {K : List rTs} {S : List rSg} {t : tTk} {b c x : Int} (hT : lxG tx n true e = some t) (hc : rNo t = 1024) (h0 : 0 ≤ d) (hd : d < 20 ∨ 20 ≤ d ∧ d ≤ 30 ∧ rNo t = 0) (hK : (K.length : Int) ≤ 870) : rTo tx n (e, d, rn, pu, lf, V, (2, 1, b, c, x) :: K, S) (t.2.2.2.1, d + 1, rn, pu, lf, V, (29, 0, 0, 0, 0) :: (6, 0, 0, 0, 0) :: (3, 2, t.2.2.1, 0, V.length) :: (4, 0, 0, 0, 0) :: K, S) := by
  refine rTo_mk fun s q => rd_21 (a := 0) q (by omega) fun s q => ?_
  have a0 := q.at0
  rw [cS_199, cF_199_0]
  refine RO_bi (en_ok ht q hT h0 hd) fun z s1 g => ?_
  obtain ⟨rfl, q1⟩ := g
  rw [if_neg (by decide)]
  refine RO_la q1 (by omega) fun s2 q2 => ?_
  have k2 := q2.tok
  rw [if_neg (by omega), if_neg (by omega), if_neg (by omega), cE_199_41, cF_199_41, if_neg (by omega), if_pos (by omega)]
  refine RO_tail ?_
  rw [cS_206, cF_206_0, q2.beg, q2.1.val]
  refine RO_tk ht q2 hT fun s3 q3 => ?_
  rw [if_pos (by omega)]
  exact RO_pu q3 (by simp only [List.length_cons]; omega) fun s4 q4 => RO_la q4 (by simp only [List.length_cons]; omega) fun s5 q5 => RO_la q5 (by simp only [List.length_cons]; omega) fun s6 q6 => RO_ret q6.1
theorem t_2t0 (ht : tOk tx n) {e d rn pu : Int} {lf : Bool} {V : List tT} {K : List rTs} {S : List rSg} {t : tTk} {b c x : Int} (hT : lxG tx n true e = some t) {t2 : tTk} (hc : rNo t = 1020) (hT2 : lxG tx n false t.2.2.2.1 = some t2) (hl : t2.2.2.2.2 = false) (h0 : 0 ≤ d) (hd : d < 20 ∨ 20 ≤ d ∧ d ≤ 30 ∧ rNo t = 0) (hK : (K.length : Int) ≤ 870) : rTo tx n (e, d, rn, pu, lf, V, (2, 0, b, c, x) :: K, S) (t.2.2.2.1, d + 1, rn, pu, lf, V, (7, 0, 0, 0, 0) :: (6, 0, 0, 0, 0) :: (3, 17, t.2.2.1, 0, V.length) :: (4, 0, 0, 0, 0) :: K, S) := by
  refine rTo_mk fun s q => rd_20 (a := 0) q (by omega) fun s q => ?_
  have a0 := q.at0
  rw [cS_199, cF_199_0]
  refine RO_bi (en_ok ht q hT h0 hd) fun z s1 g => ?_
  obtain ⟨rfl, q1⟩ := g
  rw [if_neg (by decide)]
  refine RO_la q1 (by omega) fun s2 q2 => ?_
  have k2 := q2.tok
  rw [if_neg (by omega), if_neg (by omega), if_neg (by omega), cE_199_41, cF_199_41, if_neg (by omega), if_neg (by omega), if_pos (by omega)]
  refine RO_tail ?_
  rw [cS_206, cF_206_0, q2.beg, q2.1.val]
  refine RO_tk ht q2 hT fun s3 q3 => ?_
  rw [if_neg (by omega), if_pos (by omega)]
  refine RO_l0 ht q3.1 hT2 fun s4 q4 => ?_
  rw [if_pos (by rw [q4.lin, hl]; rfl)]
  exact RO_pu q4 (by simp only [List.length_cons]; omega) fun s5 q5 => RO_la q5 (by simp only [List.length_cons]; omega) fun s6 q6 => RO_la q6 (by simp only [List.length_cons]; omega) fun s7 q7 => RO_ret q7.1
theorem t_2t1 (ht : tOk tx n) {e d rn pu : Int} {lf : Bool} {V : List tT} {K : List rTs} {S : List rSg} {t : tTk} {b c x : Int} (hT : lxG tx n true e = some t) {t2 : tTk} (hc : rNo t = 1020) (hT2 : lxG tx n false t.2.2.2.1 = some t2) (hl : t2.2.2.2.2 = false) (h0 : 0 ≤ d) (hd : d < 20 ∨ 20 ≤ d ∧ d ≤ 30 ∧ rNo t = 0) (hK : (K.length : Int) ≤ 870) : rTo tx n (e, d, rn, pu, lf, V, (2, 1, b, c, x) :: K, S) (t.2.2.2.1, d + 1, rn, pu, lf, V, (7, 0, 0, 0, 0) :: (6, 0, 0, 0, 0) :: (3, 17, t.2.2.1, 0, V.length) :: (4, 0, 0, 0, 0) :: K, S) := by
  refine rTo_mk fun s q => rd_21 (a := 0) q (by omega) fun s q => ?_
  have a0 := q.at0
  rw [cS_199, cF_199_0]
  refine RO_bi (en_ok ht q hT h0 hd) fun z s1 g => ?_
  obtain ⟨rfl, q1⟩ := g
  rw [if_neg (by decide)]
  refine RO_la q1 (by omega) fun s2 q2 => ?_
  have k2 := q2.tok
  rw [if_neg (by omega), if_neg (by omega), if_neg (by omega), cE_199_41, cF_199_41, if_neg (by omega), if_neg (by omega), if_pos (by omega)]
  refine RO_tail ?_
  rw [cS_206, cF_206_0, q2.beg, q2.1.val]
  refine RO_tk ht q2 hT fun s3 q3 => ?_
  rw [if_neg (by omega), if_pos (by omega)]
  refine RO_l0 ht q3.1 hT2 fun s4 q4 => ?_
  rw [if_pos (by rw [q4.lin, hl]; rfl)]
  exact RO_pu q4 (by simp only [List.length_cons]; omega) fun s5 q5 => RO_la q5 (by simp only [List.length_cons]; omega) fun s6 q6 => RO_la q6 (by simp only [List.length_cons]; omega) fun s7 q7 => RO_ret q7.1
theorem b_2tl0 (ht : tOk tx n) {e d rn pu : Int} {lf : Bool} {V : List tT} {K : List rTs} {S : List rSg} {t : tTk} {b c x : Int} (hT : lxG tx n true e = some t) {t2 : tTk} (hc : rNo t = 1020) (hT2 : lxG tx n false t.2.2.2.1 = some t2) (hl : t2.2.2.2.2 = true) (hr : rn ≤ 486) (h0 : 0 ≤ d) (hd : d < 20 ∨ 20 ≤ d ∧ d ≤ 30 ∧ rNo t = 0) (hK : (K.length : Int) ≤ 870) : rBd tx n (e, d, rn, pu, lf, V, (2, 0, b, c, x) :: K, S) := by
  refine rBd_mk fun s q => rd_20 (a := 0) q (by omega) fun s q => ?_
  have a0 := q.at0
  rw [cS_199, cF_199_0]
  refine RO_bi (en_ok ht q hT h0 hd) fun z s1 g => ?_
  obtain ⟨rfl, q1⟩ := g
  rw [if_neg (by decide)]
  refine RO_la q1 (by omega) fun s2 q2 => ?_
  have k2 := q2.tok
  rw [if_neg (by omega), if_neg (by omega), if_neg (by omega), cE_199_41, cF_199_41, if_neg (by omega), if_neg (by omega), if_pos (by omega)]
  refine RO_tail ?_
  rw [cS_206, cF_206_0, q2.beg, q2.1.val]
  refine RO_tk ht q2 hT fun s3 q3 => ?_
  rw [if_neg (by omega), if_pos (by omega)]
  refine RO_l0 ht q3.1 hT2 fun s4 q4 => ?_
  rw [if_neg (by rw [q4.lin, hl]; decide)]
  have ok := lxG_rg ht q3.1.at0.1 q3.1.at0.2 hT2
  have h112 := q4.beg
  have hx := q4.1.1.1
  obtain ⟨s5, e1, e2, e3⟩ : RO s4 (cm_sem 205 [.inr (.inl 41)] s4) (rZ tx n V.length 0) := by
    refine ⟨_, cs_205 q4.nof, rFm_p (rFm_p (rFm_rf s4) (by omega)) (by omega), rZ_of (K := (4, 0, 0, 0, 0) :: K) (rQ_p (rQ_p q4.1.2 (by decide)) (by decide)) ?_ (rTx_p (rTx_p hx (by decide)) (by decide)) ?_ (by simp only [List.length_cons]; omega) hr⟩
    · unfold gB; rw [cm_p_ne (by decide), cm_p_at]; decide
    · rw [cm_p_ne (by decide), cm_p_ne (by decide)]; omega
  rw [e1, cm_bv_o]
  exact RO_from e2 (Z_pu e3 (by omega) fun _ z1 => Z_la z1 (by omega) fun _ z2 => Z_la z2 (by omega) fun _ z3 => Z_ret z3)
theorem b_2tl1 (ht : tOk tx n) {e d rn pu : Int} {lf : Bool} {V : List tT} {K : List rTs} {S : List rSg} {t : tTk} {b c x : Int} (hT : lxG tx n true e = some t) {t2 : tTk} (hc : rNo t = 1020) (hT2 : lxG tx n false t.2.2.2.1 = some t2) (hl : t2.2.2.2.2 = true) (hr : rn ≤ 486) (h0 : 0 ≤ d) (hd : d < 20 ∨ 20 ≤ d ∧ d ≤ 30 ∧ rNo t = 0) (hK : (K.length : Int) ≤ 870) : rBd tx n (e, d, rn, pu, lf, V, (2, 1, b, c, x) :: K, S) := by
  refine rBd_mk fun s q => rd_21 (a := 0) q (by omega) fun s q => ?_
  have a0 := q.at0
  rw [cS_199, cF_199_0]
  refine RO_bi (en_ok ht q hT h0 hd) fun z s1 g => ?_
  obtain ⟨rfl, q1⟩ := g
  rw [if_neg (by decide)]
  refine RO_la q1 (by omega) fun s2 q2 => ?_
  have k2 := q2.tok
  rw [if_neg (by omega), if_neg (by omega), if_neg (by omega), cE_199_41, cF_199_41, if_neg (by omega), if_neg (by omega), if_pos (by omega)]
  refine RO_tail ?_
  rw [cS_206, cF_206_0, q2.beg, q2.1.val]
  refine RO_tk ht q2 hT fun s3 q3 => ?_
  rw [if_neg (by omega), if_pos (by omega)]
  refine RO_l0 ht q3.1 hT2 fun s4 q4 => ?_
  rw [if_neg (by rw [q4.lin, hl]; decide)]
  have ok := lxG_rg ht q3.1.at0.1 q3.1.at0.2 hT2
  have h112 := q4.beg
  have hx := q4.1.1.1
  obtain ⟨s5, e1, e2, e3⟩ : RO s4 (cm_sem 205 [.inr (.inl 41)] s4) (rZ tx n V.length 0) := by
    refine ⟨_, cs_205 q4.nof, rFm_p (rFm_p (rFm_rf s4) (by omega)) (by omega), rZ_of (K := (4, 0, 0, 0, 0) :: K) (rQ_p (rQ_p q4.1.2 (by decide)) (by decide)) ?_ (rTx_p (rTx_p hx (by decide)) (by decide)) ?_ (by simp only [List.length_cons]; omega) hr⟩
    · unfold gB; rw [cm_p_ne (by decide), cm_p_at]; decide
    · rw [cm_p_ne (by decide), cm_p_ne (by decide)]; omega
  rw [e1, cm_bv_o]
  exact RO_from e2 (Z_pu e3 (by omega) fun _ z1 => Z_la z1 (by omega) fun _ z2 => Z_la z2 (by omega) fun _ z3 => Z_ret z3)
theorem b_2td0 (ht : tOk tx n) {e d rn pu : Int} {lf : Bool} {V : List tT} {K : List rTs} {S : List rSg} {t : tTk} {b c x : Int} (hT : lxG tx n true e = some t) (hc : rNo t = 1020) (hN : lxG tx n false t.2.2.2.1 = none) (hr : rn ≤ 486) (h0 : 0 ≤ d) (hd : d < 20 ∨ 20 ≤ d ∧ d ≤ 30 ∧ rNo t = 0) (hK : (K.length : Int) ≤ 870) : rBd tx n (e, d, rn, pu, lf, V, (2, 0, b, c, x) :: K, S) := by
  refine rBd_mk fun s q => rd_20 (a := 0) q (by omega) fun s q => ?_
  have a0 := q.at0
  rw [cS_199, cF_199_0]
  refine RO_bi (en_ok ht q hT h0 hd) fun z s1 g => ?_
  obtain ⟨rfl, q1⟩ := g
  rw [if_neg (by decide)]
  refine RO_la q1 (by omega) fun s2 q2 => ?_
  have k2 := q2.tok
  rw [if_neg (by omega), if_neg (by omega), if_neg (by omega), cE_199_41, cF_199_41, if_neg (by omega), if_neg (by omega), if_pos (by omega)]
  refine RO_tail ?_
  rw [cS_206, cF_206_0, q2.beg, q2.1.val]
  refine RO_tk ht q2 hT fun s3 q3 => ?_
  rw [if_neg (by omega), if_pos (by omega)]
  refine RO_n0 ht q3.1 hN fun s4 q4 g4 x4 f4 => ?_
  have z := rZ_of q4 g4 x4 f4 (by simp only [List.length_cons]; omega) hr
  repeat' first
      | exact Z_ret ‹_›
      | refine Z_pu ‹_› (by omega) fun _ _ => ?_
      | refine Z_la ‹_› (by omega) fun _ _ => ?_
      | refine Z_tk ‹_› fun _ _ => ?_
      | refine Z_bd ‹_› fun _ _ => ?_
      | refine Z_lf ‹_› (by omega) fun _ _ => ?_
      | refine Z_re ‹_› (by omega) (by omega) (by omega) fun _ _ => ?_
      | refine RO_ite (fun _ => ?_) (fun _ => ?_)
theorem b_2td1 (ht : tOk tx n) {e d rn pu : Int} {lf : Bool} {V : List tT} {K : List rTs} {S : List rSg} {t : tTk} {b c x : Int} (hT : lxG tx n true e = some t) (hc : rNo t = 1020) (hN : lxG tx n false t.2.2.2.1 = none) (hr : rn ≤ 486) (h0 : 0 ≤ d) (hd : d < 20 ∨ 20 ≤ d ∧ d ≤ 30 ∧ rNo t = 0) (hK : (K.length : Int) ≤ 870) : rBd tx n (e, d, rn, pu, lf, V, (2, 1, b, c, x) :: K, S) := by
  refine rBd_mk fun s q => rd_21 (a := 0) q (by omega) fun s q => ?_
  have a0 := q.at0
  rw [cS_199, cF_199_0]
  refine RO_bi (en_ok ht q hT h0 hd) fun z s1 g => ?_
  obtain ⟨rfl, q1⟩ := g
  rw [if_neg (by decide)]
  refine RO_la q1 (by omega) fun s2 q2 => ?_
  have k2 := q2.tok
  rw [if_neg (by omega), if_neg (by omega), if_neg (by omega), cE_199_41, cF_199_41, if_neg (by omega), if_neg (by omega), if_pos (by omega)]
  refine RO_tail ?_
  rw [cS_206, cF_206_0, q2.beg, q2.1.val]
  refine RO_tk ht q2 hT fun s3 q3 => ?_
  rw [if_neg (by omega), if_pos (by omega)]
  refine RO_n0 ht q3.1 hN fun s4 q4 g4 x4 f4 => ?_
  have z := rZ_of q4 g4 x4 f4 (by simp only [List.length_cons]; omega) hr
  repeat' first
      | exact Z_ret ‹_›
      | refine Z_pu ‹_› (by omega) fun _ _ => ?_
      | refine Z_la ‹_› (by omega) fun _ _ => ?_
      | refine Z_tk ‹_› fun _ _ => ?_
      | refine Z_bd ‹_› fun _ _ => ?_
      | refine Z_lf ‹_› (by omega) fun _ _ => ?_
      | refine Z_re ‹_› (by omega) (by omega) (by omega) fun _ _ => ?_
      | refine RO_ite (fun _ => ?_) (fun _ => ?_)
theorem b_2rd0 (ht : tOk tx n) {e d rn pu : Int} {lf : Bool} {V : List tT} {K : List rTs} {S : List rSg} {t : tTk} {b c x : Int} (hT : lxG tx n true e = some t) (hc : rNo t = 1017) (hN : lxG tx n false t.2.2.2.1 = none) (hr : rn ≤ 486) (h0 : 0 ≤ d) (hd : d < 20 ∨ 20 ≤ d ∧ d ≤ 30 ∧ rNo t = 0) (hK : (K.length : Int) ≤ 870) : rBd tx n (e, d, rn, pu, lf, V, (2, 0, b, c, x) :: K, S) := by
  refine rBd_mk fun s q => rd_20 (a := 0) q (by omega) fun s q => ?_
  have a0 := q.at0
  rw [cS_199, cF_199_0]
  refine RO_bi (en_ok ht q hT h0 hd) fun z s1 g => ?_
  obtain ⟨rfl, q1⟩ := g
  rw [if_neg (by decide)]
  refine RO_la q1 (by omega) fun s2 q2 => ?_
  have k2 := q2.tok
  rw [if_neg (by omega), if_neg (by omega), if_neg (by omega), cE_199_41, cF_199_41, if_neg (by omega), if_neg (by omega), if_neg (by omega), if_pos (by omega)]
  refine RO_tail ?_
  rw [cS_206, cF_206_0, q2.beg, q2.1.val]
  refine RO_tk ht q2 hT fun s3 q3 => ?_
  rw [if_neg (by omega), if_neg (by omega), if_pos (by omega)]
  refine RO_n0 ht q3.1 hN fun s4 q4 g4 x4 f4 => ?_
  have z := rZ_of q4 g4 x4 f4 (by simp only [List.length_cons]; omega) hr
  repeat' first
      | exact Z_ret ‹_›
      | refine Z_pu ‹_› (by omega) fun _ _ => ?_
      | refine Z_la ‹_› (by omega) fun _ _ => ?_
      | refine Z_tk ‹_› fun _ _ => ?_
      | refine Z_bd ‹_› fun _ _ => ?_
      | refine Z_lf ‹_› (by omega) fun _ _ => ?_
      | refine Z_re ‹_› (by omega) (by omega) (by omega) fun _ _ => ?_
      | refine RO_ite (fun _ => ?_) (fun _ => ?_)
theorem b_2rd1 (ht : tOk tx n) {e d rn pu : Int} {lf : Bool} {V : List tT} {K : List rTs} {S : List rSg} {t : tTk} {b c x : Int} (hT : lxG tx n true e = some t) (hc : rNo t = 1017) (hN : lxG tx n false t.2.2.2.1 = none) (hr : rn ≤ 486) (h0 : 0 ≤ d) (hd : d < 20 ∨ 20 ≤ d ∧ d ≤ 30 ∧ rNo t = 0) (hK : (K.length : Int) ≤ 870) : rBd tx n (e, d, rn, pu, lf, V, (2, 1, b, c, x) :: K, S) := by
  refine rBd_mk fun s q => rd_21 (a := 0) q (by omega) fun s q => ?_
  have a0 := q.at0
  rw [cS_199, cF_199_0]
  refine RO_bi (en_ok ht q hT h0 hd) fun z s1 g => ?_
  obtain ⟨rfl, q1⟩ := g
  rw [if_neg (by decide)]
  refine RO_la q1 (by omega) fun s2 q2 => ?_
  have k2 := q2.tok
  rw [if_neg (by omega), if_neg (by omega), if_neg (by omega), cE_199_41, cF_199_41, if_neg (by omega), if_neg (by omega), if_neg (by omega), if_pos (by omega)]
  refine RO_tail ?_
  rw [cS_206, cF_206_0, q2.beg, q2.1.val]
  refine RO_tk ht q2 hT fun s3 q3 => ?_
  rw [if_neg (by omega), if_neg (by omega), if_pos (by omega)]
  refine RO_n0 ht q3.1 hN fun s4 q4 g4 x4 f4 => ?_
  have z := rZ_of q4 g4 x4 f4 (by simp only [List.length_cons]; omega) hr
  repeat' first
      | exact Z_ret ‹_›
      | refine Z_pu ‹_› (by omega) fun _ _ => ?_
      | refine Z_la ‹_› (by omega) fun _ _ => ?_
      | refine Z_tk ‹_› fun _ _ => ?_
      | refine Z_bd ‹_› fun _ _ => ?_
      | refine Z_lf ‹_› (by omega) fun _ _ => ?_
      | refine Z_re ‹_› (by omega) (by omega) (by omega) fun _ _ => ?_
      | refine RO_ite (fun _ => ?_) (fun _ => ?_)
theorem b_2kd0 (ht : tOk tx n) {e d rn pu : Int} {lf : Bool} {V : List tT} {K : List rTs} {S : List rSg} {t : tTk} {b c x : Int} (hT : lxG tx n true e = some t) (hc : rNo t = 1000) (hN : lxG tx n false t.2.2.2.1 = none) (hr : rn ≤ 486) (h0 : 0 ≤ d) (hd : d < 20 ∨ 20 ≤ d ∧ d ≤ 30 ∧ rNo t = 0) (hK : (K.length : Int) ≤ 870) : rBd tx n (e, d, rn, pu, lf, V, (2, 0, b, c, x) :: K, S) := by
  refine rBd_mk fun s q => rd_20 (a := 0) q (by omega) fun s q => ?_
  have a0 := q.at0
  rw [cS_199, cF_199_0]
  refine RO_bi (en_ok ht q hT h0 hd) fun z s1 g => ?_
  obtain ⟨rfl, q1⟩ := g
  rw [if_neg (by decide)]
  refine RO_la q1 (by omega) fun s2 q2 => ?_
  have k2 := q2.tok
  rw [if_neg (by omega), if_neg (by omega), if_neg (by omega), cE_199_41, cF_199_41, if_neg (by omega), if_neg (by omega), if_neg (by omega), if_neg (by omega), if_pos (by omega)]
  refine RO_tail ?_
  rw [cS_206, cF_206_0, q2.beg, q2.1.val]
  refine RO_tk ht q2 hT fun s3 q3 => ?_
  rw [if_neg (by omega), if_neg (by omega), if_neg (by omega)]
  refine RO_n0 ht q3.1 hN fun s4 q4 g4 x4 f4 => ?_
  have z := rZ_of q4 g4 x4 f4 (by simp only [List.length_cons]; omega) hr
  repeat' first
      | exact Z_ret ‹_›
      | refine Z_pu ‹_› (by omega) fun _ _ => ?_
      | refine Z_la ‹_› (by omega) fun _ _ => ?_
      | refine Z_tk ‹_› fun _ _ => ?_
      | refine Z_bd ‹_› fun _ _ => ?_
      | refine Z_lf ‹_› (by omega) fun _ _ => ?_
      | refine Z_re ‹_› (by omega) (by omega) (by omega) fun _ _ => ?_
      | refine RO_ite (fun _ => ?_) (fun _ => ?_)
theorem b_2kd1 (ht : tOk tx n) {e d rn pu : Int} {lf : Bool} {V : List tT} {K : List rTs} {S : List rSg} {t : tTk} {b c x : Int} (hT : lxG tx n true e = some t) (hc : rNo t = 1000) (hN : lxG tx n false t.2.2.2.1 = none) (hr : rn ≤ 486) (h0 : 0 ≤ d) (hd : d < 20 ∨ 20 ≤ d ∧ d ≤ 30 ∧ rNo t = 0) (hK : (K.length : Int) ≤ 870) : rBd tx n (e, d, rn, pu, lf, V, (2, 1, b, c, x) :: K, S) := by
  refine rBd_mk fun s q => rd_21 (a := 0) q (by omega) fun s q => ?_
  have a0 := q.at0
  rw [cS_199, cF_199_0]
  refine RO_bi (en_ok ht q hT h0 hd) fun z s1 g => ?_
  obtain ⟨rfl, q1⟩ := g
  rw [if_neg (by decide)]
  refine RO_la q1 (by omega) fun s2 q2 => ?_
  have k2 := q2.tok
  rw [if_neg (by omega), if_neg (by omega), if_neg (by omega), cE_199_41, cF_199_41, if_neg (by omega), if_neg (by omega), if_neg (by omega), if_neg (by omega), if_pos (by omega)]
  refine RO_tail ?_
  rw [cS_206, cF_206_0, q2.beg, q2.1.val]
  refine RO_tk ht q2 hT fun s3 q3 => ?_
  rw [if_neg (by omega), if_neg (by omega), if_neg (by omega)]
  refine RO_n0 ht q3.1 hN fun s4 q4 g4 x4 f4 => ?_
  have z := rZ_of q4 g4 x4 f4 (by simp only [List.length_cons]; omega) hr
  repeat' first
      | exact Z_ret ‹_›
      | refine Z_pu ‹_› (by omega) fun _ _ => ?_
      | refine Z_la ‹_› (by omega) fun _ _ => ?_
      | refine Z_tk ‹_› fun _ _ => ?_
      | refine Z_bd ‹_› fun _ _ => ?_
      | refine Z_lf ‹_› (by omega) fun _ _ => ?_
      | refine Z_re ‹_› (by omega) (by omega) (by omega) fun _ _ => ?_
      | refine RO_ite (fun _ => ?_) (fun _ => ?_)
theorem b_2cd0 (ht : tOk tx n) {e d rn pu : Int} {lf : Bool} {V : List tT} {K : List rTs} {S : List rSg} {t : tTk} {b c x : Int} (hT : lxG tx n true e = some t) (hc : rNo t = 1003) (hN : lxG tx n false t.2.2.2.1 = none) (hr : rn ≤ 486) (h0 : 0 ≤ d) (hd : d < 20 ∨ 20 ≤ d ∧ d ≤ 30 ∧ rNo t = 0) (hK : (K.length : Int) ≤ 870) : rBd tx n (e, d, rn, pu, lf, V, (2, 0, b, c, x) :: K, S) := by
  refine rBd_mk fun s q => rd_20 (a := 0) q (by omega) fun s q => ?_
  have a0 := q.at0
  rw [cS_199, cF_199_0]
  refine RO_bi (en_ok ht q hT h0 hd) fun z s1 g => ?_
  obtain ⟨rfl, q1⟩ := g
  rw [if_neg (by decide)]
  refine RO_la q1 (by omega) fun s2 q2 => ?_
  have k2 := q2.tok
  rw [if_neg (by omega), if_neg (by omega), if_neg (by omega), cE_199_41, cF_199_41, if_neg (by omega), if_neg (by omega), if_neg (by omega), if_neg (by omega), if_neg (by omega), if_pos (by omega)]
  refine RO_tail ?_
  rw [cS_206, cF_206_0, q2.beg, q2.1.val]
  refine RO_tk ht q2 hT fun s3 q3 => ?_
  rw [if_neg (by omega), if_neg (by omega), if_neg (by omega)]
  refine RO_n0 ht q3.1 hN fun s4 q4 g4 x4 f4 => ?_
  have z := rZ_of q4 g4 x4 f4 (by simp only [List.length_cons]; omega) hr
  repeat' first
      | exact Z_ret ‹_›
      | refine Z_pu ‹_› (by omega) fun _ _ => ?_
      | refine Z_la ‹_› (by omega) fun _ _ => ?_
      | refine Z_tk ‹_› fun _ _ => ?_
      | refine Z_bd ‹_› fun _ _ => ?_
      | refine Z_lf ‹_› (by omega) fun _ _ => ?_
      | refine Z_re ‹_› (by omega) (by omega) (by omega) fun _ _ => ?_
      | refine RO_ite (fun _ => ?_) (fun _ => ?_)
theorem b_2cd1 (ht : tOk tx n) {e d rn pu : Int} {lf : Bool} {V : List tT} {K : List rTs} {S : List rSg} {t : tTk} {b c x : Int} (hT : lxG tx n true e = some t) (hc : rNo t = 1003) (hN : lxG tx n false t.2.2.2.1 = none) (hr : rn ≤ 486) (h0 : 0 ≤ d) (hd : d < 20 ∨ 20 ≤ d ∧ d ≤ 30 ∧ rNo t = 0) (hK : (K.length : Int) ≤ 870) : rBd tx n (e, d, rn, pu, lf, V, (2, 1, b, c, x) :: K, S) := by
  refine rBd_mk fun s q => rd_21 (a := 0) q (by omega) fun s q => ?_
  have a0 := q.at0
  rw [cS_199, cF_199_0]
  refine RO_bi (en_ok ht q hT h0 hd) fun z s1 g => ?_
  obtain ⟨rfl, q1⟩ := g
  rw [if_neg (by decide)]
  refine RO_la q1 (by omega) fun s2 q2 => ?_
  have k2 := q2.tok
  rw [if_neg (by omega), if_neg (by omega), if_neg (by omega), cE_199_41, cF_199_41, if_neg (by omega), if_neg (by omega), if_neg (by omega), if_neg (by omega), if_neg (by omega), if_pos (by omega)]
  refine RO_tail ?_
  rw [cS_206, cF_206_0, q2.beg, q2.1.val]
  refine RO_tk ht q2 hT fun s3 q3 => ?_
  rw [if_neg (by omega), if_neg (by omega), if_neg (by omega)]
  refine RO_n0 ht q3.1 hN fun s4 q4 g4 x4 f4 => ?_
  have z := rZ_of q4 g4 x4 f4 (by simp only [List.length_cons]; omega) hr
  repeat' first
      | exact Z_ret ‹_›
      | refine Z_pu ‹_› (by omega) fun _ _ => ?_
      | refine Z_la ‹_› (by omega) fun _ _ => ?_
      | refine Z_tk ‹_› fun _ _ => ?_
      | refine Z_bd ‹_› fun _ _ => ?_
      | refine Z_lf ‹_› (by omega) fun _ _ => ?_
      | refine Z_re ‹_› (by omega) (by omega) (by omega) fun _ _ => ?_
      | refine RO_ite (fun _ => ?_) (fun _ => ?_)
theorem t_2r0 (ht : tOk tx n) {e d rn pu : Int} {lf : Bool} {V : List tT} {K : List rTs} {S : List rSg} {t : tTk} {b c x : Int} (hT : lxG tx n true e = some t) {t2 : tTk} (hc : rNo t = 1017) (hT2 : lxG tx n false t.2.2.2.1 = some t2) (hl : t2.2.2.2.2 = true ∨ rNo t2 = 59 ∨ rNo t2 = 125 ∨ rNo t2 = 0) (h0 : 0 ≤ d) (hd : d < 20 ∨ 20 ≤ d ∧ d ≤ 30 ∧ rNo t = 0) (hK : (K.length : Int) ≤ 870) : rTo tx n (e, d, rn, pu, lf, V, (2, 0, b, c, x) :: K, S) (t.2.2.2.1, d + 1, rn, pu, lf, V, (6, 0, 0, 0, 0) :: (3, 13, t.2.2.1, 0, V.length) :: (4, 0, 0, 0, 0) :: K, S) := by
  refine rTo_mk fun s q => rd_20 (a := 0) q (by omega) fun s q => ?_
  have a0 := q.at0
  rw [cS_199, cF_199_0]
  refine RO_bi (en_ok ht q hT h0 hd) fun z s1 g => ?_
  obtain ⟨rfl, q1⟩ := g
  rw [if_neg (by decide)]
  refine RO_la q1 (by omega) fun s2 q2 => ?_
  have k2 := q2.tok
  rw [if_neg (by omega), if_neg (by omega), if_neg (by omega), cE_199_41, cF_199_41, if_neg (by omega), if_neg (by omega), if_neg (by omega), if_pos (by omega)]
  refine RO_tail ?_
  rw [cS_206, cF_206_0, q2.beg, q2.1.val]
  refine RO_tk ht q2 hT fun s3 q3 => ?_
  rw [if_neg (by omega), if_neg (by omega), if_pos (by omega)]
  refine RO_l0 ht q3.1 hT2 fun s4 q4 => RO_pu q4 (by simp only [List.length_cons]; omega) fun s5 q5 => RO_la q5 (by simp only [List.length_cons]; omega) fun s6 q6 => ?_
  have k6 := q6.tok
  refine RO_ite (fun h6 => ?_) fun _ => RO_ret q6.1
  rw [q6.lin, cm_n0] at h6
  rw [h6] at hl
  refine RO_ite (fun _ => RO_ret q6.1) fun _ => RO_ite (fun _ => RO_ret q6.1) fun _ => RO_ite (fun _ => RO_ret q6.1) fun _ => ?_
  exfalso
  rcases hl with z | z
  · cases z
  · omega
theorem t_2r1 (ht : tOk tx n) {e d rn pu : Int} {lf : Bool} {V : List tT} {K : List rTs} {S : List rSg} {t : tTk} {b c x : Int} (hT : lxG tx n true e = some t) {t2 : tTk} (hc : rNo t = 1017) (hT2 : lxG tx n false t.2.2.2.1 = some t2) (hl : t2.2.2.2.2 = true ∨ rNo t2 = 59 ∨ rNo t2 = 125 ∨ rNo t2 = 0) (h0 : 0 ≤ d) (hd : d < 20 ∨ 20 ≤ d ∧ d ≤ 30 ∧ rNo t = 0) (hK : (K.length : Int) ≤ 870) : rTo tx n (e, d, rn, pu, lf, V, (2, 1, b, c, x) :: K, S) (t.2.2.2.1, d + 1, rn, pu, lf, V, (6, 0, 0, 0, 0) :: (3, 13, t.2.2.1, 0, V.length) :: (4, 0, 0, 0, 0) :: K, S) := by
  refine rTo_mk fun s q => rd_21 (a := 0) q (by omega) fun s q => ?_
  have a0 := q.at0
  rw [cS_199, cF_199_0]
  refine RO_bi (en_ok ht q hT h0 hd) fun z s1 g => ?_
  obtain ⟨rfl, q1⟩ := g
  rw [if_neg (by decide)]
  refine RO_la q1 (by omega) fun s2 q2 => ?_
  have k2 := q2.tok
  rw [if_neg (by omega), if_neg (by omega), if_neg (by omega), cE_199_41, cF_199_41, if_neg (by omega), if_neg (by omega), if_neg (by omega), if_pos (by omega)]
  refine RO_tail ?_
  rw [cS_206, cF_206_0, q2.beg, q2.1.val]
  refine RO_tk ht q2 hT fun s3 q3 => ?_
  rw [if_neg (by omega), if_neg (by omega), if_pos (by omega)]
  refine RO_l0 ht q3.1 hT2 fun s4 q4 => RO_pu q4 (by simp only [List.length_cons]; omega) fun s5 q5 => RO_la q5 (by simp only [List.length_cons]; omega) fun s6 q6 => ?_
  have k6 := q6.tok
  refine RO_ite (fun h6 => ?_) fun _ => RO_ret q6.1
  rw [q6.lin, cm_n0] at h6
  rw [h6] at hl
  refine RO_ite (fun _ => RO_ret q6.1) fun _ => RO_ite (fun _ => RO_ret q6.1) fun _ => RO_ite (fun _ => RO_ret q6.1) fun _ => ?_
  exfalso
  rcases hl with z | z
  · cases z
  · omega
theorem t_2rx0 (ht : tOk tx n) {e d rn pu : Int} {lf : Bool} {V : List tT} {K : List rTs} {S : List rSg} {t : tTk} {b c x : Int} (hT : lxG tx n true e = some t) {t2 : tTk} (hc : rNo t = 1017) (hT2 : lxG tx n false t.2.2.2.1 = some t2) (hl : t2.2.2.2.2 = false) (h2 : rNo t2 ≠ 59 ∧ rNo t2 ≠ 125 ∧ rNo t2 ≠ 0) (h0 : 0 ≤ d) (hd : d < 20 ∨ 20 ≤ d ∧ d ≤ 30 ∧ rNo t = 0) (hK : (K.length : Int) ≤ 870) : rTo tx n (e, d, rn, pu, lf, V, (2, 0, b, c, x) :: K, S) (t.2.2.2.1, d + 1, rn, pu, lf, V, (7, 0, 0, 0, 0) :: (6, 0, 0, 0, 0) :: (3, 13, t.2.2.1, 0, V.length) :: (4, 0, 0, 0, 0) :: K, S) := by
  refine rTo_mk fun s q => rd_20 (a := 0) q (by omega) fun s q => ?_
  have a0 := q.at0
  rw [cS_199, cF_199_0]
  refine RO_bi (en_ok ht q hT h0 hd) fun z s1 g => ?_
  obtain ⟨rfl, q1⟩ := g
  rw [if_neg (by decide)]
  refine RO_la q1 (by omega) fun s2 q2 => ?_
  have k2 := q2.tok
  rw [if_neg (by omega), if_neg (by omega), if_neg (by omega), cE_199_41, cF_199_41, if_neg (by omega), if_neg (by omega), if_neg (by omega), if_pos (by omega)]
  refine RO_tail ?_
  rw [cS_206, cF_206_0, q2.beg, q2.1.val]
  refine RO_tk ht q2 hT fun s3 q3 => ?_
  rw [if_neg (by omega), if_neg (by omega), if_pos (by omega)]
  refine RO_l0 ht q3.1 hT2 fun s4 q4 => RO_pu q4 (by simp only [List.length_cons]; omega) fun s5 q5 => RO_la q5 (by simp only [List.length_cons]; omega) fun s6 q6 => ?_
  have k6 := q6.tok
  rw [if_pos (by rw [q6.lin, hl]; rfl), if_neg (by omega), if_neg (by omega), if_neg (by omega)]
  exact RO_la q6 (by simp only [List.length_cons]; omega) fun s7 q7 => RO_ret q7.1
theorem t_2rx1 (ht : tOk tx n) {e d rn pu : Int} {lf : Bool} {V : List tT} {K : List rTs} {S : List rSg} {t : tTk} {b c x : Int} (hT : lxG tx n true e = some t) {t2 : tTk} (hc : rNo t = 1017) (hT2 : lxG tx n false t.2.2.2.1 = some t2) (hl : t2.2.2.2.2 = false) (h2 : rNo t2 ≠ 59 ∧ rNo t2 ≠ 125 ∧ rNo t2 ≠ 0) (h0 : 0 ≤ d) (hd : d < 20 ∨ 20 ≤ d ∧ d ≤ 30 ∧ rNo t = 0) (hK : (K.length : Int) ≤ 870) : rTo tx n (e, d, rn, pu, lf, V, (2, 1, b, c, x) :: K, S) (t.2.2.2.1, d + 1, rn, pu, lf, V, (7, 0, 0, 0, 0) :: (6, 0, 0, 0, 0) :: (3, 13, t.2.2.1, 0, V.length) :: (4, 0, 0, 0, 0) :: K, S) := by
  refine rTo_mk fun s q => rd_21 (a := 0) q (by omega) fun s q => ?_
  have a0 := q.at0
  rw [cS_199, cF_199_0]
  refine RO_bi (en_ok ht q hT h0 hd) fun z s1 g => ?_
  obtain ⟨rfl, q1⟩ := g
  rw [if_neg (by decide)]
  refine RO_la q1 (by omega) fun s2 q2 => ?_
  have k2 := q2.tok
  rw [if_neg (by omega), if_neg (by omega), if_neg (by omega), cE_199_41, cF_199_41, if_neg (by omega), if_neg (by omega), if_neg (by omega), if_pos (by omega)]
  refine RO_tail ?_
  rw [cS_206, cF_206_0, q2.beg, q2.1.val]
  refine RO_tk ht q2 hT fun s3 q3 => ?_
  rw [if_neg (by omega), if_neg (by omega), if_pos (by omega)]
  refine RO_l0 ht q3.1 hT2 fun s4 q4 => RO_pu q4 (by simp only [List.length_cons]; omega) fun s5 q5 => RO_la q5 (by simp only [List.length_cons]; omega) fun s6 q6 => ?_
  have k6 := q6.tok
  rw [if_pos (by rw [q6.lin, hl]; rfl), if_neg (by omega), if_neg (by omega), if_neg (by omega)]
  exact RO_la q6 (by simp only [List.length_cons]; omega) fun s7 q7 => RO_ret q7.1
theorem t_2kn0 (ht : tOk tx n) {e d rn pu : Int} {lf : Bool} {V : List tT} {K : List rTs} {S : List rSg} {t : tTk} {b c x : Int} (hT : lxG tx n true e = some t) {t2 : tTk} (hc : rNo t = 1000) (hT2 : lxG tx n false t.2.2.2.1 = some t2) (hc2 : rNo t2 = 1) (hl : t2.2.2.2.2 = false) (hn : rn < 499) (h0 : 0 ≤ d) (hd : d < 20 ∨ 20 ≤ d ∧ d ≤ 30 ∧ rNo t = 0) (hK : (K.length : Int) ≤ 870) : rTo tx n (e, d, rn, pu, lf, V, (2, 0, b, c, x) :: K, S) (t2.2.2.2.1, d + 1, rn + 1, pu, lf, ((12, t2.2.2.1, t2.2.2.2.1 - t2.2.2.1, 0, false), .leaf) :: V, (6, 0, 0, 0, 0) :: (4, 0, 0, 0, 0) :: K, S) := by
  refine rTo_mk fun s q => rd_20 (a := 0) q (by omega) fun s q => ?_
  have a0 := q.at0
  rw [cS_199, cF_199_0]
  refine RO_bi (en_ok ht q hT h0 hd) fun z s1 g => ?_
  obtain ⟨rfl, q1⟩ := g
  rw [if_neg (by decide)]
  refine RO_la q1 (by omega) fun s2 q2 => ?_
  have k2 := q2.tok
  rw [if_neg (by omega), if_neg (by omega), if_neg (by omega), cE_199_41, cF_199_41, if_neg (by omega), if_neg (by omega), if_neg (by omega), if_neg (by omega), if_pos (by omega)]
  refine RO_tail ?_
  rw [cS_206, cF_206_0, q2.beg, q2.1.val]
  refine RO_tk ht q2 hT fun s3 q3 => ?_
  rw [if_neg (by omega), if_neg (by omega), if_neg (by omega)]
  have a3 := q3.1.at0
  refine RO_l0 ht q3.1 hT2 fun s4 q4 => ?_
  rw [if_pos (by omega)]
  refine RO_la q4 (by simp only [List.length_cons]; omega) fun s5 q5 => ?_
  rw [if_pos (by rw [q5.tok]; exact hc2), if_pos (by rw [q5.lin, hl]; rfl), if_pos q5.nof]
  refine RO_tail ?_
  rw [q5.len ht a3.1 a3.2 hT2, cS_201, cF_201_0, q5.beg, q5.1.val]
  have q5' : rRt tx n (t.2.2.2.1, d + 1, rn, pu, lf, [] ++ V, (6, 0, 0, 0, 0) :: (4, 0, 0, 0, 0) :: K, S) t2 s5 := q5
  refine RO_re q5' hn rfl 0 fun s6 q6 => RO_tk ht q6 hT2 fun s7 q7 => RO_ret ?_
  have := q7.1
  simp only [show decide ((12 : Int) < 44 ∨ 49 < (12 : Int)) = true by decide, Bool.and_true] at this
  exact this
theorem t_2kn1 (ht : tOk tx n) {e d rn pu : Int} {lf : Bool} {V : List tT} {K : List rTs} {S : List rSg} {t : tTk} {b c x : Int} (hT : lxG tx n true e = some t) {t2 : tTk} (hc : rNo t = 1000) (hT2 : lxG tx n false t.2.2.2.1 = some t2) (hc2 : rNo t2 = 1) (hl : t2.2.2.2.2 = false) (hn : rn < 499) (h0 : 0 ≤ d) (hd : d < 20 ∨ 20 ≤ d ∧ d ≤ 30 ∧ rNo t = 0) (hK : (K.length : Int) ≤ 870) : rTo tx n (e, d, rn, pu, lf, V, (2, 1, b, c, x) :: K, S) (t2.2.2.2.1, d + 1, rn + 1, pu, lf, ((12, t2.2.2.1, t2.2.2.2.1 - t2.2.2.1, 0, false), .leaf) :: V, (6, 0, 0, 0, 0) :: (4, 0, 0, 0, 0) :: K, S) := by
  refine rTo_mk fun s q => rd_21 (a := 0) q (by omega) fun s q => ?_
  have a0 := q.at0
  rw [cS_199, cF_199_0]
  refine RO_bi (en_ok ht q hT h0 hd) fun z s1 g => ?_
  obtain ⟨rfl, q1⟩ := g
  rw [if_neg (by decide)]
  refine RO_la q1 (by omega) fun s2 q2 => ?_
  have k2 := q2.tok
  rw [if_neg (by omega), if_neg (by omega), if_neg (by omega), cE_199_41, cF_199_41, if_neg (by omega), if_neg (by omega), if_neg (by omega), if_neg (by omega), if_pos (by omega)]
  refine RO_tail ?_
  rw [cS_206, cF_206_0, q2.beg, q2.1.val]
  refine RO_tk ht q2 hT fun s3 q3 => ?_
  rw [if_neg (by omega), if_neg (by omega), if_neg (by omega)]
  have a3 := q3.1.at0
  refine RO_l0 ht q3.1 hT2 fun s4 q4 => ?_
  rw [if_pos (by omega)]
  refine RO_la q4 (by simp only [List.length_cons]; omega) fun s5 q5 => ?_
  rw [if_pos (by rw [q5.tok]; exact hc2), if_pos (by rw [q5.lin, hl]; rfl), if_pos q5.nof]
  refine RO_tail ?_
  rw [q5.len ht a3.1 a3.2 hT2, cS_201, cF_201_0, q5.beg, q5.1.val]
  have q5' : rRt tx n (t.2.2.2.1, d + 1, rn, pu, lf, [] ++ V, (6, 0, 0, 0, 0) :: (4, 0, 0, 0, 0) :: K, S) t2 s5 := q5
  refine RO_re q5' hn rfl 0 fun s6 q6 => RO_tk ht q6 hT2 fun s7 q7 => RO_ret ?_
  have := q7.1
  simp only [show decide ((12 : Int) < 44 ∨ 49 < (12 : Int)) = true by decide, Bool.and_true] at this
  exact this
theorem t_2ko0 (ht : tOk tx n) {e d rn pu : Int} {lf : Bool} {V : List tT} {K : List rTs} {S : List rSg} {t : tTk} {b c x : Int} (hT : lxG tx n true e = some t) {t2 : tTk} (hc : rNo t = 1000) (hT2 : lxG tx n false t.2.2.2.1 = some t2) (hl : ¬ (rNo t2 = 1 ∧ t2.2.2.2.2 = false)) (hn : rn < 499) (h0 : 0 ≤ d) (hd : d < 20 ∨ 20 ≤ d ∧ d ≤ 30 ∧ rNo t = 0) (hK : (K.length : Int) ≤ 870) : rTo tx n (e, d, rn, pu, lf, V, (2, 0, b, c, x) :: K, S) (t.2.2.2.1, d + 1, rn + 1, pu, lf, ((12, t.2.2.1, 0, 0, false), .leaf) :: V, (6, 0, 0, 0, 0) :: (4, 0, 0, 0, 0) :: K, S) := by
  refine rTo_mk fun s q => rd_20 (a := 0) q (by omega) fun s q => ?_
  have a0 := q.at0
  rw [cS_199, cF_199_0]
  refine RO_bi (en_ok ht q hT h0 hd) fun z s1 g => ?_
  obtain ⟨rfl, q1⟩ := g
  rw [if_neg (by decide)]
  refine RO_la q1 (by omega) fun s2 q2 => ?_
  have k2 := q2.tok
  rw [if_neg (by omega), if_neg (by omega), if_neg (by omega), cE_199_41, cF_199_41, if_neg (by omega), if_neg (by omega), if_neg (by omega), if_neg (by omega), if_pos (by omega)]
  refine RO_tail ?_
  rw [cS_206, cF_206_0, q2.beg, q2.1.val]
  refine RO_tk ht q2 hT fun s3 q3 => ?_
  rw [if_neg (by omega), if_neg (by omega), if_neg (by omega)]
  refine RO_l0 ht q3.1 hT2 fun s4 q4 => ?_
  rw [if_pos (by omega)]
  refine RO_la q4 (by simp only [List.length_cons]; omega) fun s5 q5 => ?_
  have q5' : rRt tx n (t.2.2.2.1, d + 1, rn, pu, lf, [] ++ V, (6, 0, 0, 0, 0) :: (4, 0, 0, 0, 0) :: K, S) t2 s5 := q5
  have fin : RO s5 (cm_bv (cm_sem 202 [.inr (.inl 41), .inl 12, .inl (t.2.2.1), .inl 0, .inl (V.length : Int)] s5) fun s20 => some (.inl none, s20)) (rR tx n (t.2.2.2.1, d + 1, rn + 1, pu, lf, ((12, t.2.2.1, 0, 0, false), .leaf) :: V, (6, 0, 0, 0, 0) :: (4, 0, 0, 0, 0) :: K, S)) := by
    refine RO_re q5' hn rfl 0 fun s6 q6 => RO_ret ?_
    have := q6.1
    simp only [show decide ((12 : Int) < 44 ∨ 49 < (12 : Int)) = true by decide, Bool.and_true] at this
    exact this
  refine RO_ite (fun h1 => RO_ite (fun h2 => ?_) fun _ => fin) fun _ => fin
  exfalso
  rw [q5.lin, cm_n0] at h2
  exact hl ⟨by rw [← q5.tok]; exact h1, h2⟩
theorem t_2ko1 (ht : tOk tx n) {e d rn pu : Int} {lf : Bool} {V : List tT} {K : List rTs} {S : List rSg} {t : tTk} {b c x : Int} (hT : lxG tx n true e = some t) {t2 : tTk} (hc : rNo t = 1000) (hT2 : lxG tx n false t.2.2.2.1 = some t2) (hl : ¬ (rNo t2 = 1 ∧ t2.2.2.2.2 = false)) (hn : rn < 499) (h0 : 0 ≤ d) (hd : d < 20 ∨ 20 ≤ d ∧ d ≤ 30 ∧ rNo t = 0) (hK : (K.length : Int) ≤ 870) : rTo tx n (e, d, rn, pu, lf, V, (2, 1, b, c, x) :: K, S) (t.2.2.2.1, d + 1, rn + 1, pu, lf, ((12, t.2.2.1, 0, 0, false), .leaf) :: V, (6, 0, 0, 0, 0) :: (4, 0, 0, 0, 0) :: K, S) := by
  refine rTo_mk fun s q => rd_21 (a := 0) q (by omega) fun s q => ?_
  have a0 := q.at0
  rw [cS_199, cF_199_0]
  refine RO_bi (en_ok ht q hT h0 hd) fun z s1 g => ?_
  obtain ⟨rfl, q1⟩ := g
  rw [if_neg (by decide)]
  refine RO_la q1 (by omega) fun s2 q2 => ?_
  have k2 := q2.tok
  rw [if_neg (by omega), if_neg (by omega), if_neg (by omega), cE_199_41, cF_199_41, if_neg (by omega), if_neg (by omega), if_neg (by omega), if_neg (by omega), if_pos (by omega)]
  refine RO_tail ?_
  rw [cS_206, cF_206_0, q2.beg, q2.1.val]
  refine RO_tk ht q2 hT fun s3 q3 => ?_
  rw [if_neg (by omega), if_neg (by omega), if_neg (by omega)]
  refine RO_l0 ht q3.1 hT2 fun s4 q4 => ?_
  rw [if_pos (by omega)]
  refine RO_la q4 (by simp only [List.length_cons]; omega) fun s5 q5 => ?_
  have q5' : rRt tx n (t.2.2.2.1, d + 1, rn, pu, lf, [] ++ V, (6, 0, 0, 0, 0) :: (4, 0, 0, 0, 0) :: K, S) t2 s5 := q5
  have fin : RO s5 (cm_bv (cm_sem 202 [.inr (.inl 41), .inl 12, .inl (t.2.2.1), .inl 0, .inl (V.length : Int)] s5) fun s20 => some (.inl none, s20)) (rR tx n (t.2.2.2.1, d + 1, rn + 1, pu, lf, ((12, t.2.2.1, 0, 0, false), .leaf) :: V, (6, 0, 0, 0, 0) :: (4, 0, 0, 0, 0) :: K, S)) := by
    refine RO_re q5' hn rfl 0 fun s6 q6 => RO_ret ?_
    have := q6.1
    simp only [show decide ((12 : Int) < 44 ∨ 49 < (12 : Int)) = true by decide, Bool.and_true] at this
    exact this
  refine RO_ite (fun h1 => RO_ite (fun h2 => ?_) fun _ => fin) fun _ => fin
  exfalso
  rw [q5.lin, cm_n0] at h2
  exact hl ⟨by rw [← q5.tok]; exact h1, h2⟩
theorem t_2cn0 (ht : tOk tx n) {e d rn pu : Int} {lf : Bool} {V : List tT} {K : List rTs} {S : List rSg} {t : tTk} {b c x : Int} (hT : lxG tx n true e = some t) {t2 : tTk} (hc : rNo t = 1003) (hT2 : lxG tx n false t.2.2.2.1 = some t2) (hc2 : rNo t2 = 1) (hl : t2.2.2.2.2 = false) (hn : rn < 499) (h0 : 0 ≤ d) (hd : d < 20 ∨ 20 ≤ d ∧ d ≤ 30 ∧ rNo t = 0) (hK : (K.length : Int) ≤ 870) : rTo tx n (e, d, rn, pu, lf, V, (2, 0, b, c, x) :: K, S) (t2.2.2.2.1, d + 1, rn + 1, pu, lf, ((11, t2.2.2.1, t2.2.2.2.1 - t2.2.2.1, 0, false), .leaf) :: V, (6, 0, 0, 0, 0) :: (4, 0, 0, 0, 0) :: K, S) := by
  refine rTo_mk fun s q => rd_20 (a := 0) q (by omega) fun s q => ?_
  have a0 := q.at0
  rw [cS_199, cF_199_0]
  refine RO_bi (en_ok ht q hT h0 hd) fun z s1 g => ?_
  obtain ⟨rfl, q1⟩ := g
  rw [if_neg (by decide)]
  refine RO_la q1 (by omega) fun s2 q2 => ?_
  have k2 := q2.tok
  rw [if_neg (by omega), if_neg (by omega), if_neg (by omega), cE_199_41, cF_199_41, if_neg (by omega), if_neg (by omega), if_neg (by omega), if_neg (by omega), if_neg (by omega), if_pos (by omega)]
  refine RO_tail ?_
  rw [cS_206, cF_206_0, q2.beg, q2.1.val]
  refine RO_tk ht q2 hT fun s3 q3 => ?_
  rw [if_neg (by omega), if_neg (by omega), if_neg (by omega)]
  have a3 := q3.1.at0
  refine RO_l0 ht q3.1 hT2 fun s4 q4 => ?_
  rw [if_neg (by omega)]
  refine RO_la q4 (by simp only [List.length_cons]; omega) fun s5 q5 => ?_
  rw [if_pos (by rw [q5.tok]; exact hc2), if_pos (by rw [q5.lin, hl]; rfl), if_pos q5.nof]
  refine RO_tail ?_
  rw [q5.len ht a3.1 a3.2 hT2, cS_201, cF_201_0, q5.beg, q5.1.val]
  have q5' : rRt tx n (t.2.2.2.1, d + 1, rn, pu, lf, [] ++ V, (6, 0, 0, 0, 0) :: (4, 0, 0, 0, 0) :: K, S) t2 s5 := q5
  refine RO_re q5' hn rfl 0 fun s6 q6 => RO_tk ht q6 hT2 fun s7 q7 => RO_ret ?_
  have := q7.1
  simp only [show decide ((11 : Int) < 44 ∨ 49 < (11 : Int)) = true by decide, Bool.and_true] at this
  exact this
theorem t_2cn1 (ht : tOk tx n) {e d rn pu : Int} {lf : Bool} {V : List tT} {K : List rTs} {S : List rSg} {t : tTk} {b c x : Int} (hT : lxG tx n true e = some t) {t2 : tTk} (hc : rNo t = 1003) (hT2 : lxG tx n false t.2.2.2.1 = some t2) (hc2 : rNo t2 = 1) (hl : t2.2.2.2.2 = false) (hn : rn < 499) (h0 : 0 ≤ d) (hd : d < 20 ∨ 20 ≤ d ∧ d ≤ 30 ∧ rNo t = 0) (hK : (K.length : Int) ≤ 870) : rTo tx n (e, d, rn, pu, lf, V, (2, 1, b, c, x) :: K, S) (t2.2.2.2.1, d + 1, rn + 1, pu, lf, ((11, t2.2.2.1, t2.2.2.2.1 - t2.2.2.1, 0, false), .leaf) :: V, (6, 0, 0, 0, 0) :: (4, 0, 0, 0, 0) :: K, S) := by
  refine rTo_mk fun s q => rd_21 (a := 0) q (by omega) fun s q => ?_
  have a0 := q.at0
  rw [cS_199, cF_199_0]
  refine RO_bi (en_ok ht q hT h0 hd) fun z s1 g => ?_
  obtain ⟨rfl, q1⟩ := g
  rw [if_neg (by decide)]
  refine RO_la q1 (by omega) fun s2 q2 => ?_
  have k2 := q2.tok
  rw [if_neg (by omega), if_neg (by omega), if_neg (by omega), cE_199_41, cF_199_41, if_neg (by omega), if_neg (by omega), if_neg (by omega), if_neg (by omega), if_neg (by omega), if_pos (by omega)]
  refine RO_tail ?_
  rw [cS_206, cF_206_0, q2.beg, q2.1.val]
  refine RO_tk ht q2 hT fun s3 q3 => ?_
  rw [if_neg (by omega), if_neg (by omega), if_neg (by omega)]
  have a3 := q3.1.at0
  refine RO_l0 ht q3.1 hT2 fun s4 q4 => ?_
  rw [if_neg (by omega)]
  refine RO_la q4 (by simp only [List.length_cons]; omega) fun s5 q5 => ?_
  rw [if_pos (by rw [q5.tok]; exact hc2), if_pos (by rw [q5.lin, hl]; rfl), if_pos q5.nof]
  refine RO_tail ?_
  rw [q5.len ht a3.1 a3.2 hT2, cS_201, cF_201_0, q5.beg, q5.1.val]
  have q5' : rRt tx n (t.2.2.2.1, d + 1, rn, pu, lf, [] ++ V, (6, 0, 0, 0, 0) :: (4, 0, 0, 0, 0) :: K, S) t2 s5 := q5
  refine RO_re q5' hn rfl 0 fun s6 q6 => RO_tk ht q6 hT2 fun s7 q7 => RO_ret ?_
  have := q7.1
  simp only [show decide ((11 : Int) < 44 ∨ 49 < (11 : Int)) = true by decide, Bool.and_true] at this
  exact this
theorem t_2co0 (ht : tOk tx n) {e d rn pu : Int} {lf : Bool} {V : List tT} {K : List rTs} {S : List rSg} {t : tTk} {b c x : Int} (hT : lxG tx n true e = some t) {t2 : tTk} (hc : rNo t = 1003) (hT2 : lxG tx n false t.2.2.2.1 = some t2) (hl : ¬ (rNo t2 = 1 ∧ t2.2.2.2.2 = false)) (hn : rn < 499) (h0 : 0 ≤ d) (hd : d < 20 ∨ 20 ≤ d ∧ d ≤ 30 ∧ rNo t = 0) (hK : (K.length : Int) ≤ 870) : rTo tx n (e, d, rn, pu, lf, V, (2, 0, b, c, x) :: K, S) (t.2.2.2.1, d + 1, rn + 1, pu, lf, ((11, t.2.2.1, 0, 0, false), .leaf) :: V, (6, 0, 0, 0, 0) :: (4, 0, 0, 0, 0) :: K, S) := by
  refine rTo_mk fun s q => rd_20 (a := 0) q (by omega) fun s q => ?_
  have a0 := q.at0
  rw [cS_199, cF_199_0]
  refine RO_bi (en_ok ht q hT h0 hd) fun z s1 g => ?_
  obtain ⟨rfl, q1⟩ := g
  rw [if_neg (by decide)]
  refine RO_la q1 (by omega) fun s2 q2 => ?_
  have k2 := q2.tok
  rw [if_neg (by omega), if_neg (by omega), if_neg (by omega), cE_199_41, cF_199_41, if_neg (by omega), if_neg (by omega), if_neg (by omega), if_neg (by omega), if_neg (by omega), if_pos (by omega)]
  refine RO_tail ?_
  rw [cS_206, cF_206_0, q2.beg, q2.1.val]
  refine RO_tk ht q2 hT fun s3 q3 => ?_
  rw [if_neg (by omega), if_neg (by omega), if_neg (by omega)]
  refine RO_l0 ht q3.1 hT2 fun s4 q4 => ?_
  rw [if_neg (by omega)]
  refine RO_la q4 (by simp only [List.length_cons]; omega) fun s5 q5 => ?_
  have q5' : rRt tx n (t.2.2.2.1, d + 1, rn, pu, lf, [] ++ V, (6, 0, 0, 0, 0) :: (4, 0, 0, 0, 0) :: K, S) t2 s5 := q5
  have fin : RO s5 (cm_bv (cm_sem 202 [.inr (.inl 41), .inl 11, .inl (t.2.2.1), .inl 0, .inl (V.length : Int)] s5) fun s20 => some (.inl none, s20)) (rR tx n (t.2.2.2.1, d + 1, rn + 1, pu, lf, ((11, t.2.2.1, 0, 0, false), .leaf) :: V, (6, 0, 0, 0, 0) :: (4, 0, 0, 0, 0) :: K, S)) := by
    refine RO_re q5' hn rfl 0 fun s6 q6 => RO_ret ?_
    have := q6.1
    simp only [show decide ((11 : Int) < 44 ∨ 49 < (11 : Int)) = true by decide, Bool.and_true] at this
    exact this
  refine RO_ite (fun h1 => RO_ite (fun h2 => ?_) fun _ => fin) fun _ => fin
  exfalso
  rw [q5.lin, cm_n0] at h2
  exact hl ⟨by rw [← q5.tok]; exact h1, h2⟩
theorem t_2co1 (ht : tOk tx n) {e d rn pu : Int} {lf : Bool} {V : List tT} {K : List rTs} {S : List rSg} {t : tTk} {b c x : Int} (hT : lxG tx n true e = some t) {t2 : tTk} (hc : rNo t = 1003) (hT2 : lxG tx n false t.2.2.2.1 = some t2) (hl : ¬ (rNo t2 = 1 ∧ t2.2.2.2.2 = false)) (hn : rn < 499) (h0 : 0 ≤ d) (hd : d < 20 ∨ 20 ≤ d ∧ d ≤ 30 ∧ rNo t = 0) (hK : (K.length : Int) ≤ 870) : rTo tx n (e, d, rn, pu, lf, V, (2, 1, b, c, x) :: K, S) (t.2.2.2.1, d + 1, rn + 1, pu, lf, ((11, t.2.2.1, 0, 0, false), .leaf) :: V, (6, 0, 0, 0, 0) :: (4, 0, 0, 0, 0) :: K, S) := by
  refine rTo_mk fun s q => rd_21 (a := 0) q (by omega) fun s q => ?_
  have a0 := q.at0
  rw [cS_199, cF_199_0]
  refine RO_bi (en_ok ht q hT h0 hd) fun z s1 g => ?_
  obtain ⟨rfl, q1⟩ := g
  rw [if_neg (by decide)]
  refine RO_la q1 (by omega) fun s2 q2 => ?_
  have k2 := q2.tok
  rw [if_neg (by omega), if_neg (by omega), if_neg (by omega), cE_199_41, cF_199_41, if_neg (by omega), if_neg (by omega), if_neg (by omega), if_neg (by omega), if_neg (by omega), if_pos (by omega)]
  refine RO_tail ?_
  rw [cS_206, cF_206_0, q2.beg, q2.1.val]
  refine RO_tk ht q2 hT fun s3 q3 => ?_
  rw [if_neg (by omega), if_neg (by omega), if_neg (by omega)]
  refine RO_l0 ht q3.1 hT2 fun s4 q4 => ?_
  rw [if_neg (by omega)]
  refine RO_la q4 (by simp only [List.length_cons]; omega) fun s5 q5 => ?_
  have q5' : rRt tx n (t.2.2.2.1, d + 1, rn, pu, lf, [] ++ V, (6, 0, 0, 0, 0) :: (4, 0, 0, 0, 0) :: K, S) t2 s5 := q5
  have fin : RO s5 (cm_bv (cm_sem 202 [.inr (.inl 41), .inl 11, .inl (t.2.2.1), .inl 0, .inl (V.length : Int)] s5) fun s20 => some (.inl none, s20)) (rR tx n (t.2.2.2.1, d + 1, rn + 1, pu, lf, ((11, t.2.2.1, 0, 0, false), .leaf) :: V, (6, 0, 0, 0, 0) :: (4, 0, 0, 0, 0) :: K, S)) := by
    refine RO_re q5' hn rfl 0 fun s6 q6 => RO_ret ?_
    have := q6.1
    simp only [show decide ((11 : Int) < 44 ∨ 49 < (11 : Int)) = true by decide, Bool.and_true] at this
    exact this
  refine RO_ite (fun h1 => RO_ite (fun h2 => ?_) fun _ => fin) fun _ => fin
  exfalso
  rw [q5.lin, cm_n0] at h2
  exact hl ⟨by rw [← q5.tok]; exact h1, h2⟩
theorem co_g {e d rn pu : Int} {lf : Bool} {V : List tT} {K : List rTs} {S : List rSg} {t : tTk} {s : cm_S} (q : rRt tx n (e, d, rn, pu, lf, V, K, S) t s) (hK : (K.length : Int) ≤ 887) : RO s (cm_sem 209 [.inr (.inl 41)] s) (rRt tx n (e, d, rn, pu, lf, V, (5, 40, 0, 0, 0) :: (7, 0, 0, 0, 0) :: (5, 41, 0, 0, 0) :: K, S) t) := by
  rw [cS_209, cF_209_0]
  exact RO_la q (by omega) fun s1 q1 => RO_la q1 (by simp only [List.length_cons]; omega) fun s2 q2 => RO_la q2 (by simp only [List.length_cons]; omega) fun s3 q3 => RO_ret q3
theorem t_2i0 (ht : tOk tx n) {e d rn pu : Int} {lf : Bool} {V : List tT} {K : List rTs} {S : List rSg} {t : tTk} {b c x : Int} (hT : lxG tx n true e = some t) (hc : rNo t = 1012) (h0 : 0 ≤ d) (hd : d < 20 ∨ 20 ≤ d ∧ d ≤ 30 ∧ rNo t = 0) (hK : (K.length : Int) ≤ 870) : rTo tx n (e, d, rn, pu, lf, V, (2, 0, b, c, x) :: K, S) (t.2.2.2.1, d + 1, rn, pu, lf, V, (5, 40, 0, 0, 0) :: (7, 0, 0, 0, 0) :: (5, 41, 0, 0, 0) :: (2, 0, 0, 0, 0) :: (32, 0, 0, 0, 0) :: (3, 6, t.2.2.1, 0, V.length) :: (4, 0, 0, 0, 0) :: K, S) := by
  refine rTo_mk fun s q => rd_20 (a := 0) q (by omega) fun s q => ?_
  have a0 := q.at0
  rw [cS_199, cF_199_0]
  refine RO_bi (en_ok ht q hT h0 hd) fun z s1 g => ?_
  obtain ⟨rfl, q1⟩ := g
  rw [if_neg (by decide)]
  refine RO_la q1 (by omega) fun s2 q2 => ?_
  have k2 := q2.tok
  rw [if_neg (by omega), if_neg (by omega), if_neg (by omega), cE_199_41, cF_199_41, if_neg (by omega), if_neg (by omega), if_neg (by omega), if_neg (by omega), if_neg (by omega), if_neg (by omega), if_neg (by omega), cS_207, cF_207_0, if_pos (by omega), cm_bi_i, if_neg (by decide)]
  refine RO_tail ?_
  rw [cS_208, cF_208_0, q2.beg, q2.1.val]
  refine RO_tk ht q2 hT fun s3 q3 => ?_
  rw [if_pos (by omega)]
  exact RO_pu q3 (by simp only [List.length_cons]; omega) fun s4 q4 => RO_la q4 (by simp only [List.length_cons]; omega) fun s5 q5 => RO_la q5 (by simp only [List.length_cons]; omega) fun s6 q6 => RO_bind (co_g q6 (by simp only [List.length_cons]; omega)) fun s7 q7 => RO_ret q7.1
theorem t_2i1 (ht : tOk tx n) {e d rn pu : Int} {lf : Bool} {V : List tT} {K : List rTs} {S : List rSg} {t : tTk} {b c x : Int} (hT : lxG tx n true e = some t) (hc : rNo t = 1012) (h0 : 0 ≤ d) (hd : d < 20 ∨ 20 ≤ d ∧ d ≤ 30 ∧ rNo t = 0) (hK : (K.length : Int) ≤ 870) : rTo tx n (e, d, rn, pu, lf, V, (2, 1, b, c, x) :: K, S) (t.2.2.2.1, d + 1, rn, pu, lf, V, (5, 40, 0, 0, 0) :: (7, 0, 0, 0, 0) :: (5, 41, 0, 0, 0) :: (2, 0, 0, 0, 0) :: (32, 0, 0, 0, 0) :: (3, 6, t.2.2.1, 0, V.length) :: (4, 0, 0, 0, 0) :: K, S) := by
  refine rTo_mk fun s q => rd_21 (a := 0) q (by omega) fun s q => ?_
  have a0 := q.at0
  rw [cS_199, cF_199_0]
  refine RO_bi (en_ok ht q hT h0 hd) fun z s1 g => ?_
  obtain ⟨rfl, q1⟩ := g
  rw [if_neg (by decide)]
  refine RO_la q1 (by omega) fun s2 q2 => ?_
  have k2 := q2.tok
  rw [if_neg (by omega), if_neg (by omega), if_neg (by omega), cE_199_41, cF_199_41, if_neg (by omega), if_neg (by omega), if_neg (by omega), if_neg (by omega), if_neg (by omega), if_neg (by omega), if_neg (by omega), cS_207, cF_207_0, if_pos (by omega), cm_bi_i, if_neg (by decide)]
  refine RO_tail ?_
  rw [cS_208, cF_208_0, q2.beg, q2.1.val]
  refine RO_tk ht q2 hT fun s3 q3 => ?_
  rw [if_pos (by omega)]
  exact RO_pu q3 (by simp only [List.length_cons]; omega) fun s4 q4 => RO_la q4 (by simp only [List.length_cons]; omega) fun s5 q5 => RO_la q5 (by simp only [List.length_cons]; omega) fun s6 q6 => RO_bind (co_g q6 (by simp only [List.length_cons]; omega)) fun s7 q7 => RO_ret q7.1
theorem t_2d0 (ht : tOk tx n) {e d rn pu : Int} {lf : Bool} {V : List tT} {K : List rTs} {S : List rSg} {t : tTk} {b c x : Int} (hT : lxG tx n true e = some t) (hc : rNo t = 1006) (h0 : 0 ≤ d) (hd : d < 20 ∨ 20 ≤ d ∧ d ≤ 30 ∧ rNo t = 0) (hK : (K.length : Int) ≤ 870) : rTo tx n (e, d, rn, pu, lf, V, (2, 0, b, c, x) :: K, S) (t.2.2.2.1, d + 1, rn, pu, lf, V, (2, 0, 0, 0, 0) :: (5, 1026, 0, 0, 0) :: (5, 40, 0, 0, 0) :: (7, 0, 0, 0, 0) :: (5, 41, 0, 0, 0) :: (6, 0, 0, 0, 0) :: (3, 7, t.2.2.1, 0, V.length) :: (4, 0, 0, 0, 0) :: K, S) := by
  refine rTo_mk fun s q => rd_20 (a := 0) q (by omega) fun s q => ?_
  have a0 := q.at0
  rw [cS_199, cF_199_0]
  refine RO_bi (en_ok ht q hT h0 hd) fun z s1 g => ?_
  obtain ⟨rfl, q1⟩ := g
  rw [if_neg (by decide)]
  refine RO_la q1 (by omega) fun s2 q2 => ?_
  have k2 := q2.tok
  rw [if_neg (by omega), if_neg (by omega), if_neg (by omega), cE_199_41, cF_199_41, if_neg (by omega), if_neg (by omega), if_neg (by omega), if_neg (by omega), if_neg (by omega), if_neg (by omega), if_neg (by omega), cS_207, cF_207_0, if_neg (by omega), if_pos (by omega), cm_bi_i, if_neg (by decide)]
  refine RO_tail ?_
  rw [cS_208, cF_208_0, q2.beg, q2.1.val]
  refine RO_tk ht q2 hT fun s3 q3 => ?_
  rw [if_neg (by omega), if_pos (by omega)]
  exact RO_pu q3 (by simp only [List.length_cons]; omega) fun s4 q4 => RO_la q4 (by simp only [List.length_cons]; omega) fun s5 q5 => RO_bind (co_g q5 (by simp only [List.length_cons]; omega)) fun s6 q6 => RO_la q6 (by simp only [List.length_cons]; omega) fun s7 q7 => RO_la q7 (by simp only [List.length_cons]; omega) fun s8 q8 => RO_ret q8.1
theorem t_2d1 (ht : tOk tx n) {e d rn pu : Int} {lf : Bool} {V : List tT} {K : List rTs} {S : List rSg} {t : tTk} {b c x : Int} (hT : lxG tx n true e = some t) (hc : rNo t = 1006) (h0 : 0 ≤ d) (hd : d < 20 ∨ 20 ≤ d ∧ d ≤ 30 ∧ rNo t = 0) (hK : (K.length : Int) ≤ 870) : rTo tx n (e, d, rn, pu, lf, V, (2, 1, b, c, x) :: K, S) (t.2.2.2.1, d + 1, rn, pu, lf, V, (2, 0, 0, 0, 0) :: (5, 1026, 0, 0, 0) :: (5, 40, 0, 0, 0) :: (7, 0, 0, 0, 0) :: (5, 41, 0, 0, 0) :: (6, 0, 0, 0, 0) :: (3, 7, t.2.2.1, 0, V.length) :: (4, 0, 0, 0, 0) :: K, S) := by
  refine rTo_mk fun s q => rd_21 (a := 0) q (by omega) fun s q => ?_
  have a0 := q.at0
  rw [cS_199, cF_199_0]
  refine RO_bi (en_ok ht q hT h0 hd) fun z s1 g => ?_
  obtain ⟨rfl, q1⟩ := g
  rw [if_neg (by decide)]
  refine RO_la q1 (by omega) fun s2 q2 => ?_
  have k2 := q2.tok
  rw [if_neg (by omega), if_neg (by omega), if_neg (by omega), cE_199_41, cF_199_41, if_neg (by omega), if_neg (by omega), if_neg (by omega), if_neg (by omega), if_neg (by omega), if_neg (by omega), if_neg (by omega), cS_207, cF_207_0, if_neg (by omega), if_pos (by omega), cm_bi_i, if_neg (by decide)]
  refine RO_tail ?_
  rw [cS_208, cF_208_0, q2.beg, q2.1.val]
  refine RO_tk ht q2 hT fun s3 q3 => ?_
  rw [if_neg (by omega), if_pos (by omega)]
  exact RO_pu q3 (by simp only [List.length_cons]; omega) fun s4 q4 => RO_la q4 (by simp only [List.length_cons]; omega) fun s5 q5 => RO_bind (co_g q5 (by simp only [List.length_cons]; omega)) fun s6 q6 => RO_la q6 (by simp only [List.length_cons]; omega) fun s7 q7 => RO_la q7 (by simp only [List.length_cons]; omega) fun s8 q8 => RO_ret q8.1
theorem t_2w0 (ht : tOk tx n) {e d rn pu : Int} {lf : Bool} {V : List tT} {K : List rTs} {S : List rSg} {t : tTk} {b c x : Int} (hT : lxG tx n true e = some t) (hc : rNo t = 1026) (h0 : 0 ≤ d) (hd : d < 20 ∨ 20 ≤ d ∧ d ≤ 30 ∧ rNo t = 0) (hK : (K.length : Int) ≤ 870) : rTo tx n (e, d, rn, pu, lf, V, (2, 0, b, c, x) :: K, S) (t.2.2.2.1, d + 1, rn, pu, lf, V, (5, 40, 0, 0, 0) :: (7, 0, 0, 0, 0) :: (5, 41, 0, 0, 0) :: (2, 0, 0, 0, 0) :: (3, 8, t.2.2.1, 0, V.length) :: (4, 0, 0, 0, 0) :: K, S) := by
  refine rTo_mk fun s q => rd_20 (a := 0) q (by omega) fun s q => ?_
  have a0 := q.at0
  rw [cS_199, cF_199_0]
  refine RO_bi (en_ok ht q hT h0 hd) fun z s1 g => ?_
  obtain ⟨rfl, q1⟩ := g
  rw [if_neg (by decide)]
  refine RO_la q1 (by omega) fun s2 q2 => ?_
  have k2 := q2.tok
  rw [if_neg (by omega), if_neg (by omega), if_neg (by omega), cE_199_41, cF_199_41, if_neg (by omega), if_neg (by omega), if_neg (by omega), if_neg (by omega), if_neg (by omega), if_neg (by omega), if_neg (by omega), cS_207, cF_207_0, if_neg (by omega), if_neg (by omega), if_pos (by omega), cm_bi_i, if_neg (by decide)]
  refine RO_tail ?_
  rw [cS_208, cF_208_0, q2.beg, q2.1.val]
  refine RO_tk ht q2 hT fun s3 q3 => ?_
  rw [if_neg (by omega), if_neg (by omega), if_pos (by omega)]
  exact RO_pu q3 (by simp only [List.length_cons]; omega) fun s4 q4 => RO_la q4 (by simp only [List.length_cons]; omega) fun s5 q5 => RO_bind (co_g q5 (by simp only [List.length_cons]; omega)) fun s6 q6 => RO_ret q6.1
theorem t_2w1 (ht : tOk tx n) {e d rn pu : Int} {lf : Bool} {V : List tT} {K : List rTs} {S : List rSg} {t : tTk} {b c x : Int} (hT : lxG tx n true e = some t) (hc : rNo t = 1026) (h0 : 0 ≤ d) (hd : d < 20 ∨ 20 ≤ d ∧ d ≤ 30 ∧ rNo t = 0) (hK : (K.length : Int) ≤ 870) : rTo tx n (e, d, rn, pu, lf, V, (2, 1, b, c, x) :: K, S) (t.2.2.2.1, d + 1, rn, pu, lf, V, (5, 40, 0, 0, 0) :: (7, 0, 0, 0, 0) :: (5, 41, 0, 0, 0) :: (2, 0, 0, 0, 0) :: (3, 8, t.2.2.1, 0, V.length) :: (4, 0, 0, 0, 0) :: K, S) := by
  refine rTo_mk fun s q => rd_21 (a := 0) q (by omega) fun s q => ?_
  have a0 := q.at0
  rw [cS_199, cF_199_0]
  refine RO_bi (en_ok ht q hT h0 hd) fun z s1 g => ?_
  obtain ⟨rfl, q1⟩ := g
  rw [if_neg (by decide)]
  refine RO_la q1 (by omega) fun s2 q2 => ?_
  have k2 := q2.tok
  rw [if_neg (by omega), if_neg (by omega), if_neg (by omega), cE_199_41, cF_199_41, if_neg (by omega), if_neg (by omega), if_neg (by omega), if_neg (by omega), if_neg (by omega), if_neg (by omega), if_neg (by omega), cS_207, cF_207_0, if_neg (by omega), if_neg (by omega), if_pos (by omega), cm_bi_i, if_neg (by decide)]
  refine RO_tail ?_
  rw [cS_208, cF_208_0, q2.beg, q2.1.val]
  refine RO_tk ht q2 hT fun s3 q3 => ?_
  rw [if_neg (by omega), if_neg (by omega), if_pos (by omega)]
  exact RO_pu q3 (by simp only [List.length_cons]; omega) fun s4 q4 => RO_la q4 (by simp only [List.length_cons]; omega) fun s5 q5 => RO_bind (co_g q5 (by simp only [List.length_cons]; omega)) fun s6 q6 => RO_ret q6.1
theorem t_2o0 (ht : tOk tx n) {e d rn pu : Int} {lf : Bool} {V : List tT} {K : List rTs} {S : List rSg} {t : tTk} {b c x : Int} (hT : lxG tx n true e = some t) (hc : rNo t = 1010) (h0 : 0 ≤ d) (hd : d < 20 ∨ 20 ≤ d ∧ d ≤ 30 ∧ rNo t = 0) (hK : (K.length : Int) ≤ 870) : rTo tx n (e, d, rn, pu, lf, V, (2, 0, b, c, x) :: K, S) (t.2.2.2.1, d + 1, rn, pu, lf, V, (5, 40, 0, 0, 0) :: (33, t.2.2.1, V.length, 0, 0) :: (4, 0, 0, 0, 0) :: K, S) := by
  refine rTo_mk fun s q => rd_20 (a := 0) q (by omega) fun s q => ?_
  have a0 := q.at0
  rw [cS_199, cF_199_0]
  refine RO_bi (en_ok ht q hT h0 hd) fun z s1 g => ?_
  obtain ⟨rfl, q1⟩ := g
  rw [if_neg (by decide)]
  refine RO_la q1 (by omega) fun s2 q2 => ?_
  have k2 := q2.tok
  rw [if_neg (by omega), if_neg (by omega), if_neg (by omega), cE_199_41, cF_199_41, if_neg (by omega), if_neg (by omega), if_neg (by omega), if_neg (by omega), if_neg (by omega), if_neg (by omega), if_neg (by omega), cS_207, cF_207_0, if_neg (by omega), if_neg (by omega), if_neg (by omega), if_pos (by omega), cm_bi_i, if_neg (by decide)]
  refine RO_tail ?_
  rw [cS_208, cF_208_0, q2.beg, q2.1.val]
  refine RO_tk ht q2 hT fun s3 q3 => ?_
  rw [if_neg (by omega), if_neg (by omega), if_neg (by omega), if_pos (by omega)]
  exact RO_pu q3 (by simp only [List.length_cons]; omega) fun s4 q4 => RO_la q4 (by simp only [List.length_cons]; omega) fun s5 q5 => RO_ret q5.1
theorem t_2o1 (ht : tOk tx n) {e d rn pu : Int} {lf : Bool} {V : List tT} {K : List rTs} {S : List rSg} {t : tTk} {b c x : Int} (hT : lxG tx n true e = some t) (hc : rNo t = 1010) (h0 : 0 ≤ d) (hd : d < 20 ∨ 20 ≤ d ∧ d ≤ 30 ∧ rNo t = 0) (hK : (K.length : Int) ≤ 870) : rTo tx n (e, d, rn, pu, lf, V, (2, 1, b, c, x) :: K, S) (t.2.2.2.1, d + 1, rn, pu, lf, V, (5, 40, 0, 0, 0) :: (33, t.2.2.1, V.length, 0, 0) :: (4, 0, 0, 0, 0) :: K, S) := by
  refine rTo_mk fun s q => rd_21 (a := 0) q (by omega) fun s q => ?_
  have a0 := q.at0
  rw [cS_199, cF_199_0]
  refine RO_bi (en_ok ht q hT h0 hd) fun z s1 g => ?_
  obtain ⟨rfl, q1⟩ := g
  rw [if_neg (by decide)]
  refine RO_la q1 (by omega) fun s2 q2 => ?_
  have k2 := q2.tok
  rw [if_neg (by omega), if_neg (by omega), if_neg (by omega), cE_199_41, cF_199_41, if_neg (by omega), if_neg (by omega), if_neg (by omega), if_neg (by omega), if_neg (by omega), if_neg (by omega), if_neg (by omega), cS_207, cF_207_0, if_neg (by omega), if_neg (by omega), if_neg (by omega), if_pos (by omega), cm_bi_i, if_neg (by decide)]
  refine RO_tail ?_
  rw [cS_208, cF_208_0, q2.beg, q2.1.val]
  refine RO_tk ht q2 hT fun s3 q3 => ?_
  rw [if_neg (by omega), if_neg (by omega), if_neg (by omega), if_pos (by omega)]
  exact RO_pu q3 (by simp only [List.length_cons]; omega) fun s4 q4 => RO_la q4 (by simp only [List.length_cons]; omega) fun s5 q5 => RO_ret q5.1
theorem t_2s0 (ht : tOk tx n) {e d rn pu : Int} {lf : Bool} {V : List tT} {K : List rTs} {S : List rSg} {t : tTk} {b c x : Int} (hT : lxG tx n true e = some t) (hc : rNo t = 1018) (h0 : 0 ≤ d) (hd : d < 20 ∨ 20 ≤ d ∧ d ≤ 30 ∧ rNo t = 0) (hK : (K.length : Int) ≤ 870) : rTo tx n (e, d, rn, pu, lf, V, (2, 0, b, c, x) :: K, S) (t.2.2.2.1, d + 1, rn, pu, lf, V, (5, 40, 0, 0, 0) :: (7, 0, 0, 0, 0) :: (5, 41, 0, 0, 0) :: (5, 123, 0, 0, 0) :: (37, 0, 0, 0, 0) :: (3, 14, t.2.2.1, 0, V.length) :: (4, 0, 0, 0, 0) :: K, S) := by
  refine rTo_mk fun s q => rd_20 (a := 0) q (by omega) fun s q => ?_
  have a0 := q.at0
  rw [cS_199, cF_199_0]
  refine RO_bi (en_ok ht q hT h0 hd) fun z s1 g => ?_
  obtain ⟨rfl, q1⟩ := g
  rw [if_neg (by decide)]
  refine RO_la q1 (by omega) fun s2 q2 => ?_
  have k2 := q2.tok
  rw [if_neg (by omega), if_neg (by omega), if_neg (by omega), cE_199_41, cF_199_41, if_neg (by omega), if_neg (by omega), if_neg (by omega), if_neg (by omega), if_neg (by omega), if_neg (by omega), if_neg (by omega), cS_207, cF_207_0, if_neg (by omega), if_neg (by omega), if_neg (by omega), if_neg (by omega), if_pos (by omega), cm_bi_i, if_neg (by decide)]
  refine RO_tail ?_
  rw [cS_208, cF_208_0, q2.beg, q2.1.val]
  refine RO_tk ht q2 hT fun s3 q3 => ?_
  rw [if_neg (by omega), if_neg (by omega), if_neg (by omega), if_neg (by omega), if_pos (by omega)]
  exact RO_pu q3 (by simp only [List.length_cons]; omega) fun s4 q4 => RO_la q4 (by simp only [List.length_cons]; omega) fun s5 q5 => RO_la q5 (by simp only [List.length_cons]; omega) fun s6 q6 => RO_bind (co_g q6 (by simp only [List.length_cons]; omega)) fun s7 q7 => RO_ret q7.1
theorem t_2s1 (ht : tOk tx n) {e d rn pu : Int} {lf : Bool} {V : List tT} {K : List rTs} {S : List rSg} {t : tTk} {b c x : Int} (hT : lxG tx n true e = some t) (hc : rNo t = 1018) (h0 : 0 ≤ d) (hd : d < 20 ∨ 20 ≤ d ∧ d ≤ 30 ∧ rNo t = 0) (hK : (K.length : Int) ≤ 870) : rTo tx n (e, d, rn, pu, lf, V, (2, 1, b, c, x) :: K, S) (t.2.2.2.1, d + 1, rn, pu, lf, V, (5, 40, 0, 0, 0) :: (7, 0, 0, 0, 0) :: (5, 41, 0, 0, 0) :: (5, 123, 0, 0, 0) :: (37, 0, 0, 0, 0) :: (3, 14, t.2.2.1, 0, V.length) :: (4, 0, 0, 0, 0) :: K, S) := by
  refine rTo_mk fun s q => rd_21 (a := 0) q (by omega) fun s q => ?_
  have a0 := q.at0
  rw [cS_199, cF_199_0]
  refine RO_bi (en_ok ht q hT h0 hd) fun z s1 g => ?_
  obtain ⟨rfl, q1⟩ := g
  rw [if_neg (by decide)]
  refine RO_la q1 (by omega) fun s2 q2 => ?_
  have k2 := q2.tok
  rw [if_neg (by omega), if_neg (by omega), if_neg (by omega), cE_199_41, cF_199_41, if_neg (by omega), if_neg (by omega), if_neg (by omega), if_neg (by omega), if_neg (by omega), if_neg (by omega), if_neg (by omega), cS_207, cF_207_0, if_neg (by omega), if_neg (by omega), if_neg (by omega), if_neg (by omega), if_pos (by omega), cm_bi_i, if_neg (by decide)]
  refine RO_tail ?_
  rw [cS_208, cF_208_0, q2.beg, q2.1.val]
  refine RO_tk ht q2 hT fun s3 q3 => ?_
  rw [if_neg (by omega), if_neg (by omega), if_neg (by omega), if_neg (by omega), if_pos (by omega)]
  exact RO_pu q3 (by simp only [List.length_cons]; omega) fun s4 q4 => RO_la q4 (by simp only [List.length_cons]; omega) fun s5 q5 => RO_la q5 (by simp only [List.length_cons]; omega) fun s6 q6 => RO_bind (co_g q6 (by simp only [List.length_cons]; omega)) fun s7 q7 => RO_ret q7.1
theorem t_2y0 (ht : tOk tx n) {e d rn pu : Int} {lf : Bool} {V : List tT} {K : List rTs} {S : List rSg} {t : tTk} {b c x : Int} (hT : lxG tx n true e = some t) (hc : rNo t = 1022) (h0 : 0 ≤ d) (hd : d < 20 ∨ 20 ≤ d ∧ d ≤ 30 ∧ rNo t = 0) (hK : (K.length : Int) ≤ 870) : rTo tx n (e, d, rn, pu, lf, V, (2, 0, b, c, x) :: K, S) (t.2.2.2.1, d + 1, rn, pu, lf, V, (38, 0, 0, 0, 0) :: (39, t.2.2.1, V.length, 0, 0) :: (4, 0, 0, 0, 0) :: K, S) := by
  refine rTo_mk fun s q => rd_20 (a := 0) q (by omega) fun s q => ?_
  have a0 := q.at0
  rw [cS_199, cF_199_0]
  refine RO_bi (en_ok ht q hT h0 hd) fun z s1 g => ?_
  obtain ⟨rfl, q1⟩ := g
  rw [if_neg (by decide)]
  refine RO_la q1 (by omega) fun s2 q2 => ?_
  have k2 := q2.tok
  rw [if_neg (by omega), if_neg (by omega), if_neg (by omega), cE_199_41, cF_199_41, if_neg (by omega), if_neg (by omega), if_neg (by omega), if_neg (by omega), if_neg (by omega), if_neg (by omega), if_neg (by omega), cS_207, cF_207_0, if_neg (by omega), if_neg (by omega), if_neg (by omega), if_neg (by omega), if_neg (by omega), if_pos (by omega), cm_bi_i, if_neg (by decide)]
  refine RO_tail ?_
  rw [cS_208, cF_208_0, q2.beg, q2.1.val]
  refine RO_tk ht q2 hT fun s3 q3 => ?_
  rw [if_neg (by omega), if_neg (by omega), if_neg (by omega), if_neg (by omega), if_neg (by omega)]
  exact RO_pu q3 (by simp only [List.length_cons]; omega) fun s4 q4 => RO_la q4 (by simp only [List.length_cons]; omega) fun s5 q5 => RO_ret q5.1
theorem t_2y1 (ht : tOk tx n) {e d rn pu : Int} {lf : Bool} {V : List tT} {K : List rTs} {S : List rSg} {t : tTk} {b c x : Int} (hT : lxG tx n true e = some t) (hc : rNo t = 1022) (h0 : 0 ≤ d) (hd : d < 20 ∨ 20 ≤ d ∧ d ≤ 30 ∧ rNo t = 0) (hK : (K.length : Int) ≤ 870) : rTo tx n (e, d, rn, pu, lf, V, (2, 1, b, c, x) :: K, S) (t.2.2.2.1, d + 1, rn, pu, lf, V, (38, 0, 0, 0, 0) :: (39, t.2.2.1, V.length, 0, 0) :: (4, 0, 0, 0, 0) :: K, S) := by
  refine rTo_mk fun s q => rd_21 (a := 0) q (by omega) fun s q => ?_
  have a0 := q.at0
  rw [cS_199, cF_199_0]
  refine RO_bi (en_ok ht q hT h0 hd) fun z s1 g => ?_
  obtain ⟨rfl, q1⟩ := g
  rw [if_neg (by decide)]
  refine RO_la q1 (by omega) fun s2 q2 => ?_
  have k2 := q2.tok
  rw [if_neg (by omega), if_neg (by omega), if_neg (by omega), cE_199_41, cF_199_41, if_neg (by omega), if_neg (by omega), if_neg (by omega), if_neg (by omega), if_neg (by omega), if_neg (by omega), if_neg (by omega), cS_207, cF_207_0, if_neg (by omega), if_neg (by omega), if_neg (by omega), if_neg (by omega), if_neg (by omega), if_pos (by omega), cm_bi_i, if_neg (by decide)]
  refine RO_tail ?_
  rw [cS_208, cF_208_0, q2.beg, q2.1.val]
  refine RO_tk ht q2 hT fun s3 q3 => ?_
  rw [if_neg (by omega), if_neg (by omega), if_neg (by omega), if_neg (by omega), if_neg (by omega)]
  exact RO_pu q3 (by simp only [List.length_cons]; omega) fun s4 q4 => RO_la q4 (by simp only [List.length_cons]; omega) fun s5 q5 => RO_ret q5.1
end TX38
