/-! ===== the other tasks, where the next token is none ===== -/
section TX36
variable {tx : Int → Int} {n : Int}
theorem rTo_mk {e d rn pu : Int} {lf : Bool} {V : List tT} {T : rTs} {K : List rTs} {S : List rSg} {c' : rC} (h : ∀ s, rR tx n (e, d, rn, pu, lf, V, T :: K, S) s → RO s (cm_sem 178 [.inr (.inl 41)] s) (rR tx n c')) : rTo tx n (e, d, rn, pu, lf, V, T :: K, S) c' := fun s q => rL_step q (h s q)
theorem rBd_mk {e d rn pu : Int} {lf : Bool} {V : List tT} {T : rTs} {K : List rTs} {S : List rSg} (h : ∀ s, rR tx n (e, d, rn, pu, lf, V, T :: K, S) s → RO s (cm_sem 178 [.inr (.inl 41)] s) gB) : rBd tx n (e, d, rn, pu, lf, V, T :: K, S) := fun s q => rL_step q (h s q)
/-- REDUCE -/
theorem t_red {e d rn pu : Int} {lf : Bool} {Vc V0 : List tT} {K : List rTs} {S : List rSg} {k p l m : Int} (hm : m = V0.length) (hn : rn < 499) (hK : (K.length : Int) ≤ 890) (c : Int) : rTo tx n (e, d, rn, pu, lf, Vc ++ V0, (3, k, p, l, m) :: K, S) (e, d, rn + 1, pu, lf && decide (k < 44 ∨ 49 < k), ((k, p, l, c, false), foR .leaf Vc) :: V0, K, S) := by
  refine rTo_mk fun s q => rd_3 q hK fun s q => ?_
  rw [hm]
  obtain ⟨s', e1, e2, e3, e4⟩ := cs_202 q.2 hn k p l c
  exact ⟨s', e1, e3, rAt_fr q.1 (e3.1 46 (by omega)) (fun j _ _ _ => e4 j (by omega) (by omega) (by omega)), e2⟩
/-- LEAVE -/
theorem t_lvw {e d rn pu : Int} {lf : Bool} {V : List tT} {K : List rTs} {S : List rSg} {a b c x : Int} (hK : (K.length : Int) ≤ 890) : rTo tx n (e, d, rn, pu, lf, V, (4, a, b, c, x) :: K, S) (e, cm_w (d - 1), rn, pu, lf, V, K, S) := by
  refine rTo_mk fun s q => ?_
  have h5 : s.1 4128 = ((((4, a, b, c, x) : rTs) :: K).length : Nat) := q.2.2.2.2.2.1
  have hd : s.1 4140 = d := q.2.1
  obtain ⟨r1, r2, r3, r4, r5, -⟩ := q.2.2.2.2.2.2.1
  have e1 : cm_w (s.1 4128 - 1) = K.length := by rw [h5, List.length_cons, cm_w_id (by omega) (by omega)]; omega
  have hk : (0 : Int) ≤ K.length ∧ (K.length : Int) < 900 := by omega
  have q1 := rR_po q
  simp only at r1 r2 r3 r4 r5
  rw [cS_178, cF_178_0]
  simp only [e1, if_pos hk, r1, hd]
  refine RO_at (rFm_p (rFm_p (rFm_rf s) (by omega)) (by omega)) ⟨rAt_fr q1.1 rfl fun j _ _ _ => cm_p_ne (by omega), ?_⟩
  obtain ⟨h1, h2, h3, h4, h5, h6, h7, h8, h9, h10⟩ := q1.2
  exact ⟨cm_p_at, (cm_p_ne (by decide)).trans h2, (cm_p_ne (by decide)).trans h3, (cm_p_ne (by decide)).trans h4, (cm_p_ne (by decide)).trans h5, rSkA_fr (s := cm_p s 4128 K.length) _ (fun a i _ _ _ => rfl) h6, (cm_p_ne (by decide)).trans h7, rVaA_fr (s := cm_p s 4128 K.length) _ _ (fun a i _ _ _ => rfl) (fun i _ => rfl) h8, (cm_p_ne (by decide)).trans h9, rSgA_fr (s := cm_p s 4128 K.length) _ (fun a i _ _ _ => rfl) h10⟩
theorem t_lv {e d rn pu : Int} {lf : Bool} {V : List tT} {K : List rTs} {S : List rSg} {a b c x : Int} (hK : (K.length : Int) ≤ 890) (h0 : 0 ≤ d) (h1 : d ≤ 30) : rTo tx n (e, d + 1, rn, pu, lf, V, (4, a, b, c, x) :: K, S) (e, d, rn, pu, lf, V, K, S) := by
  have := t_lvw (tx := tx) (n := n) (e := e) (d := d + 1) (rn := rn) (pu := pu) (lf := lf) (V := V) (S := S) (a := a) (b := b) (c := c) (x := x) hK
  rw [cm_w_id (by omega) (by omega), show d + 1 - 1 = d by omega] at this
  exact this
/-- WHOLE -/
theorem t_wh {e d rn pu : Int} {lf : Bool} {V : List tT} {K : List rTs} {S : List rSg} {a b c x : Int} (hK : (K.length : Int) ≤ 888) : rTo tx n (e, d, rn, pu, lf, V, (7, a, b, c, x) :: K, S) (e, d, rn, pu, lf, V, (9, a, 0, 0, 0) :: (8, -1, V.length, a, 0) :: K, S) := by
  refine rTo_mk fun s q => ?_
  have h5 : s.1 4128 = ((((7, a, b, c, x) : rTs) :: K).length : Nat) := q.2.2.2.2.2.1
  obtain ⟨r1, r2, r3, r4, r5, -⟩ := q.2.2.2.2.2.2.1
  have e1 : cm_w (s.1 4128 - 1) = K.length := by rw [h5, List.length_cons, cm_w_id (by omega) (by omega)]; omega
  have hk : (0 : Int) ≤ K.length ∧ (K.length : Int) < 900 := by omega
  have q1 := rR_po q
  simp only at r1 r2 r3 r4 r5
  refine RO_from (s1 := cm_p s 4128 K.length) (rFm_p (rFm_rf s) (by omega)) ?_
  rw [cS_178, cF_178_0]
  simp only [e1, if_pos hk, r1, r2, r3, r4]
  refine RO_tail ?_
  rw [cS_231, cF_231_0, if_pos rfl, q1.val]
  exact RO_puR q1 (by omega) fun s2 q2 => RO_laR q2 (by rw [List.length_cons]; omega) fun s3 q3 => RO_ret q3
/-! doom -/
theorem dm_red {k p l : Int} {m mk : Nat} {K : List rTs} {S : List rSg} (h : Dm tx n K (mk + 1) S) (hm : mk ≤ m) : Dm tx n ((3, k, p, l, (mk : Int)) :: K) m S := by
  intro e d rn pu lf V h0 h1 hN hV hr hK
  rw [List.length_cons] at hK
  have hr2 : rn + 1 + red K ≤ 486 := by unfold red at hr; simp only [if_pos] at hr; omega
  have := red_0 K
  have eV : V = V.take (m - mk) ++ V.drop (m - mk) := (List.take_append_drop _ _).symm
  have hl : (V.drop (m - mk)).length = mk := by rw [List.length_drop]; omega
  rw [eV]
  refine (t_red (by rw [hl]) (by omega) (by omega) 0).bd (h _ _ _ _ _ _ h0 h1 hN ?_ hr2 (by omega))
  rw [List.length_cons, hl]
theorem dm_lv {a b c x : Int} {m : Nat} {K : List rTs} {S : List rSg} (h : Dm tx n K m S) : Dm tx n ((4, a, b, c, x) :: K) m S := by
  intro e d rn pu lf V h0 h1 hN hV hr hK
  rw [List.length_cons] at hK
  exact (t_lvw (by omega)).bd (h _ _ _ _ _ _ h0 h1 hN hV (by unfold red at hr; simpa using hr) (by omega))
theorem dm_9 (ht : tOk tx n) {a b c x : Int} {m : Nat} {K : List rTs} {S : List rSg} : Dm tx n ((9, a, b, c, x) :: K) m S := by
  intro e d rn pu lf V h0 h1 hN hV hr hK
  rw [List.length_cons] at hK
  refine rBd_mk fun s q => rd_9 q (by omega) fun s q => ?_
  rw [cS_233, cF_233_0]
  refine RO_bi (en_none ht q (lxG_none ht h0 h1 hN)) fun z s' g => ?_
  rw [if_pos g.1]
  exact RO_ret g.2
theorem dm_wh (ht : tOk tx n) {a b c x : Int} {m : Nat} {K : List rTs} {S : List rSg} : Dm tx n ((7, a, b, c, x) :: K) m S := by
  intro e d rn pu lf V h0 h1 hN hV hr hK
  rw [List.length_cons] at hK
  refine (t_wh (by omega)).bd (rBd_mk fun s q => rd_9 q (by rw [List.length_cons]; omega) fun s q => ?_)
  rw [cS_233, cF_233_0]
  refine RO_bi (en_none ht q (lxG_none ht h0 h1 hN)) fun z s' g => ?_
  rw [if_pos g.1]
  exact RO_ret g.2
theorem dm_20 (ht : tOk tx n) {b c x : Int} {m : Nat} {K : List rTs} {S : List rSg} : Dm tx n ((2, 0, b, c, x) :: K) m S := by
  intro e d rn pu lf V h0 h1 hN hV hr hK
  rw [List.length_cons] at hK
  refine rBd_mk fun s q => rd_20 (a := 0) q (by omega) fun s q => ?_
  rw [cS_199, cF_199_0]
  refine RO_bi (en_none ht q (lxG_none ht h0 h1 hN)) fun z s' g => ?_
  rw [if_pos g.1]
  exact RO_ret g.2
theorem dm_21 (ht : tOk tx n) {b c x : Int} {m : Nat} {K : List rTs} {S : List rSg} : Dm tx n ((2, 1, b, c, x) :: K) m S := by
  intro e d rn pu lf V h0 h1 hN hV hr hK
  rw [List.length_cons] at hK
  refine rBd_mk fun s q => rd_21 (a := 0) q (by omega) fun s q => ?_
  rw [cS_199, cF_199_0]
  refine RO_bi (en_none ht q (lxG_none ht h0 h1 hN)) fun z s' g => ?_
  rw [if_pos g.1]
  exact RO_ret g.2
theorem dm_15 (ht : tOk tx n) {a b c x : Int} {m : Nat} {K : List rTs} {S : List rSg} : Dm tx n ((15, a, b, c, x) :: K) m S := by
  intro e d rn pu lf V h0 h1 hN hV hr hK
  rw [List.length_cons] at hK
  refine rBd_mk fun s q => rd_15 q (by omega) fun s q => ?_
  rw [cS_242, cF_242_0]
  refine RO_bi (en_none ht q (lxG_none ht h0 h1 hN)) fun z s' g => ?_
  rw [if_pos g.1]
  exact RO_ret g.2
theorem dm_121 (ht : tOk tx n) {b c x : Int} {m : Nat} {K : List rTs} {S : List rSg} : Dm tx n ((12, 1, b, c, x) :: K) m S := by
  intro e d rn pu lf V h0 h1 hN hV hr hK
  rw [List.length_cons] at hK
  refine rBd_mk fun s q => rd_121 (a := 0) q (by omega) fun s q => ?_
  rw [cS_239, cF_239_0, if_neg (by decide)]
  refine RO_bi (en_none ht q (lxG_none ht h0 h1 hN)) fun z s' g => ?_
  rw [if_pos g.1]
  exact RO_ret g.2
theorem dm_120 (ht : tOk tx n) {b c x : Int} {m : Nat} {K : List rTs} {S : List rSg} : Dm tx n ((12, 0, b, c, x) :: K) m S := by
  intro e d rn pu lf V h0 h1 hN hV hr hK
  rw [List.length_cons] at hK
  have hr0 := red_0 K
  have hr2 : rn ≤ 486 := by unfold red at hr; split at hr <;> omega
  refine rBd_mk fun s q => rd_120 (a := 0) q (by omega) fun s q => ?_
  rw [cS_239, cF_239_0, if_pos rfl, cE_239_7, cF_239_7]
  refine RO_n1 ht q (lxG_none ht h0 h1 hN) fun s1 q1 g1 x1 f1 => ?_
  have z := rZ_of q1 g1 x1 f1 (by omega) hr2
  repeat' first
      | exact Z_ret ‹_›
      | refine Z_pu ‹_› (by omega) fun _ _ => ?_
      | refine Z_la ‹_› (by omega) fun _ _ => ?_
      | refine Z_tk ‹_› fun _ _ => ?_
      | rw [cE_239_47, cF_239_47]
      | refine RO_ite (fun _ => ?_) (fun _ => ?_)
theorem dm_28 (ht : tOk tx n) {a b c x : Int} {m : Nat} {K : List rTs} {S : List rSg} (hm : 1 ≤ m) : Dm tx n ((28, a, b, c, x) :: K) m S := by
  intro e d rn pu lf V h0 h1 hN hV hr hK
  rw [List.length_cons] at hK
  have hr0 := red_0 K
  have hr2 : rn ≤ 486 := by unfold red at hr; split at hr <;> omega
  refine rBd_mk fun s q => rd_28 q (by omega) fun s q => ?_
  rw [cS_252, cF_252_0]
  have h1 : RO s (cm_sem 210 [.inr (.inl 41), .inl 41] s) (rZ tx n V.length 0) := by
    rw [cS_210, cF_210_0]
    refine RO_n0 ht q hN fun s1 q1 g1 x1 f1 => ?_
    have z := rZ_of q1 g1 x1 f1 (by omega) hr2
    refine RO_ite (fun _ => ?_) (fun _ => ?_)
    · exact Z_tk z fun _ z => RO_ret z
    · exact Z_bd z fun _ z => RO_ret z
  refine RO_bind h1 fun s1 z => ?_
  have zz := z
  obtain ⟨z1, z2, z3, z4, z5, z6, z7, z8, z9, z10, z11⟩ := zz
  have hv := z11 (s1.1 4134 - 1) (by omega) (by omega)
  have go : ∀ v y : Int, RO s1 (some (.inl none, cm_q s1 54 v y)) gB := fun v y => RO_at (rFm_q (rFm_rf s1) (by omega)) z1
  rw [cm_w_id (by omega) (by omega), if_pos (by omega), if_pos hv]
  refine RO_ite (fun _ => ?_) (fun _ => ?_)
  · rw [if_pos hv]
    refine RO_ite (fun _ => ?_) (fun _ => ?_)
    · rw [if_pos hv]; exact go _ _
    · rw [if_pos hv]; exact go _ _
  · rw [if_pos hv]; exact go _ _
/-- FORX, FORVAR -/
theorem RO_217 (ht : tOk tx n) {w : Int} {j : Nat} {s : cm_S} {a b y : Int} {c : rC} (q : rR tx n c s) (hN : lxG tx n false c.1 = none) (hz : ∀ s', rQ c.2 s' → gB s' → rTx tx n s' → 0 ≤ s'.1 4112 → rZ tx n w j s') (hj : j ≤ 5) : RO s (cm_sem 217 [.inr (.inl 41), .inl a, .inl b, .inl y] s) gB := by
  rw [cS_217, cF_217_0]
  refine RO_n0 ht q hN fun s1 q1 g1 x1 f1 => ?_
  have z := hz s1 q1 g1 x1 f1
  repeat' first
      | exact Z_ret ‹_›
      | refine Z_bd ‹_› fun _ _ => ?_
      | refine Z_215 ‹_› (by omega) fun _ _ => ?_
      | refine Z_218 ‹_› (by omega) fun _ _ => ?_
      | refine RO_ite (fun _ => ?_) (fun _ => ?_)
theorem rd_35 {e d rn pu : Int} {lf : Bool} {V : List tT} {K : List rTs} {S : List rSg} {s : cm_S} {a b c x : Int} (q : rR tx n (e, d, rn, pu, lf, V, (35, a, b, c, x) :: K, S) s) (hK : (K.length : Int) ≤ 890) {G : cm_S → Prop} (h : ∀ s, rR tx n (e, d, rn, pu, lf, V, K, S) s → RO s (cm_sem 217 [.inr (.inl 41), .inl a, .inl b, .inl (cm_n lf)] s) G) : RO s (cm_sem 178 [.inr (.inl 41)] s) G := by
  have h5 : s.1 4128 = ((((35, a, b, c, x) : rTs) :: K).length : Nat) := q.2.2.2.2.2.1
  have hl : s.1 4141 = cm_n lf := q.2.2.2.2.1
  obtain ⟨r1, r2, r3, r4, r5, -⟩ := q.2.2.2.2.2.2.1
  have e1 : cm_w (s.1 4128 - 1) = K.length := by rw [h5, List.length_cons, cm_w_id (by omega) (by omega)]; omega
  have hk : (0 : Int) ≤ K.length ∧ (K.length : Int) < 900 := by omega
  have q1 := rR_po q
  simp only at r1 r2 r3 r4 r5
  refine RO_from (s1 := cm_p s 4128 K.length) (rFm_p (rFm_rf s) (by omega)) ?_
  rw [cS_178, cF_178_0]
  simp only [e1, if_pos hk, r1, r2, r3, r4, hl]
  exact RO_tail (h _ q1)
theorem dm_35 (ht : tOk tx n) {a b c x : Int} {m : Nat} {K : List rTs} {S : List rSg} : Dm tx n ((35, a, b, c, x) :: K) m S := by
  intro e d rn pu lf V h0 h1 hN hV hr hK
  rw [List.length_cons] at hK
  have hr0 := red_0 K
  have hr2 : rn ≤ 486 := by unfold red at hr; split at hr <;> omega
  exact rBd_mk fun s q => rd_35 q (by omega) fun s q => RO_217 ht q hN (fun s1 q1 g1 x1 f1 => rZ_of q1 g1 x1 f1 (by omega) hr2) (by omega)
theorem dm_34 (ht : tOk tx n) {a b c : Int} {m mk : Nat} {K : List rTs} {S : List rSg} (hm : mk ≤ m) : Dm tx n ((34, a, b, c, (mk : Int)) :: K) m S := by
  intro e d rn pu lf V h0 h1 hN hV hr hK
  rw [List.length_cons] at hK
  have hr0 := red_0 K
  have hr2 : rn ≤ 486 := by unfold red at hr; split at hr <;> omega
  refine rBd_mk fun s q => rd_34 q (by omega) fun s q => ?_
  have eV : V = V.take (m - mk) ++ V.drop (m - mk) := (List.take_append_drop _ _).symm
  have hl : (V.drop (m - mk)).length = mk := by rw [List.length_drop]; omega
  rw [eV] at q
  obtain ⟨s', e1, e2, e3, e4⟩ := cs_202 q.2 (by omega) 2 c 0 0
  rw [hl] at e1
  have q' : rR tx n (e, d, rn + 1, pu, lf && decide ((2 : Int) < 44 ∨ 49 < (2 : Int)), ((2, c, 0, 0, false), foR .leaf (V.take (m - mk))) :: V.drop (m - mk), K, S) s' := ⟨rAt_fr q.1 (e3.1 46 (by omega)) (fun j _ _ _ => e4 j (by omega) (by omega) (by omega)), e2⟩
  have fin : ∀ y, RO s' (cm_bv (cm_sem 217 [.inr (.inl 41), .inl a, .inl b, .inl y] s') fun s2 => some (.inl none, s2)) gB := fun y => RO_tail (RO_217 ht q' hN (w := 0) (j := 1) (fun s1 q1 g1 x1 f1 => by
    obtain ⟨k1, k2, k3, k4, k5, k6, k7, k8, k9, k10⟩ := q1
    simp only at k1 k2 k3 k4 k5 k6 k7 k8 k9 k10
    have hb := rVaA_b _ _ k8
    have ids := rVaA_ids _ _ k8
    refine ⟨g1, x1, f1, by omega, by omega, by omega, by omega, by omega, by omega, by omega, fun i i0 i1 => ?_⟩
    have := ids.1 i i0 (by omega)
    omega) (by omega))
  rw [cS_216, cF_216_0, e1]
  refine RO_ite (fun _ => ?_) (fun _ => ?_)
  · rw [cm_bv_o]; exact RO_from e3 (fin _)
  · rw [cm_bv_o]; exact RO_from e3 (fin _)
/-- SIGNS -/
theorem Z_join {w : Int} {j : Nat} {s : cm_S} (z : rZ tx n w j s) (hj : j ≤ 11) (hw : 2 ≤ w) (h1 : 1 ≤ s.1 4136) (h2 : s.1 4136 ≤ 300) : RO s (cm_sem 238 [.inr (.inl 41)] s) fun s' => rZ tx n (w - 1) (j + 1) s' ∧ s'.1 4136 = s.1 4136 - 1 := by
  have zz := z
  obtain ⟨z1, z2, z3, z4, z5, z6, z7, z8, z9, z10, z11⟩ := zz
  rw [cS_238, cF_238_0, cm_w_id (show -2147483648 ≤ s.1 4136 - 1 by omega) (by omega), if_pos (by omega), if_pos (by omega), cm_w_id (show -2147483648 ≤ s.1 4134 - 2 by omega) (by omega)]
  have z' : rZ tx n (s.1 4134) j (cm_p s 4136 (s.1 4136 - 1)) := by
    refine rZ_fr (rZ_at z) ?_ ?_ rfl ?_ ⟨?_, ?_⟩ ?_ ?_ rfl (Nat.le_refl _)
    all_goals (rw [cm_p_ne (by decide)]; try omega)
  refine RO_from (s1 := cm_p s 4136 (s.1 4136 - 1)) (rFm_p (rFm_rf s) (by omega)) (RO_bind (Z_reC z' hj (by omega) (by omega)) fun s' g => RO_ret ⟨?_, ?_⟩)
  · exact rZ_lo g.1 (by omega)
  · rw [g.2 4136 (by decide) (by decide) (by decide), cm_p_at]
def stR (x : Int) : Int :=
  if x = 1013 ∨ x = 1014 ∨ x = 60 ∨ x = 62 ∨ x = 15421 ∨ x = 15933 then 7
  else if x = 37 ∨ x = 42 ∨ x = 47 then 10
  else if x = 43 ∨ x = 45 then 9
  else if x = 15420 ∨ x = 15934 ∨ x = 4079166 then 8
  else if x = 8509 ∨ x = 15677 ∨ x = 2178365 ∨ x = 4013373 then 6
  else if x = 38 then 5
  else if x = 94 then 4
  else if x = 124 then 3
  else if x = 9766 then 2
  else if x = 31868 then 1
  else 0
theorem cs_237 (x : Int) (s : cm_S) : cm_sem 237 [.inl x] s = some (.inl (some (.inl (stR x))), s) := by
  rw [cS_237, cF_237_0]
  by_cases h0 : x = 37
  · subst h0; rfl
  rw [if_neg h0]
  by_cases h1 : x = 38
  · subst h1; rfl
  rw [if_neg h1]
  by_cases h2 : x = 42
  · subst h2; rfl
  rw [if_neg h2]
  by_cases h3 : x = 43
  · subst h3; rfl
  rw [if_neg h3]
  by_cases h4 : x = 45
  · subst h4; rfl
  rw [if_neg h4]
  by_cases h5 : x = 47
  · subst h5; rfl
  rw [if_neg h5]
  by_cases h6 : x = 60
  · subst h6; rfl
  rw [if_neg h6]
  by_cases h7 : x = 62
  · subst h7; rfl
  rw [if_neg h7]
  by_cases h8 : x = 94
  · subst h8; rfl
  rw [if_neg h8]
  by_cases h9 : x = 124
  · subst h9; rfl
  rw [if_neg h9]
  by_cases h10 : x = 1013
  · subst h10; rfl
  rw [if_neg h10]
  by_cases h11 : x = 1014
  · subst h11; rfl
  rw [if_neg h11]
  by_cases h12 : x = 8509
  · subst h12; rfl
  rw [if_neg h12]
  by_cases h13 : x = 9766
  · subst h13; rfl
  rw [if_neg h13]
  by_cases h14 : x = 15420
  · subst h14; rfl
  rw [if_neg h14]
  by_cases h15 : x = 15421
  · subst h15; rfl
  rw [if_neg h15]
  by_cases h16 : x = 15677
  · subst h16; rfl
  rw [if_neg h16]
  by_cases h17 : x = 15933
  · subst h17; rfl
  rw [if_neg h17]
  by_cases h18 : x = 15934
  · subst h18; rfl
  rw [if_neg h18]
  by_cases h19 : x = 31868
  · subst h19; rfl
  rw [if_neg h19]
  by_cases h20 : x = 2178365
  · subst h20; rfl
  rw [if_neg h20]
  by_cases h21 : x = 4013373
  · subst h21; rfl
  rw [if_neg h21]
  by_cases h22 : x = 4079166
  · subst h22; rfl
  rw [if_neg h22]
  rw [show stR x = 0 by unfold stR; rw [if_neg (by omega), if_neg (by omega), if_neg (by omega), if_neg (by omega), if_neg (by omega), if_neg (by omega), if_neg (by omega), if_neg (by omega), if_neg (by omega), if_neg (by omega)]]
theorem cs_87 (x : Int) (s : cm_S) : cm_sem 87 [.inl x] s = some (.inl (some (.inl (stC x))), s) := by
  rw [cS_87, cF_87_0]
  by_cases h0 : x = 14
  · subst h0; rfl
  rw [if_neg h0]
  by_cases h1 : x = 15
  · subst h1; rfl
  rw [if_neg h1]
  by_cases h2 : x = 37
  · subst h2; rfl
  rw [if_neg h2]
  by_cases h3 : x = 38
  · subst h3; rfl
  rw [if_neg h3]
  by_cases h4 : x = 42
  · subst h4; rfl
  rw [if_neg h4]
  by_cases h5 : x = 43
  · subst h5; rfl
  rw [if_neg h5]
  by_cases h6 : x = 45
  · subst h6; rfl
  rw [if_neg h6]
  by_cases h7 : x = 47
  · subst h7; rfl
  rw [if_neg h7]
  by_cases h8 : x = 60
  · subst h8; rfl
  rw [if_neg h8]
  by_cases h9 : x = 62
  · subst h9; rfl
  rw [if_neg h9]
  by_cases h10 : x = 94
  · subst h10; rfl
  rw [if_neg h10]
  by_cases h11 : x = 124
  · subst h11; rfl
  rw [if_neg h11]
  by_cases h12 : x = 8509
  · subst h12; rfl
  rw [if_neg h12]
  by_cases h13 : x = 9766
  · subst h13; rfl
  rw [if_neg h13]
  by_cases h14 : x = 15420
  · subst h14; rfl
  rw [if_neg h14]
  by_cases h15 : x = 15421
  · subst h15; rfl
  rw [if_neg h15]
  by_cases h16 : x = 15677
  · subst h16; rfl
  rw [if_neg h16]
  by_cases h17 : x = 15933
  · subst h17; rfl
  rw [if_neg h17]
  by_cases h18 : x = 15934
  · subst h18; rfl
  rw [if_neg h18]
  by_cases h19 : x = 31868
  · subst h19; rfl
  rw [if_neg h19]
  by_cases h20 : x = 2178365
  · subst h20; rfl
  rw [if_neg h20]
  by_cases h21 : x = 4013373
  · subst h21; rfl
  rw [if_neg h21]
  by_cases h22 : x = 4079166
  · subst h22; rfl
  rw [if_neg h22]
  rw [show stC x = 0 by unfold stC; rw [if_neg (by omega), if_neg (by omega), if_neg (by omega), if_neg (by omega), if_neg (by omega), if_neg (by omega), if_neg (by omega), if_neg (by omega), if_neg (by omega), if_neg (by omega)]]
theorem Z_236 {base noIn st : Int} (h0 : 0 ≤ base) : ∀ (k : Nat) (w : Int) (j : Nat) (s : cm_S), rZ tx n w j s → s.1 4136 - base = k → s.1 4136 ≤ 290 → j + k ≤ 10 → (k : Int) + 1 ≤ w → RO s (cm_lp cm_sem cm_k236 17 [some (.inr (.inl 41)), some (.inl base), some (.inl noIn), some (.inl st)] [] s) gB := by
  intro k
  have push : ∀ (w : Int) (j : Nat) (s : cm_S), rZ tx n w j s → 0 ≤ s.1 4136 → s.1 4136 ≤ 290 → j ≤ 10 → RO s (if (0 : Int) < st then (if (0 : Int) ≤ (s.1 4136) ∧ (s.1 4136) < 300 then (if (0 : Int) ≤ (s.1 4136) ∧ (s.1 4136) < 300 then (if (0 : Int) ≤ (s.1 4136) ∧ (s.1 4136) < 300 then (cm_bv (cm_sem 198 [.inr (.inl 41)] (cm_p (cm_q (cm_q (cm_q s 62 (s.1 4136) (s.1 4111)) 63 (s.1 4136) (s.1 4112)) 64 (s.1 4136) (cm_w ((s.1 4113) - (s.1 4112)))) 4136 (cm_w ((s.1 4136) + 1)))) fun s6 => cm_bv (cm_sem 176 [.inr (.inl 41), .inl 11, .inl base, .inl noIn, .inl 0, .inl 0] s6) fun s7 => cm_bv (cm_sem 177 [.inr (.inl 41), .inl 12, .inl 0] s7) fun s8 => some (.inl none, s8)) else none) else none) else none) else some (.inl none, s)) gB := by
    intro w j s z g0 g1 hj
    have zz := z
    obtain ⟨z1, z2, z3, z4, z5, z6, z7, z8, z9, z10, z11⟩ := zz
    refine RO_ite (fun _ => ?_) (fun _ => Z_ret z)
    rw [if_pos (by omega), if_pos (by omega), if_pos (by omega)]
    refine RO_from (rFm_p (rFm_q (rFm_q (rFm_q (rFm_rf s) (by omega)) (by omega)) (by omega)) (by omega)) (s1 := cm_p (cm_q (cm_q (cm_q s 62 (s.1 4136) (s.1 4111)) 63 (s.1 4136) (s.1 4112)) 64 (s.1 4136) (cm_w ((s.1 4113) - (s.1 4112)))) 4136 (cm_w ((s.1 4136) + 1))) ?_
    have z' : rZ tx n w j (cm_p (cm_q (cm_q (cm_q s 62 (s.1 4136) (s.1 4111)) 63 (s.1 4136) (s.1 4112)) 64 (s.1 4136) (cm_w ((s.1 4113) - (s.1 4112)))) 4136 (cm_w ((s.1 4136) + 1))) := by
      refine rZ_fr z ?_ ?_ ?_ ?_ ⟨?_, ?_⟩ ?_ ?_ ?_ (Nat.le_refl _)
      any_goals (rw [cm_p_ne (by decide), cm_q_fld, cm_q_fld, cm_q_fld]; try omega)
      all_goals (rw [cm_p_row, cm_q_ne (by decide), cm_q_ne (by decide), cm_q_ne (by decide)])
    exact Z_tk z' fun _ y1 => Z_pu y1 (by omega) fun _ y2 => Z_la y2 (by omega) fun _ y3 => Z_ret y3
  induction k with
  | zero =>
    intro w j s z hk h9 hj hw
    rw [cE_236_17, cF_236_17, if_neg (by omega)]
    exact push w j s z (by omega) h9 (by omega)
  | succ k ih =>
    intro w j s z hk h9 hj hw
    rw [cE_236_17, cF_236_17, if_pos (by omega), if_pos (by rw [cm_w_id (by omega) (by omega)]; omega), cs_237, cm_bi_i]
    refine RO_ite (fun _ => push w j s z (by omega) h9 (by omega)) (fun _ => ?_)
    refine RO_bind (Z_join z (by omega) (by omega) (by omega) (by omega)) fun s' g => ?_
    exact ih (w - 1) (j + 1) s' g.1 (by omega) (by omega) (by omega) (by omega)
theorem dm_11 (ht : tOk tx n) {a b c x : Int} {m : Nat} {K : List rTs} {S : List rSg} (h0 : 0 ≤ a) (h1 : a ≤ S.length) (h2 : (S.length : Int) ≤ a + 10) (h3 : (S.length : Int) - a + 1 ≤ m) (h4 : (S.length : Int) ≤ 290) : Dm tx n ((11, a, b, c, x) :: K) m S := by
  intro e d rn pu lf V g0 g1 hN hV hr hK
  rw [List.length_cons] at hK
  have hr0 := red_0 K
  have hr2 : rn ≤ 486 := by unfold red at hr; split at hr <;> omega
  refine rBd_mk fun s q => rd_11 q (by omega) fun s q => ?_
  rw [cS_236, cF_236_0]
  refine RO_n0 ht q hN fun s1 q1 y1 x1 f1 => ?_
  have z := rZ_of q1 y1 x1 f1 (by omega) hr2
  have hs : s1.1 4136 = S.length := q1.2.2.2.2.2.2.2.2.1
  have go : ∀ st : Int, RO s1 (cm_lp cm_sem cm_k236 17 [some (.inr (.inl 41)), some (.inl a), some (.inl b), some (.inl st)] [] s1) gB := fun st => Z_236 h0 (s1.1 4136 - a).toNat V.length 0 s1 z (by omega) (by omega) (by omega) (by omega)
  rw [cs_237]
  refine RO_ite (fun _ => RO_ite (fun _ => go _) (fun _ => ?_)) (fun _ => ?_)
  · rw [cm_bi_i]; exact go _
  · rw [cm_bi_i]; exact go _
end TX36
