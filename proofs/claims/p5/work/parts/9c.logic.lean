/-! ===== steps of the reference: how its methods are gone through ===== -/
section TX32
variable {tx : Int → Int} {n : Int}
/-- a method that answers nothing, an int -/
def RO (s : cm_S) (x : Option cm_R) (G : cm_S → Prop) : Prop := ∃ s', x = some (.inl none, s') ∧ rFm s s' ∧ G s'
def ROI (s : cm_S) (x : Option cm_R) (G : Int → cm_S → Prop) : Prop := ∃ z s', x = some (.inl (some (.inl z)), s') ∧ rFm s s' ∧ G z s'
theorem RO_ret {s : cm_S} {G : cm_S → Prop} (h : G s) : RO s (some (.inl none, s)) G := ⟨s, rfl, rFm_rf s, h⟩
theorem RO_at {s s' : cm_S} {G : cm_S → Prop} (hf : rFm s s') (h : G s') : RO s (some (.inl none, s')) G := ⟨s', rfl, hf, h⟩
theorem RO_bind {s : cm_S} {x : Option cm_R} {f : cm_S → Option cm_R} {G1 G : cm_S → Prop} (h1 : RO s x G1) (h : ∀ s', G1 s' → RO s' (f s') G) : RO s (cm_bv x f) G := by
  obtain ⟨s', e1, f1, g1⟩ := h1
  obtain ⟨s'', e2, f2, g2⟩ := h s' g1
  exact ⟨s'', by rw [e1, cm_bv_o, e2], f1.tr f2, g2⟩
theorem RO_bi {s : cm_S} {x : Option cm_R} {f : Int → cm_S → Option cm_R} {G1 : Int → cm_S → Prop} {G : cm_S → Prop} (h1 : ROI s x G1) (h : ∀ z s', G1 z s' → RO s' (f z s') G) : RO s (cm_bi x f) G := by
  obtain ⟨z, s', e1, f1, g1⟩ := h1
  obtain ⟨s'', e2, f2, g2⟩ := h z s' g1
  exact ⟨s'', by rw [e1, cm_bi_i, e2], f1.tr f2, g2⟩
theorem ROI_bi {s : cm_S} {x : Option cm_R} {f : cm_S → Option cm_R} {G1 : cm_S → Prop} {G : Int → cm_S → Prop} (h1 : RO s x G1) (h : ∀ s', G1 s' → ROI s' (f s') G) : ROI s (cm_bv x f) G := by
  obtain ⟨s', e1, f1, g1⟩ := h1
  obtain ⟨z, s'', e2, f2, g2⟩ := h s' g1
  exact ⟨z, s'', by rw [e1, cm_bv_o, e2], f1.tr f2, g2⟩
/-- behind a method's end -/
theorem RO_tail {s : cm_S} {x : Option cm_R} {G : cm_S → Prop} (h : RO s x G) : RO s (cm_bv x fun s1 => some (.inl none, s1)) G := RO_bind h fun _ g => RO_ret g
theorem RO_from {s s1 : cm_S} {x : Option cm_R} {G : cm_S → Prop} (hf : rFm s s1) (h : RO s1 x G) : RO s x G := by
  obtain ⟨s', e, f, g⟩ := h
  exact ⟨s', e, hf.tr f, g⟩
/-- with the token t that was looked at last -/
def rRt (tx : Int → Int) (n : Int) (c : rC) (t : tTk) (s : cm_S) : Prop := rR tx n c s ∧ rTk s t
theorem rRt.tok {c : rC} {t : tTk} {s : cm_S} (h : rRt tx n c t s) : s.1 4111 = rNo t := h.2.1
theorem rRt.beg {c : rC} {t : tTk} {s : cm_S} (h : rRt tx n c t s) : s.1 4112 = t.2.2.1 := h.2.2.1
theorem rRt.fin {c : rC} {t : tTk} {s : cm_S} (h : rRt tx n c t s) : s.1 4113 = t.2.2.2.1 := h.2.2.2.1
theorem rRt.lin {c : rC} {t : tTk} {s : cm_S} (h : rRt tx n c t s) : s.1 4115 = cm_n t.2.2.2.2 := h.2.2.2.2
theorem rRt.nof {c : rC} {t : tTk} {s : cm_S} (h : rRt tx n c t s) : s.1 4108 = 0 := h.1.1.2.2.2.2.1
theorem rR.val {e d rn pu : Int} {lf : Bool} {V : List tT} {K : List rTs} {S : List rSg} {s : cm_S} (h : rR tx n (e, d, rn, pu, lf, V, K, S) s) : s.1 4134 = V.length := h.2.2.2.2.2.2.2.1
theorem rR.rn0 {e d rn pu : Int} {lf : Bool} {V : List tT} {K : List rTs} {S : List rSg} {s : cm_S} (h : rR tx n (e, d, rn, pu, lf, V, K, S) s) : (V.length : Int) ≤ rn := rVaA_b _ _ h.2.2.2.2.2.2.2.2.1
theorem RO_l1 (ht : tOk tx n) {c : rC} {s : cm_S} {t : tTk} (q : rR tx n c s) (hT : lxG tx n true c.1 = some t) {f : cm_S → Option cm_R} {G : cm_S → Prop} (h : ∀ s', rRt tx n c t s' → RO s' (f s') G) : RO s (cm_bv (cm_sem 180 [.inr (.inl 41), .inl 1] s) f) G := by
  obtain ⟨s', e1, e2, -, e4, e5, -⟩ := (cs_180 ht q.1 true).1 t hT
  exact RO_bind ⟨s', e1, e2.fm, ⟨⟨e4, rQ_fr q.2 e2⟩, e5⟩⟩ h
theorem RO_l0 (ht : tOk tx n) {c : rC} {s : cm_S} {t : tTk} (q : rR tx n c s) (hT : lxG tx n false c.1 = some t) {f : cm_S → Option cm_R} {G : cm_S → Prop} (h : ∀ s', rRt tx n c t s' → RO s' (f s') G) : RO s (cm_bv (cm_sem 180 [.inr (.inl 41), .inl 0] s) f) G := by
  obtain ⟨s', e1, e2, -, e4, e5, -⟩ := (cs_180 ht q.1 false).1 t hT
  exact RO_bind ⟨s', e1, e2.fm, ⟨⟨e4, rQ_fr q.2 e2⟩, e5⟩⟩ h
theorem rR_pu {e d rn pu : Int} {lf : Bool} {V : List tT} {K : List rTs} {S : List rSg} {s : cm_S} (q : rR tx n (e, d, rn, pu, lf, V, K, S) s) (T : rTs) : rR tx n (e, d, rn, pu, lf, V, T :: K, S) (rPu s T) := ⟨rAt_fr q.1 (rPu_row (by omega)) (fun j _ _ _ => rPu_fld (by omega)), rQ_pu q.2 T⟩
theorem RO_puR {e d rn pu : Int} {lf : Bool} {V : List tT} {K : List rTs} {S : List rSg} {s : cm_S} (q : rR tx n (e, d, rn, pu, lf, V, K, S) s) (hK : (K.length : Int) ≤ 890) {a b c x y : Int} {f : cm_S → Option cm_R} {G : cm_S → Prop} (h : ∀ s', rR tx n (e, d, rn, pu, lf, V, (a, b, c, x, y) :: K, S) s' → RO s' (f s') G) : RO s (cm_bv (cm_sem 176 [.inr (.inl 41), .inl a, .inl b, .inl c, .inl x, .inl y] s) f) G := by
  have h5 : s.1 4128 = K.length := q.2.2.2.2.2.1
  exact RO_bind ⟨_, cs_176 (by omega) a b c x y, rPu_fm _ _, rR_pu q _⟩ h
theorem RO_laR {e d rn pu : Int} {lf : Bool} {V : List tT} {K : List rTs} {S : List rSg} {s : cm_S} (q : rR tx n (e, d, rn, pu, lf, V, K, S) s) (hK : (K.length : Int) ≤ 890) {a b : Int} {f : cm_S → Option cm_R} {G : cm_S → Prop} (h : ∀ s', rR tx n (e, d, rn, pu, lf, V, (a, b, 0, 0, 0) :: K, S) s' → RO s' (f s') G) : RO s (cm_bv (cm_sem 177 [.inr (.inl 41), .inl a, .inl b] s) f) G := by
  have h5 : s.1 4128 = K.length := q.2.2.2.2.2.1
  exact RO_bind ⟨_, cs_177 (by omega) a b, rPu_fm _ _, rR_pu q _⟩ h
theorem RO_pu {e d rn pu : Int} {lf : Bool} {V : List tT} {K : List rTs} {S : List rSg} {s : cm_S} {t : tTk} (q : rRt tx n (e, d, rn, pu, lf, V, K, S) t s) (hK : (K.length : Int) ≤ 890) {a b c x y : Int} {f : cm_S → Option cm_R} {G : cm_S → Prop} (h : ∀ s', rRt tx n (e, d, rn, pu, lf, V, (a, b, c, x, y) :: K, S) t s' → RO s' (f s') G) : RO s (cm_bv (cm_sem 176 [.inr (.inl 41), .inl a, .inl b, .inl c, .inl x, .inl y] s) f) G := by
  have h5 : s.1 4128 = K.length := q.1.2.2.2.2.2.1
  exact RO_bind ⟨_, cs_176 (by omega) a b c x y, rPu_fm _ _, rR_pu q.1 _, rTk_fr q.2 fun j _ _ _ => rPu_fld (by omega)⟩ h
theorem RO_la {e d rn pu : Int} {lf : Bool} {V : List tT} {K : List rTs} {S : List rSg} {s : cm_S} {t : tTk} (q : rRt tx n (e, d, rn, pu, lf, V, K, S) t s) (hK : (K.length : Int) ≤ 890) {a b : Int} {f : cm_S → Option cm_R} {G : cm_S → Prop} (h : ∀ s', rRt tx n (e, d, rn, pu, lf, V, (a, b, 0, 0, 0) :: K, S) t s' → RO s' (f s') G) : RO s (cm_bv (cm_sem 177 [.inr (.inl 41), .inl a, .inl b] s) f) G := by
  have h5 : s.1 4128 = K.length := q.1.2.2.2.2.2.1
  exact RO_bind ⟨_, cs_177 (by omega) a b, rPu_fm _ _, rR_pu q.1 _, rTk_fr q.2 fun j _ _ _ => rPu_fld (by omega)⟩ h
theorem RO_tk (ht : tOk tx n) {e d rn pu : Int} {lf : Bool} {V : List tT} {K : List rTs} {S : List rSg} {s : cm_S} {t : tTk} {g : Bool} (q : rRt tx n (e, d, rn, pu, lf, V, K, S) t s) (hT : lxG tx n g e = some t) {f : cm_S → Option cm_R} {G : cm_S → Prop} (h : ∀ s', rRt tx n (t.2.2.2.1, d, rn, pu, lf, V, K, S) t s' → RO s' (f s') G) : RO s (cm_bv (cm_sem 198 [.inr (.inl 41)] s) f) G := by
  refine RO_bind ⟨_, cs_198, rFm_p (rFm_p (rFm_rf s) (by omega)) (by omega), ⟨r_take ht q.1.1 hT q.2, rQ_p (rQ_p q.1.2 (by decide)) (by decide)⟩, rTk_fr q.2 fun j _ _ h4 => ?_⟩ h
  rw [cm_p_ne (by omega), cm_p_ne h4]
theorem RO_reR {e d rn pu : Int} {lf : Bool} {Vc V0 : List tT} {K : List rTs} {S : List rSg} {s : cm_S} (q : rR tx n (e, d, rn, pu, lf, Vc ++ V0, K, S) s) (hn : rn < 499) {k p l m : Int} (hm : m = V0.length) (c : Int) {f : cm_S → Option cm_R} {G : cm_S → Prop} (h : ∀ s', rR tx n (e, d, rn + 1, pu, lf && decide (k < 44 ∨ 49 < k), ((k, p, l, c, false), foR .leaf Vc) :: V0, K, S) s' → RO s' (f s') G) : RO s (cm_bv (cm_sem 202 [.inr (.inl 41), .inl k, .inl p, .inl l, .inl m] s) f) G := by
  subst hm
  obtain ⟨s', e1, e2, e3, e4⟩ := cs_202 q.2 hn k p l c
  refine RO_bind ⟨s', e1, e3, rAt_fr q.1 (e3.1 46 (by omega)) (fun j _ _ _ => ?_), e2⟩ h
  exact e4 j (by omega) (by omega) (by omega)
theorem RO_re {e d rn pu : Int} {lf : Bool} {Vc V0 : List tT} {K : List rTs} {S : List rSg} {s : cm_S} {t : tTk} (q : rRt tx n (e, d, rn, pu, lf, Vc ++ V0, K, S) t s) (hn : rn < 499) {k p l m : Int} (hm : m = V0.length) (c : Int) {f : cm_S → Option cm_R} {G : cm_S → Prop} (h : ∀ s', rRt tx n (e, d, rn + 1, pu, lf && decide (k < 44 ∨ 49 < k), ((k, p, l, c, false), foR .leaf Vc) :: V0, K, S) t s' → RO s' (f s') G) : RO s (cm_bv (cm_sem 202 [.inr (.inl 41), .inl k, .inl p, .inl l, .inl m] s) f) G := by
  subst hm
  obtain ⟨s', e1, e2, e3, e4⟩ := cs_202 q.1.2 hn k p l c
  refine RO_bind ⟨s', e1, e3, ⟨rAt_fr q.1.1 (e3.1 46 (by omega)) (fun j _ _ _ => ?_), e2⟩, rTk_fr q.2 fun j _ _ _ => ?_⟩ h
  · exact e4 j (by omega) (by omega) (by omega)
  · exact e4 j (by omega) (by omega) (by omega)
/-- bad(), where nothing was wrong yet -/
def gB (s : cm_S) : Prop := 0 < s.1 4108
theorem RO_bd {c : rC} {s : cm_S} {t : tTk} (q : rRt tx n c t s) {f : cm_S → Option cm_R} {G : cm_S → Prop} (h : ∀ s', rQ c.2 s' → gB s' → RO s' (f s') G) : RO s (cm_bv (cm_sem 205 [.inr (.inl 41)] s) f) G := by
  refine RO_bind (G1 := fun s' => rQ c.2 s' ∧ gB s') ⟨_, cs_205 q.nof, rFm_p (rFm_p (rFm_rf s) (by omega)) (by omega), rQ_p (rQ_p q.1.2 (by decide)) (by decide), ?_⟩ fun s' g => h s' g.1 g.2
  unfold gB
  rw [cm_p_ne (by decide), cm_p_at]
  decide
/-- a look that fails -/
theorem RO_n1 (ht : tOk tx n) {c : rC} {s : cm_S} (q : rR tx n c s) (hT : lxG tx n true c.1 = none) {f : cm_S → Option cm_R} {G : cm_S → Prop} (h : ∀ s', rQ c.2 s' → gB s' → rTx tx n s' → 0 ≤ s'.1 4112 → RO s' (f s') G) : RO s (cm_bv (cm_sem 180 [.inr (.inl 41), .inl 1] s) f) G := by
  obtain ⟨s', e1, e2, e3, e4⟩ := (cs_180 ht q.1 true).2 hT
  refine RO_bind (G1 := fun s' => rQ c.2 s' ∧ gB s' ∧ rTx tx n s' ∧ 0 ≤ s'.1 4112) ⟨s', e1, e2.fm, rQ_fr q.2 e2, ?_, ⟨?_, ?_⟩, e4⟩ fun s' g => h s' g.1 g.2.1 g.2.2.1 g.2.2.2
  · unfold gB; omega
  · rw [e2.2 4107 (by unfold rSlt; omega)]; exact q.1.1.1
  · intro j j0 j1; rw [e2.1]; exact q.1.1.2 j j0 j1
theorem RO_n0 (ht : tOk tx n) {c : rC} {s : cm_S} (q : rR tx n c s) (hT : lxG tx n false c.1 = none) {f : cm_S → Option cm_R} {G : cm_S → Prop} (h : ∀ s', rQ c.2 s' → gB s' → rTx tx n s' → 0 ≤ s'.1 4112 → RO s' (f s') G) : RO s (cm_bv (cm_sem 180 [.inr (.inl 41), .inl 0] s) f) G := by
  obtain ⟨s', e1, e2, e3, e4⟩ := (cs_180 ht q.1 false).2 hT
  refine RO_bind (G1 := fun s' => rQ c.2 s' ∧ gB s' ∧ rTx tx n s' ∧ 0 ≤ s'.1 4112) ⟨s', e1, e2.fm, rQ_fr q.2 e2, ?_, ⟨?_, ?_⟩, e4⟩ fun s' g => h s' g.1 g.2.1 g.2.2.1 g.2.2.2
  · unfold gB; omega
  · rw [e2.2 4107 (by unfold rSlt; omega)]; exact q.1.1.1
  · intro j j0 j1; rw [e2.1]; exact q.1.1.2 j j0 j1
/-! enters() -/
theorem en_ok (ht : tOk tx n) {e d rn pu : Int} {lf : Bool} {V : List tT} {K : List rTs} {S : List rSg} {s : cm_S} {t : tTk} (q : rR tx n (e, d, rn, pu, lf, V, K, S) s) (hT : lxG tx n true e = some t) (h0 : 0 ≤ d) (hd : d < 20 ∨ 20 ≤ d ∧ d ≤ 30 ∧ rNo t = 0) : ROI s (cm_sem 200 [.inr (.inl 41)] s) fun z s' => z = 1 ∧ rRt tx n (e, d + 1, rn, pu, lf, V, K, S) t s' := by
  rw [cS_200, cF_200_0]
  obtain ⟨s1, e1, e2, -, e4, e5, -⟩ := (cs_180 ht q.1 true).1 t hT
  have q1 : rRt tx n (e, d, rn, pu, lf, V, K, S) t s1 := ⟨⟨e4, rQ_fr q.2 e2⟩, e5⟩
  have hf := q1.nof
  have hdp : s1.1 4140 = d := q1.1.2.1
  have fin : ROI s (some (.inl (some (.inl 1)), cm_p s1 4140 (cm_w (s1.1 4140 + 1)))) fun z s' => z = 1 ∧ rRt tx n (e, d + 1, rn, pu, lf, V, K, S) t s' := by
    refine ⟨1, _, rfl, rFm_p e2.fm (by omega), rfl, ⟨rAt_fr q1.1.1 rfl fun j _ _ _ => cm_p_ne (by omega), ?_⟩, rTk_fr q1.2 fun j _ _ _ => cm_p_ne (by omega)⟩
    obtain ⟨h1, h2, h3, h4, h5, h6, h7, h8, h9, h10⟩ := q1.1.2
    refine ⟨by rw [cm_p_at, hdp, cm_w_id (by omega) (by omega)], (cm_p_ne (by decide)).trans h2, (cm_p_ne (by decide)).trans h3, (cm_p_ne (by decide)).trans h4, (cm_p_ne (by decide)).trans h5, rSkA_fr (s := s1) _ (fun a i _ _ _ => rfl) h6, (cm_p_ne (by decide)).trans h7, rVaA_fr (s := s1) _ _ (fun a i _ _ _ => rfl) (fun i _ => rfl) h8, (cm_p_ne (by decide)).trans h9, rSgA_fr (s := s1) _ (fun a i _ _ _ => rfl) h10⟩
  show ROI s (cm_bv (cm_sem 180 [.inr (.inl 41), .inl (cm_n true)] s) _) _
  rw [e1, cm_bv_o, if_pos hf]
  rcases hd with hd | ⟨hd, hd2, hz⟩
  · rw [if_neg (by omega), if_pos hf]
    exact fin
  · by_cases h20 : d = 20
    · rw [if_pos (by omega), q1.tok, if_pos hz, if_pos hf]
      exact fin
    · rw [if_neg (by omega), if_pos hf]
      exact fin
theorem en_deep (ht : tOk tx n) {e d rn pu : Int} {lf : Bool} {V : List tT} {K : List rTs} {S : List rSg} {s : cm_S} {t : tTk} (q : rR tx n (e, d, rn, pu, lf, V, K, S) s) (hT : lxG tx n true e = some t) (hd : d = 20) (hz : rNo t ≠ 0) : ROI s (cm_sem 200 [.inr (.inl 41)] s) fun z s' => z = 0 ∧ gB s' := by
  rw [cS_200, cF_200_0]
  obtain ⟨s1, e1, e2, -, e4, e5, -⟩ := (cs_180 ht q.1 true).1 t hT
  have q1 : rRt tx n (e, d, rn, pu, lf, V, K, S) t s1 := ⟨⟨e4, rQ_fr q.2 e2⟩, e5⟩
  have hf := q1.nof
  have hdp : s1.1 4140 = d := q1.1.2.1
  show ROI s (cm_bv (cm_sem 180 [.inr (.inl 41), .inl (cm_n true)] s) _) _
  rw [e1, cm_bv_o, if_pos hf, if_pos (by omega), q1.tok, if_neg hz, cs_185 hf, cm_bv_o, if_neg (by rw [cm_p_ne (by decide), cm_p_at]; decide)]
  refine ⟨0, _, rfl, rFm_p (rFm_p (rFm_p e2.fm (by omega)) (by omega)) (by omega), rfl, ?_⟩
  unfold gB
  rw [cm_p_ne (by decide), cm_p_ne (by decide), cm_p_at]
  decide
theorem en_none (ht : tOk tx n) {c : rC} {s : cm_S} (q : rR tx n c s) (hT : lxG tx n true c.1 = none) : ROI s (cm_sem 200 [.inr (.inl 41)] s) fun z s' => z = 0 ∧ gB s' := by
  rw [cS_200, cF_200_0]
  obtain ⟨s1, e1, e2, e3, -⟩ := (cs_180 ht q.1 true).2 hT
  show ROI s (cm_bv (cm_sem 180 [.inr (.inl 41), .inl (cm_n true)] s) _) _
  rw [e1, cm_bv_o, if_neg (by omega), if_neg (by omega)]
  refine ⟨0, _, rfl, rFm_p e2.fm (by omega), rfl, ?_⟩
  unfold gB
  rw [cm_p_ne (by decide)]
  omega
/-! the loop -/
noncomputable def rL (s : cm_S) : Option cm_R := cm_lp cm_sem cm_k175 45 [some (.inr (.inl 41))] [] s
def rTo (tx : Int → Int) (n : Int) (c c' : rC) : Prop := ∀ s, rR tx n c s → ∃ s', rL s = rL s' ∧ rFm s s' ∧ rR tx n c' s'
def rBd (tx : Int → Int) (n : Int) (c : rC) : Prop := ∀ s, rR tx n c s → ∃ s', rL s = rL s' ∧ rFm s s' ∧ gB s'
theorem rTo_rf (c : rC) : rTo tx n c c := fun s h => ⟨s, rfl, rFm_rf s, h⟩
theorem rTo.tr {a b c : rC} (h : rTo tx n a b) (h' : rTo tx n b c) : rTo tx n a c := fun s q => by
  obtain ⟨s1, e1, f1, q1⟩ := h s q
  obtain ⟨s2, e2, f2, q2⟩ := h' s1 q1
  exact ⟨s2, e1.trans e2, f1.tr f2, q2⟩
theorem rTo.bd {a b : rC} (h : rTo tx n a b) (h' : rBd tx n b) : rBd tx n a := fun s q => by
  obtain ⟨s1, e1, f1, q1⟩ := h s q
  obtain ⟨s2, e2, f2, q2⟩ := h' s1 q1
  exact ⟨s2, e1.trans e2, f1.tr f2, q2⟩
theorem rL_step {e d rn pu : Int} {lf : Bool} {V : List tT} {T : rTs} {K : List rTs} {S : List rSg} {s : cm_S} (q : rR tx n (e, d, rn, pu, lf, V, T :: K, S) s) {G : cm_S → Prop} (h : RO s (cm_sem 178 [.inr (.inl 41)] s) G) : ∃ s', rL s = rL s' ∧ rFm s s' ∧ G s' := by
  obtain ⟨s', e1, f1, g1⟩ := h
  have h5 : s.1 4128 = ((T :: K).length : Nat) := q.2.2.2.2.2.1
  rw [List.length_cons] at h5
  have h8 : s.1 4108 = 0 := q.1.2.2.2.2.1
  refine ⟨s', ?_, f1, g1⟩
  unfold rL
  rw [cE_175_45, cF_175_45, if_pos (by omega), if_pos h8, e1, cm_bv_o]
theorem rR_po {e d rn pu : Int} {lf : Bool} {V : List tT} {T : rTs} {K : List rTs} {S : List rSg} {s : cm_S} (q : rR tx n (e, d, rn, pu, lf, V, T :: K, S) s) : rR tx n (e, d, rn, pu, lf, V, K, S) (cm_p s 4128 K.length) := ⟨rAt_fr q.1 rfl fun j _ _ _ => cm_p_ne (by omega), rQ_po q.2⟩
end TX32
