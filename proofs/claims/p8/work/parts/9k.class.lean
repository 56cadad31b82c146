/-! ===== the class's parser beside the reference: how its methods are gone through ===== -/
def cWaA (s : cm_S) : List (Int × Int) → Prop
  | [] => True
  | q :: W => s.2 16 W.length = q.1 ∧ s.2 17 W.length = q.2 ∧ cWaA s W
theorem cWaA_fr {s s' : cm_S} : ∀ (W : List (Int × Int)), (∀ (a : Nat) (i : Int), 16 ≤ a → a ≤ 17 → i < W.length → s'.2 a i = s.2 a i) → cWaA s W → cWaA s' W
  | [], _, _ => trivial
  | q :: W, h, ⟨h1, h2, h3⟩ => by
    have hl : ((W.length : Nat) : Int) < ((q :: W).length : Nat) := by rw [List.length_cons]; omega
    exact ⟨(h 16 _ (by omega) (by omega) hl).trans h1, (h 17 _ (by omega) (by omega) hl).trans h2, cWaA_fr W (fun a i g1 g2 g3 => h a i g1 g2 (by omega)) h3⟩
section TX40
variable {tx : Int → Int} {n : Int}
/-- the parser's state: the token t behind e, cn nodes, sc semicolons, the signs that wait -/
def cSt (tx : Int → Int) (n : Int) (s : cm_S) (e : Int) (g : Bool) (t : tTk) (cn sc : Int) (W : List (Int × Int)) : Prop := cAt tx n s e g t ∧ s.1 410 = cn ∧ s.1 1407 = sc ∧ s.1 1405 = W.length ∧ cWaA s W
theorem cAt_fr {s s' : cm_S} {e : Int} {g : Bool} {t : tTk} (h : cAt tx n s e g t) (h1 : s'.2 2 = s.2 2) (h2 : s'.1 102 = s.1 102) (h3 : ∀ j : Nat, 1503 ≤ j → j ≤ 1507 → s'.1 j = s.1 j) : cAt tx n s' e g t := by
  obtain ⟨⟨a1, a2⟩, a3, a4, a5, b1, b2, b3, b4, b5⟩ := h
  exact ⟨⟨h2.trans a1, fun j j0 j1 => by rw [h1]; exact a2 j j0 j1⟩, a3, a4, a5, (h3 _ (by omega) (by omega)).trans b1, (h3 _ (by omega) (by omega)).trans b2, (h3 _ (by omega) (by omega)).trans b3, (h3 _ (by omega) (by omega)).trans b4, (h3 _ (by omega) (by omega)).trans b5⟩
theorem cSt.kd {s : cm_S} {e : Int} {g : Bool} {t : tTk} {cn sc : Int} {W : List (Int × Int)} (h : cSt tx n s e g t cn sc W) : s.1 1503 = t.1 := h.1.2.2.2.2.1
theorem cSt.cd {s : cm_S} {e : Int} {g : Bool} {t : tTk} {cn sc : Int} {W : List (Int × Int)} (h : cSt tx n s e g t cn sc W) : s.1 1504 = t.2.1 := h.1.2.2.2.2.2.1
theorem cSt.bg {s : cm_S} {e : Int} {g : Bool} {t : tTk} {cn sc : Int} {W : List (Int × Int)} (h : cSt tx n s e g t cn sc W) : s.1 1505 = t.2.2.1 := h.1.2.2.2.2.2.2.1
theorem cSt.fi {s : cm_S} {e : Int} {g : Bool} {t : tTk} {cn sc : Int} {W : List (Int × Int)} (h : cSt tx n s e g t cn sc W) : s.1 1506 = t.2.2.2.1 := h.1.2.2.2.2.2.2.2.1
theorem cSt.ln {s : cm_S} {e : Int} {g : Bool} {t : tTk} {cn sc : Int} {W : List (Int × Int)} (h : cSt tx n s e g t cn sc W) : s.1 1507 = cm_n t.2.2.2.2 := h.1.2.2.2.2.2.2.2.2
theorem cSt.lx {s : cm_S} {e : Int} {g : Bool} {t : tTk} {cn sc : Int} {W : List (Int × Int)} (h : cSt tx n s e g t cn sc W) : lxG tx n g e = some t := h.1.2.2.2.1
theorem cSt.e0 {s : cm_S} {e : Int} {g : Bool} {t : tTk} {cn sc : Int} {W : List (Int × Int)} (h : cSt tx n s e g t cn sc W) : 0 ≤ e ∧ e ≤ n := ⟨h.1.2.1, h.1.2.2.1⟩
theorem cSt.cn {s : cm_S} {e : Int} {g : Bool} {t : tTk} {cn sc : Int} {W : List (Int × Int)} (h : cSt tx n s e g t cn sc W) : s.1 410 = cn := h.2.1
/-- a run of the class beside one of the reference: both come to good ends, or both to bad ones -/
def OX (tx : Int → Int) (n : Int) (s : cm_S) (lo : Int) (x : Option cm_R) (c : rC) (Q : Option cm_V → cm_S → rC → Prop) : Prop := (∃ r s' c', x = some (.inl r, s') ∧ cFm s s' ∧ cKp s s' lo ∧ rTo tx n c c' ∧ Q r s' c') ∨ ∃ s', x = some (.inr 0, s') ∧ cFm s s' ∧ rBd tx n c
def OI (tx : Int → Int) (n : Int) (s : cm_S) (lo : Int) (x : Option cm_R) (c : rC) (Q : Int → cm_S → rC → Prop) : Prop := OX tx n s lo x c fun r s' c' => ∃ v, r = some (.inl v) ∧ Q v s' c'
def OV (tx : Int → Int) (n : Int) (s : cm_S) (lo : Int) (x : Option cm_R) (c : rC) (Q : cm_S → rC → Prop) : Prop := OX tx n s lo x c fun r s' c' => r = none ∧ Q s' c'
theorem OX_bi {s : cm_S} {lo lo1 : Int} {x : Option cm_R} {c : rC} {f : Int → cm_S → Option cm_R} {Q1 : Int → cm_S → rC → Prop} {Q : Option cm_V → cm_S → rC → Prop} (h : OI tx n s lo1 x c Q1) (hl : lo ≤ lo1) (h2 : ∀ v s' c', cFm s s' → cKp s s' lo1 → Q1 v s' c' → OX tx n s' lo (f v s') c' Q) : OX tx n s lo (cm_bi x f) c Q := by
  rcases h with ⟨r, s', c', e1, f1, k1, t1, v, rfl, q1⟩ | ⟨s', e1, f1, b1⟩
  · rw [e1, cm_bi_i]
    rcases h2 v s' c' f1 k1 q1 with ⟨r, s2, c2, e2, f2, k2, t2, q2⟩ | ⟨s2, e2, f2, b2⟩
    · exact Or.inl ⟨r, s2, c2, e2, f1.tr f2, k1.tr k2 hl (Int.le_refl _), t1.tr t2, q2⟩
    · exact Or.inr ⟨s2, e2, f1.tr f2, t1.bd b2⟩
  · rw [e1, cm_bi_t]
    exact Or.inr ⟨s', rfl, f1, b1⟩
theorem OX_bv {s : cm_S} {lo lo1 : Int} {x : Option cm_R} {c : rC} {f : cm_S → Option cm_R} {Q1 : cm_S → rC → Prop} {Q : Option cm_V → cm_S → rC → Prop} (h : OV tx n s lo1 x c Q1) (hl : lo ≤ lo1) (h2 : ∀ s' c', cFm s s' → cKp s s' lo1 → Q1 s' c' → OX tx n s' lo (f s') c' Q) : OX tx n s lo (cm_bv x f) c Q := by
  rcases h with ⟨r, s', c', e1, f1, k1, t1, rfl, q1⟩ | ⟨s', e1, f1, b1⟩
  · rw [e1, cm_bv_o]
    rcases h2 s' c' f1 k1 q1 with ⟨r, s2, c2, e2, f2, k2, t2, q2⟩ | ⟨s2, e2, f2, b2⟩
    · exact Or.inl ⟨r, s2, c2, e2, f1.tr f2, k1.tr k2 hl (Int.le_refl _), t1.tr t2, q2⟩
    · exact Or.inr ⟨s2, e2, f1.tr f2, t1.bd b2⟩
  · rw [e1, cm_bv_t]
    exact Or.inr ⟨s', rfl, f1, b1⟩
theorem OX_to {s : cm_S} {lo : Int} {x : Option cm_R} {c c1 : rC} {Q : Option cm_V → cm_S → rC → Prop} (h : rTo tx n c c1) (h2 : OX tx n s lo x c1 Q) : OX tx n s lo x c Q := by
  rcases h2 with ⟨r, s2, c2, e2, f2, k2, t2, q2⟩ | ⟨s2, e2, f2, b2⟩
  · exact Or.inl ⟨r, s2, c2, e2, f2, k2, h.tr t2, q2⟩
  · exact Or.inr ⟨s2, e2, f2, h.bd b2⟩
theorem OX_im {s : cm_S} {lo : Int} {x : Option cm_R} {c : rC} {Q Q' : Option cm_V → cm_S → rC → Prop} (h2 : OX tx n s lo x c Q) (h : ∀ r s' c', Q r s' c' → Q' r s' c') : OX tx n s lo x c Q' := by
  rcases h2 with ⟨r, s2, c2, e2, f2, k2, t2, q2⟩ | ⟨s2, e2, f2, b2⟩
  · exact Or.inl ⟨r, s2, c2, e2, f2, k2, t2, h _ _ _ q2⟩
  · exact Or.inr ⟨s2, e2, f2, b2⟩
theorem OX_reti {s : cm_S} {lo v : Int} {c : rC} {Q : Option cm_V → cm_S → rC → Prop} (h : Q (some (.inl v)) s c) : OX tx n s lo (some (.inl (some (.inl v)), s)) c Q := Or.inl ⟨_, s, c, rfl, cFm_rf s, cKp_rf s lo, rTo_rf c, h⟩
theorem OX_retv {s : cm_S} {lo : Int} {c : rC} {Q : Option cm_V → cm_S → rC → Prop} (h : Q none s c) : OX tx n s lo (some (.inl none, s)) c Q := Or.inl ⟨_, s, c, rfl, cFm_rf s, cKp_rf s lo, rTo_rf c, h⟩
theorem OX_retb {s : cm_S} {lo v z : Int} {c : rC} {Q : Option cm_V → cm_S → rC → Prop} (h : Q (some (.inl v)) (cm_p s 1406 z) c) : OX tx n s lo (some (.inl (some (.inl v)), cm_p s 1406 z)) c Q := Or.inl ⟨_, _, c, rfl, cFm_p (cFm_rf s) (by omega), cKp_row rfl lo, rTo_rf c, h⟩
theorem OX_from {s s1 : cm_S} {lo : Int} {x : Option cm_R} {c : rC} {Q : Option cm_V → cm_S → rC → Prop} (hf : cFm s s1) (hk : cKp s s1 lo) (h : OX tx n s1 lo x c Q) : OX tx n s lo x c Q := by
  rcases h with ⟨r, s2, c2, e2, f2, k2, t2, q2⟩ | ⟨s2, e2, f2, b2⟩
  · exact Or.inl ⟨r, s2, c2, e2, hf.tr f2, hk.tr k2 (Int.le_refl _) (Int.le_refl _), t2, q2⟩
  · exact Or.inr ⟨s2, e2, hf.tr f2, b2⟩
/-- a call's answer is the method's own -/
theorem OI_tail {s : cm_S} {lo : Int} {x : Option cm_R} {c : rC} {Q : Int → cm_S → rC → Prop} (h : OI tx n s lo x c Q) : OX tx n s lo (cm_bi x fun z s1 => some (.inl (some (.inl z)), s1)) c fun r s' c' => ∃ v, r = some (.inl v) ∧ Q v s' c' := OX_bi h (Int.le_refl _) fun v s' c' _ _ q => OX_reti ⟨v, rfl, q⟩
theorem OX_ite {s : cm_S} {lo : Int} {p : Prop} [Decidable p] {a b : Option cm_R} {c : rC} {Q : Option cm_V → cm_S → rC → Prop} (h1 : p → OX tx n s lo a c Q) (h2 : ¬ p → OX tx n s lo b c Q) : OX tx n s lo (if p then a else b) c Q := by
  by_cases h : p
  · rw [if_pos h]; exact h1 h
  · rw [if_neg h]; exact h2 h
theorem cSt_p {s : cm_S} {e : Int} {g : Bool} {t : tTk} {cn sc : Int} {W : List (Int × Int)} (h : cSt tx n s e g t cn sc W) {z : Int} : cSt tx n (cm_p s 1406 z) e g t cn sc W := ⟨cAt_fr h.1 rfl (cm_p_ne (by decide)) fun j j1 j2 => cm_p_ne (by omega), (cm_p_ne (by decide)).trans h.2.1, (cm_p_ne (by decide)).trans h.2.2.1, (cm_p_ne (by decide)).trans h.2.2.2.1, cWaA_fr (s := s) _ (fun a i _ _ _ => rfl) h.2.2.2.2⟩
/-! next, operandDue, refuse, make, add -/
theorem X_next (ht : tOk tx n) {s : cm_S} {e : Int} {g : Bool} {t : tTk} {cn sc : Int} {W : List (Int × Int)} (h : cSt tx n s e g t cn sc W) {lo : Int} {f : cm_S → Option cm_R} {c : rC} {Q : Option cm_V → cm_S → rC → Prop} (hb : lxG tx n false t.2.2.2.1 = none → rBd tx n c) (h2 : ∀ t' s', lxG tx n false t.2.2.2.1 = some t' → s'.2 = s.2 → s'.1 1406 = s.1 1406 → cSt tx n s' t.2.2.2.1 false t' cn sc W → OX tx n s' lo (f s') c Q) : OX tx n s lo (cm_bv (cm_sem 26 [.inr (.inl 15)] s) f) c Q := by
  obtain ⟨a1, a2⟩ := c_next ht h.1
  cases hT : lxG tx n false t.2.2.2.1 with
  | none =>
    obtain ⟨s', e1, e2⟩ := a2 hT
    rw [e1, cm_bv_t]
    exact Or.inr ⟨s', rfl, e2.fm, hb hT⟩
  | some t' =>
    obtain ⟨s', e1, e2, e3⟩ := a1 t' hT
    rw [e1, cm_bv_o]
    exact OX_from e2.fm (cKp_row e2.1 lo) (h2 t' s' hT e2.1 (e2.2 1406 (by omega)) ⟨e3, (e2.2 410 (by omega)).trans h.2.1, (e2.2 1407 (by omega)).trans h.2.2.1, (e2.2 1405 (by omega)).trans h.2.2.2.1, cWaA_fr (s := s) _ (fun a i _ _ _ => by rw [e2.1]) h.2.2.2.2⟩)
theorem X_due (ht : tOk tx n) {s : cm_S} {e : Int} {g : Bool} {t : tTk} {cn sc : Int} {W : List (Int × Int)} (h : cSt tx n s e g t cn sc W) {lo : Int} {f : cm_S → Option cm_R} {c : rC} {Q : Option cm_V → cm_S → rC → Prop} (hb : lxG tx n true e = none → rBd tx n c) (h2 : ∀ t' s', lxG tx n true e = some t' → s'.2 = s.2 → s'.1 1406 = s.1 1406 → cSt tx n s' e true t' cn sc W → OX tx n s' lo (f s') c Q) : OX tx n s lo (cm_bv (cm_sem 49 [.inr (.inl 15)] s) f) c Q := by
  obtain ⟨a1, a2⟩ := c_due ht h.1
  cases hT : lxG tx n true e with
  | none =>
    obtain ⟨s', e1, e2⟩ := a2 hT
    rw [e1, cm_bv_t]
    exact Or.inr ⟨s', rfl, e2.fm, hb hT⟩
  | some t' =>
    obtain ⟨s', e1, e2, e3⟩ := a1 t' hT
    rw [e1, cm_bv_o]
    exact OX_from e2.fm (cKp_row e2.1 lo) (h2 t' s' hT e2.1 (e2.2 1406 (by omega)) ⟨e3, (e2.2 410 (by omega)).trans h.2.1, (e2.2 1407 (by omega)).trans h.2.2.1, (e2.2 1405 (by omega)).trans h.2.2.2.1, cWaA_fr (s := s) _ (fun a i _ _ _ => by rw [e2.1]) h.2.2.2.2⟩)
theorem X_raise {s : cm_S} {lo x y : Int} {f : cm_S → Option cm_R} {c : rC} {Q : Option cm_V → cm_S → rC → Prop} (hb : rBd tx n c) : OX tx n s lo (cm_bv (cm_sem 34 [.inr (.inl 3), .inl x, .inl y] s) f) c Q := by
  rw [cs_34, cm_bv_t]
  exact Or.inr ⟨_, rfl, cFm_p (cFm_p (cFm_rf s) (by omega)) (by omega), hb⟩
theorem X_refuse {s : cm_S} {lo : Int} {f : cm_S → Option cm_R} {c : rC} {Q : Option cm_V → cm_S → rC → Prop} (hb : rBd tx n c) : OX tx n s lo (cm_bv (cm_sem 52 [.inr (.inl 14)] s) f) c Q := by
  rw [cS_52, cF_52_0, cs_34, cm_bv_t, cm_bv_t]
  exact Or.inr ⟨_, rfl, cFm_p (cFm_p (cFm_rf s) (by omega)) (by omega), hb⟩
/-- beginWithin() -/
theorem X_within (ht : tOk tx n) {s : cm_S} {e : Int} {g : Bool} {t : tTk} {cn sc : Int} {W : List (Int × Int)} (h : cSt tx n s e g t cn sc W) {lo d : Int} {f : cm_S → Option cm_R} {c : rC} {Q : Option cm_V → cm_S → rC → Prop} (hb : lxG tx n true e = none → rBd tx n c) (hE : ∀ t', lxG tx n true e = some t' → rNo t' = 0 → rBd tx n c) (hD : ∀ t', lxG tx n true e = some t' → rNo t' ≠ 0 → 20 ≤ d → rBd tx n c) (h2 : ∀ t' s', lxG tx n true e = some t' → rNo t' ≠ 0 → d < 20 → s'.2 = s.2 → s'.1 1406 = s.1 1406 → cSt tx n s' e true t' cn sc W → OX tx n s' lo (f s') c Q) : OX tx n s lo (cm_bv (cm_sem 48 [.inr (.inl 14), .inl d] s) f) c Q := by
  refine OX_bv (Q1 := fun s' c' => c' = c ∧ s'.2 = s.2 ∧ s'.1 1406 = s.1 1406 ∧ ∃ t', lxG tx n true e = some t' ∧ rNo t' ≠ 0 ∧ d < 20 ∧ cSt tx n s' e true t' cn sc W) (lo1 := lo) ?_ (Int.le_refl _) ?_
  · rw [cS_48, cF_48_0]
    refine X_due ht h hb fun t' s' hT hr hbr hs => ?_
    have ok := lxG_ok ht hs.e0.1 hs.e0.2 hT
    have hk := (tk_kind ok.1).1
    refine OX_ite (fun h0 => ?_) fun h0 => ?_
    · refine X_refuse (hE t' hT ?_)
      rw [hs.kd, hk] at h0
      exact h0
    · rw [hs.kd, hk] at h0
      refine OX_ite (fun hd => OX_retv ⟨rfl, rfl, hr, hbr, t', hT, h0, hd, hs⟩) fun hd => X_raise (hD t' hT h0 (by omega))
  · rintro s' c' - - ⟨rfl, e2, e3, t', e4, e5, e6, e7⟩
    exact h2 t' s' e4 e5 e6 e2 e3 e7
theorem X_make {s : cm_S} {e : Int} {g : Bool} {t : tTk} {cn sc : Int} {W : List (Int × Int)} (h : cSt tx n s e g t cn sc W) (h0 : 0 ≤ cn) (h9 : cn < 512) {lo k p l x : Int} (hl : lo ≤ cn) {f : Int → cm_S → Option cm_R} {c : rC} {Q : Option cm_V → cm_S → rC → Prop} (h2 : ∀ s', cKp s s' cn → s'.1 1406 = s.1 1406 → cNo s' (cn + 1) cn (k, p, l, x) cn [] → cSt tx n s' e g t (cn + 1) sc W → OX tx n s' lo (f cn s') c Q) : OX tx n s lo (cm_bi (cm_sem 45 [.inr (.inl 4), .inl k, .inl p, .inl l, .inl x] s) f) c Q := by
  have hc := h.2.1
  have e1 := cs_45 (s := s) (by omega) (by omega) k p l x
  rw [hc] at e1
  rw [e1, cm_bi_i]
  have hk := cMk_kp s k p l x
  have hn := cNo_new (s := s) (by omega) k p l x
  rw [hc] at hk hn
  refine OX_from (cMk_fm s k p l x) (hk.le hl) (h2 _ hk (cMk_fld (by decide)) hn ⟨cAt_fr h.1 ?_ (cMk_fld (by decide)) fun j j1 j2 => cMk_fld (by omega), by rw [cMk_cnt, hc], (cMk_fld (by decide)).trans h.2.2.1, (cMk_fld (by decide)).trans h.2.2.2.1, cWaA_fr (s := s) _ (fun a i a1 a2 _ => ?_) h.2.2.2.2⟩)
  · exact (cMk_fm s k p l x).1 2 (by omega)
  · unfold cMk
    rw [cm_p_row, cm_q_ne (by omega), cm_q_ne (by omega), cm_q_ne (by omega), cm_q_ne (by omega), cm_q_ne (by omega), cm_q_ne (by omega), cm_q_ne (by omega), cm_q_ne (by omega)]
theorem cSt_ad {s : cm_S} {e : Int} {g : Bool} {t : tTk} {cn sc : Int} {W : List (Int × Int)} (h : cSt tx n s e g t cn sc W) (p c : Int) : cSt tx n (cAd s p c) e g t cn sc W := by
  refine ⟨cAt_fr h.1 (cAd_fm.1 2 (by omega)) (by rw [cAd_fld]) fun j _ _ => by rw [cAd_fld], by rw [cAd_fld]; exact h.2.1, by rw [cAd_fld]; exact h.2.2.1, by rw [cAd_fld]; exact h.2.2.2.1, cWaA_fr (s := s) _ (fun a i a1 a2 _ => ?_) h.2.2.2.2⟩
  unfold cAd
  rw [cm_q_ne (by omega), cm_q_ne (by omega)]
  split
  · rw [cm_q_ne (by omega)]
  · rw [cm_q_ne (by omega)]
/-- a child more, made behind all that the node has -/
theorem X_add {s : cm_S} {e : Int} {g : Bool} {t : tTk} {cn sc : Int} {W : List (Int × Int)} (h : cSt tx n s e g t cn sc W) (h9 : cn ≤ 512) {a v w lb lo : Int} {l : Int × Int × Int × Int} {L : List tT} {T : tT} (hn : cNo s a v l lb L) (hr : cTr s a cn w T) (h11 : s.2 11 w = -1) (hl : lo ≤ lb) {f : cm_S → Option cm_R} {c : rC} {Q : Option cm_V → cm_S → rC → Prop} (h2 : ∀ s', cKp s s' lb → s'.1 1406 = s.1 1406 → cNo s' cn v l lb (L ++ [T]) → cSt tx n s' e g t cn sc W → OX tx n s' lo (f s') c Q) : OX tx n s lo (cm_bv (cm_sem 58 [.inr (.inl 4), .inl v, .inl w] s) f) c Q := by
  have hin := cNo_in hn
  have hin2 := cTr_in hr
  have hla := cNo_last hn
  have hc := h.2.1
  obtain ⟨k1, k2⟩ := cNo_add hn hr h11
  rw [cs_58 (by omega) (by omega) (by omega) (by omega), cm_bv_o]
  exact OX_from cAd_fm (k2.le hl) (h2 _ k2 (by rw [cAd_fld]) k1 (cSt_ad h v w))
/-- the first child, made ahead of the node -/
theorem X_add0 {s : cm_S} {e : Int} {g : Bool} {t : tTk} {cn sc : Int} {W : List (Int × Int)} (h : cSt tx n s e g t cn sc W) (h9 : cn ≤ 512) {v w lb lo : Int} {l : Int × Int × Int × Int} {T : tT} (hn : cNo s cn v l v []) (hr : cTr s lb v w T) (h11 : s.2 11 w = -1) (h0 : 0 ≤ lb) (hl : lo ≤ lb) {f : cm_S → Option cm_R} {c : rC} {Q : Option cm_V → cm_S → rC → Prop} (h2 : ∀ s', cKp s s' lb → s'.1 1406 = s.1 1406 → cNo s' cn v l lb [T] → cSt tx n s' e g t cn sc W → OX tx n s' lo (f s') c Q) : OX tx n s lo (cm_bv (cm_sem 58 [.inr (.inl 4), .inl v, .inl w] s) f) c Q := by
  have hin := cNo_in hn
  have hin2 := cTr_in hr
  have hla := cNo_last hn
  have hc := h.2.1
  obtain ⟨k1, k2⟩ := cNo_add0 hn hr h11 h0
  rw [cs_58 (by omega) (by omega) (by omega) (by omega), cm_bv_o]
  exact OX_from cAd_fm (k2.le hl) (h2 _ k2 (by rw [cAd_fld]) k1 (cSt_ad h v w))
/-- makeFirst, makeOf, makeHere, nothing -/
theorem X_first (ht : tOk tx n) {s : cm_S} {e : Int} {g : Bool} {t : tTk} {cn sc : Int} {W : List (Int × Int)} (h : cSt tx n s e g t cn sc W) (h0 : 0 ≤ cn) (h9 : cn < 512) {lo k : Int} (hl : lo ≤ cn) {f : Int → cm_S → Option cm_R} {c : rC} {Q : Option cm_V → cm_S → rC → Prop} (hb : lxG tx n false t.2.2.2.1 = none → rBd tx n c) (h2 : ∀ t' s', lxG tx n false t.2.2.2.1 = some t' → cKp s s' cn → s'.1 1406 = s.1 1406 → cNo s' (cn + 1) cn (k, t.2.2.1, 0, 0) cn [] → cSt tx n s' t.2.2.2.1 false t' (cn + 1) sc W → OX tx n s' lo (f cn s') c Q) : OX tx n s lo (cm_bi (cm_sem 56 [.inr (.inl 14), .inl k] s) f) c Q := by
  refine OX_bi (lo1 := cn) (Q1 := fun v s' c' => v = cn ∧ c' = c ∧ cKp s s' cn ∧ s'.1 1406 = s.1 1406 ∧ cNo s' (cn + 1) cn (k, t.2.2.1, 0, 0) cn [] ∧ ∃ t', lxG tx n false t.2.2.2.1 = some t' ∧ cSt tx n s' t.2.2.2.1 false t' (cn + 1) sc W) ?_ hl ?_
  · rw [cS_56, cF_56_0, h.bg]
    refine X_make h h0 h9 (Int.le_refl _) fun s1 k1 b1 n1 st1 => X_next ht st1 hb fun t' s2 hT e2 b2 st2 => OX_reti ⟨cn, rfl, rfl, rfl, k1.tr (cKp_row e2 cn) (Int.le_refl _) (Int.le_refl _), b2.trans b1, cNo_row n1 e2, t', hT, st2⟩
  · rintro v s' c' - - ⟨rfl, rfl, k1, b1, n1, t', hT, st⟩
    exact h2 t' s' hT k1 b1 n1 st
theorem X_of (ht : tOk tx n) {s : cm_S} {e : Int} {g : Bool} {t : tTk} {cn sc : Int} {W : List (Int × Int)} (h : cSt tx n s e g t cn sc W) (h0 : 0 ≤ cn) (h9 : cn < 512) {lo k : Int} (hl : lo ≤ cn) {f : Int → cm_S → Option cm_R} {c : rC} {Q : Option cm_V → cm_S → rC → Prop} (hb : lxG tx n false t.2.2.2.1 = none → rBd tx n c) (h2 : ∀ t' s', lxG tx n false t.2.2.2.1 = some t' → cKp s s' cn → s'.1 1406 = s.1 1406 → cNo s' (cn + 1) cn (k, t.2.2.1, t.2.2.2.1 - t.2.2.1, t.2.1) cn [] → cSt tx n s' t.2.2.2.1 false t' (cn + 1) sc W → OX tx n s' lo (f cn s') c Q) : OX tx n s lo (cm_bi (cm_sem 64 [.inr (.inl 14), .inl k] s) f) c Q := by
  have rg := lxG_rg ht h.e0.1 h.e0.2 h.lx
  refine OX_bi (lo1 := cn) (Q1 := fun v s' c' => v = cn ∧ c' = c ∧ cKp s s' cn ∧ s'.1 1406 = s.1 1406 ∧ cNo s' (cn + 1) cn (k, t.2.2.1, t.2.2.2.1 - t.2.2.1, t.2.1) cn [] ∧ ∃ t', lxG tx n false t.2.2.2.1 = some t' ∧ cSt tx n s' t.2.2.2.1 false t' (cn + 1) sc W) ?_ hl ?_
  · rw [cS_64, cF_64_0, cS_40, cF_40_0, cm_bi_i, h.bg, h.fi, h.cd, cm_w_id (by omega) (by omega)]
    refine X_make h h0 h9 (Int.le_refl _) fun s1 k1 b1 n1 st1 => X_next ht st1 hb fun t' s2 hT e2 b2 st2 => OX_reti ⟨cn, rfl, rfl, rfl, k1.tr (cKp_row e2 cn) (Int.le_refl _) (Int.le_refl _), b2.trans b1, cNo_row n1 e2, t', hT, st2⟩
  · rintro v s' c' - - ⟨rfl, rfl, k1, b1, n1, t', hT, st⟩
    exact h2 t' s' hT k1 b1 n1 st
theorem X_here {s : cm_S} {e : Int} {g : Bool} {t : tTk} {cn sc : Int} {W : List (Int × Int)} (h : cSt tx n s e g t cn sc W) (h0 : 0 ≤ cn) (h9 : cn < 512) {lo k : Int} (hl : lo ≤ cn) {f : Int → cm_S → Option cm_R} {c : rC} {Q : Option cm_V → cm_S → rC → Prop} (h2 : ∀ s', cKp s s' cn → s'.1 1406 = s.1 1406 → cNo s' (cn + 1) cn (k, t.2.2.1, 0, 0) cn [] → cSt tx n s' e g t (cn + 1) sc W → OX tx n s' lo (f cn s') c Q) : OX tx n s lo (cm_bi (cm_sem 75 [.inr (.inl 14), .inl k] s) f) c Q := by
  refine OX_bi (lo1 := cn) (Q1 := fun v s' c' => v = cn ∧ c' = c ∧ cKp s s' cn ∧ s'.1 1406 = s.1 1406 ∧ cNo s' (cn + 1) cn (k, t.2.2.1, 0, 0) cn [] ∧ cSt tx n s' e g t (cn + 1) sc W) ?_ hl ?_
  · rw [cS_75, cF_75_0, h.bg]
    exact X_make h h0 h9 (Int.le_refl _) fun s1 k1 b1 n1 st1 => OX_reti ⟨cn, rfl, rfl, rfl, k1, b1, n1, st1⟩
  · rintro v s' c' - - ⟨rfl, rfl, k1, b1, n1, st⟩
    exact h2 s' k1 b1 n1 st
theorem X_noth {s : cm_S} {e : Int} {g : Bool} {t : tTk} {cn sc : Int} {W : List (Int × Int)} (h : cSt tx n s e g t cn sc W) (h0 : 0 ≤ cn) (h9 : cn < 512) {lo : Int} (hl : lo ≤ cn) {f : Int → cm_S → Option cm_R} {c : rC} {Q : Option cm_V → cm_S → rC → Prop} (h2 : ∀ s', cKp s s' cn → s'.1 1406 = s.1 1406 → cTr s' cn (cn + 1) cn ((21, 0, 0, 0, false), .leaf) → s'.2 11 cn = -1 → cSt tx n s' e g t (cn + 1) sc W → OX tx n s' lo (f cn s') c Q) : OX tx n s lo (cm_bi (cm_sem 83 [.inr (.inl 14)] s) f) c Q := by
  refine OX_bi (lo1 := cn) (Q1 := fun v s' c' => v = cn ∧ c' = c ∧ cKp s s' cn ∧ s'.1 1406 = s.1 1406 ∧ cNo s' (cn + 1) cn (21, 0, 0, 0) cn [] ∧ cSt tx n s' e g t (cn + 1) sc W) ?_ hl ?_
  · rw [cS_83, cF_83_0]
    exact X_make h h0 h9 (Int.le_refl _) fun s1 k1 b1 n1 st1 => OX_reti ⟨cn, rfl, rfl, rfl, k1, b1, n1, st1⟩
  · rintro v s' c' - - ⟨rfl, rfl, k1, b1, n1, st⟩
    exact h2 s' k1 b1 (cNo_tr n1 false).1 (cNo_tr n1 false).2 st
/-- pass(x), where the reference needs a -/
theorem X_pass (ht : tOk tx n) {s : cm_S} {e : Int} {t : tTk} {cn sc : Int} {W : List (Int × Int)} (h : cSt tx n s e false t cn sc W) {lo x a d rn : Int} {lf : Bool} {V : List tT} {K : List rTs} {S : List rSg} (hx : (t.2.1 = x) = (rNo t = a)) (hK : (K.length : Int) ≤ 880) (hb : lxG tx n false t.2.2.2.1 = none → rBd tx n (t.2.2.2.1, d, rn, sc, lf, V, K, S)) {f : cm_S → Option cm_R} {Q : Option cm_V → cm_S → rC → Prop} (h2 : ∀ t' s', t.2.1 = x → lxG tx n false t.2.2.2.1 = some t' → s'.2 = s.2 → s'.1 1406 = s.1 1406 → cSt tx n s' t.2.2.2.1 false t' cn sc W → OX tx n s' lo (f s') (t.2.2.2.1, d, rn, sc, lf, V, K, S) Q) : OX tx n s lo (cm_bv (cm_sem 60 [.inr (.inl 14), .inl x] s) f) (e, d, rn, sc, lf, V, (5, a, 0, 0, 0) :: K, S) Q := by
  refine OX_bv (lo1 := lo) (Q1 := fun s' c' => t.2.1 = x ∧ c' = (t.2.2.2.1, d, rn, sc, lf, V, K, S) ∧ s'.2 = s.2 ∧ s'.1 1406 = s.1 1406 ∧ ∃ t', lxG tx n false t.2.2.2.1 = some t' ∧ cSt tx n s' t.2.2.2.1 false t' cn sc W) ?_ (Int.le_refl _) ?_
  · rw [cS_60, cF_60_0, cS_55, cF_55_0, h.cd]
    by_cases hc : t.2.1 = x
    · rw [if_pos hc, cm_bv_o]
      have hc' := hc
      rw [hx] at hc'
      exact OX_to (t_5 ht h.lx hc' hK) (X_next ht h hb fun t' s' hT e2 b2 st2 => OX_retv ⟨rfl, hc, rfl, e2, b2, t', hT, st2⟩)
    · rw [if_neg hc]
      rw [hx] at hc
      refine OX_bv (lo1 := lo) (Q1 := fun _ _ => False) ?_ (Int.le_refl _) (fun _ _ _ _ z => z.elim)
      exact X_refuse (b_5 ht h.lx hc hK)
  · rintro s' c' - - ⟨hc, rfl, e2, b2, t', hT, st⟩
    exact h2 t' s' hc hT e2 b2 st
end TX40
