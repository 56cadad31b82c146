/-! ===== behind(), orderInto(): the tree in its order ===== -/
/-- the next node that is no part of v is w; j steps up -/
def Bh (s : cm_S) : Nat → Int → Int → Prop
  | 0, v, w => v = -1 ∧ w = -1 ∨ 0 ≤ v ∧ v < s.1 410 ∧ 0 ≤ s.2 11 v ∧ s.2 11 v < s.1 410 ∧ w = s.2 11 v
  | j + 1, v, w => 0 ≤ v ∧ v < s.1 410 ∧ s.2 11 v = -1 ∧ Bh s j (s.2 12 v) w
theorem Bh_fr {s s' : cm_S} (h1 : s'.2 11 = s.2 11) (h2 : s'.2 12 = s.2 12) (h3 : s'.1 410 = s.1 410) : ∀ (j : Nat) (v w : Int), Bh s j v w → Bh s' j v w := by
  intro j
  induction j with
  | zero =>
    intro v w h
    unfold Bh at h ⊢
    rw [h1, h3]
    exact h
  | succ j ih =>
    intro v w h
    unfold Bh at h ⊢
    rw [h1, h2, h3]
    exact ⟨h.1, h.2.1, h.2.2.1, ih _ _ h.2.2.2⟩
theorem cs_59b {s : cm_S} (h9 : s.1 410 ≤ 512) (v : Int) : cm_sem 59 [.inr (.inl 4), .inl v] s = some (.inl (some (.inl (cm_b (0 ≤ v ∧ v < s.1 410)))), s) := by
  rw [cS_59, cF_59_0]
  unfold cm_b
  repeat' split
  all_goals first | rfl | (exfalso; omega)
theorem cl_114 {s : cm_S} (h9 : s.1 410 ≤ 512) : ∀ (j : Nat) (v w i : Int) (o1 : Option cm_V), Bh s j v w → 0 ≤ i → i + j < 512 → cm_lp cm_sem cm_k114 5 [some (.inr (.inl 4)), o1, some (.inl v), some (.inl i)] [] s = some (.inl (some (.inl w)), s) := by
  intro j
  induction j with
  | zero =>
    intro v w i o1 h h0 hi
    unfold Bh at h
    rw [cE_114_5, cF_114_5, if_pos (by omega), cs_59b h9, cm_bi_i]
    simp only [cm_b0]
    rcases h with ⟨rfl, rfl⟩ | ⟨a1, a2, a3, a4, rfl⟩
    · rw [if_pos (by omega), cs_59b h9, cm_bi_i]
      simp only [cm_b0]
      rw [if_pos (by omega)]
    · rw [if_neg (by omega), if_pos (by omega), cs_59b h9, cm_bi_i]
      simp only [cm_b0]
      rw [if_neg (by omega), cs_59b h9, cm_bi_i]
      simp only [cm_b0]
      rw [if_neg (by omega), if_pos (by omega)]
  | succ j ih =>
    intro v w i o1 h h0 hi
    unfold Bh at h
    obtain ⟨a1, a2, a3, a4⟩ := h
    rw [cE_114_5, cF_114_5, if_pos (by omega), cs_59b h9, cm_bi_i]
    simp only [cm_b0]
    rw [if_neg (by omega), if_pos (by omega), a3, cs_59b h9, cm_bi_i]
    simp only [cm_b0]
    rw [if_pos (by omega), if_pos (by omega), cm_w_id (by omega) (by omega)]
    exact ih _ _ _ _ a4 (by omega) (by omega)
theorem cs_114 {s : cm_S} (h9 : s.1 410 ≤ 512) {j : Nat} {v w : Int} (h : Bh s j v w) (hj : (j : Int) < 512) : cm_sem 114 [.inr (.inl 4), .inl v] s = some (.inl (some (.inl w)), s) := by
  rw [cS_114, cF_114_0]
  exact cl_114 h9 j v w 0 _ h (by omega) (by omega)
/-- a forest in the ordered tree: from k on, its roots' parent p, the first one's rank r -/
def cFl (s : cm_S) (t : Nat) : Int → Int → Int → tF → Prop
  | _, _, _, .leaf => True
  | p, r, k, .inner _ l _ ch rest => s.2 (t + 1) k = l.1 ∧ s.2 (t + 2) k = lbP l ∧ s.2 (t + 3) k = lbN l ∧ s.2 (t + 4) k = lbC l ∧ s.2 (t + 5) k = p ∧ s.2 (t + 6) k = r ∧ s.2 (t + 7) k = fLn ch ∧ cFl s t k 0 (k + 1) ch ∧ cFl s t p (r + 1) (k + 1 + fSz ch) rest
theorem cFl_fr {s s' : cm_S} {t : Nat} : ∀ (f : tF) (p r k : Int), (∀ (a : Nat) (i : Int), t + 1 ≤ a → a ≤ t + 7 → k ≤ i → i < k + fSz f → s'.2 a i = s.2 a i) → cFl s t p r k f → cFl s' t p r k f := by
  intro f
  induction f with
  | leaf => intro p r k _ _; trivial
  | inner x l u ch rest i1 i2 =>
    intro p r k hf h
    have e : fSz (.inner x l u ch rest) = 1 + fSz ch + fSz rest := rfl
    have c0 := fSz_0 ch
    have r0 := fSz_0 rest
    obtain ⟨a1, a2, a3, a4, a5, a6, a7, a8, a9⟩ := h
    have g : ∀ a : Nat, t + 1 ≤ a → a ≤ t + 7 → s'.2 a k = s.2 a k := fun a b1 b2 => hf a k b1 b2 (by omega) (by omega)
    exact ⟨(g _ (by omega) (by omega)).trans a1, (g _ (by omega) (by omega)).trans a2, (g _ (by omega) (by omega)).trans a3, (g _ (by omega) (by omega)).trans a4, (g _ (by omega) (by omega)).trans a5, (g _ (by omega) (by omega)).trans a6, (g _ (by omega) (by omega)).trans a7, i1 _ _ _ (fun a i b1 b2 b3 b4 => hf a i b1 b2 (by omega) (by omega)) a8, i2 _ _ _ (fun a i b1 b2 b3 b4 => hf a i b1 b2 (by omega) (by omega)) a9⟩
/-- what a walk over part of the draft changes -/
def oF (t : Nat) (s s' : cm_S) (lo hi k0 p : Int) : Prop := (∀ j : Nat, j ≠ 100 * t + 8 → s'.1 j = s.1 j) ∧ (∀ a : Nat, a ≠ 13 → ¬ (t + 1 ≤ a ∧ a ≤ t + 8) → s'.2 a = s.2 a) ∧ (∀ i, ¬ (lo ≤ i ∧ i < hi) → s'.2 13 i = s.2 13 i) ∧ ∀ (a : Nat) (i : Int), t + 1 ≤ a → a ≤ t + 7 → i < k0 → (a = t + 7 → i ≠ p) → s'.2 a i = s.2 a i
noncomputable def oL (t : Nat) (o2 : Option cm_V) (v i : Int) (o5 : Option cm_V) (s : cm_S) : Option cm_R := cm_lp cm_sem cm_k111 7 [some (.inr (.inl 4)), some (.inr (.inl t)), o2, some (.inl v), some (.inl i), o5] [] s
theorem oF.tr {t : Nat} {s s' s'' : cm_S} {lo hi k0 p lo' hi' k1 : Int} (h : oF t s s' lo hi k0 p) (h' : oF t s' s'' lo' hi' k1 p) {l u : Int} (h1 : l ≤ lo) (h2 : hi ≤ u) (h3 : l ≤ lo') (h4 : hi' ≤ u) (h5 : k0 ≤ k1) : oF t s s'' l u k0 p := ⟨fun j hj => (h'.1 j hj).trans (h.1 j hj), fun a ha hb => (h'.2.1 a ha hb).trans (h.2.1 a ha hb), fun i hi => (h'.2.2.1 i (by omega)).trans (h.2.2.1 i (by omega)), fun a i b1 b2 b3 b4 => (h'.2.2.2 a i b1 b2 (by omega) b4).trans (h.2.2.2 a i b1 b2 b3 b4)⟩
/-- one node: put, its number kept -/
theorem o_one {t : Nat} (h : isTr t) {s : cm_S} {v k0 p vp r : Int} (h9 : s.1 410 ≤ 512) (hv : 0 ≤ v ∧ v < s.1 410) (hk : s.1 (100 * t + 8) = k0) (h0 : 0 ≤ k0) (h5 : k0 < 512) (hu : s.2 12 v = vp) (hp : vp = -1 ∧ p = -1 ∧ r = 0 ∨ 0 ≤ vp ∧ vp < s.1 410 ∧ s.2 13 vp = p ∧ 0 ≤ p ∧ p < k0 ∧ s.2 (t + 7) p = r ∧ 0 ≤ r ∧ r ≤ 512) (o2 o5 : Option cm_V) :
    ∃ (s' : cm_S) (o5' : Option cm_V), oF t s s' v (v + 1) k0 p ∧ s'.1 (100 * t + 8) = k0 + 1 ∧ (0 ≤ p → s'.2 (t + 7) p = r + 1) ∧ s'.2 13 v = k0 ∧ s'.2 (t + 1) k0 = s.2 5 v ∧ s'.2 (t + 2) k0 = s.2 6 v ∧ s'.2 (t + 3) k0 = s.2 7 v ∧ s'.2 (t + 4) k0 = s.2 8 v ∧ s'.2 (t + 5) k0 = p ∧ s'.2 (t + 6) k0 = r ∧ s'.2 (t + 7) k0 = 0 ∧
    (∀ (j : Nat) (w : Int), s.2 9 v = -1 → Bh s j v w → (j : Int) < 512 → oL t o2 v k0 o5 s = oL t o2 w (k0 + 1) o5' s') ∧ (0 ≤ s.2 9 v → s.2 9 v < s.1 410 → oL t o2 v k0 o5 s = oL t o2 (s.2 9 v) (k0 + 1) o5' s') := by
  have t13 : ¬ (t + 1 ≤ 13 ∧ 13 ≤ t + 8) := by rcases h with rfl | rfl <;> omega
  have t410 : (410 : Nat) ≠ 100 * t + 8 := by omega
  have t11 : ∀ a : Nat, a ≤ 12 → ¬ (t + 1 ≤ a ∧ a ≤ t + 8) := by intro a; rcases h with rfl | rfl <;> omega
  have hp5 : p < s.1 (100 * t + 8) := by omega
  refine ⟨cm_q (tPu s t (s.2 5 v) (s.2 6 v) (s.2 7 v) (s.2 8 v) p) 13 v k0, some (.inl p), ⟨fun j hj => tPu_fld hj, fun a ha hb => by rw [cm_q_ne ha, tPu_row hb], fun i hi => by rw [cm_q_old (by omega), tPu_row t13], fun a i b1 b2 b3 b4 => by rw [cm_q_ne (by omega), tPu_old (by omega) b4]⟩, tPu_size.trans (by rw [hk]), ?_, by rw [cm_q_at, if_pos rfl], ?_⟩
  · intro hp0
    rw [cm_q_ne (by omega), tPu_cnt ⟨hp0, hp5⟩]
    omega
  · have nw := tPu_new (x1 := s.2 5 v) (x2 := s.2 6 v) (x3 := s.2 7 v) (x4 := s.2 8 v) hp5
    rw [hk] at nw
    obtain ⟨n1, n2, n3, n4, n5, n6, n7⟩ := nw
    refine ⟨by rw [cm_q_ne (by omega)]; exact n1, by rw [cm_q_ne (by omega)]; exact n2, by rw [cm_q_ne (by omega)]; exact n3, by rw [cm_q_ne (by omega)]; exact n4, by rw [cm_q_ne (by omega)]; exact n5, ?_, by rw [cm_q_ne (by omega)]; exact n7, ?_⟩
    · rw [cm_q_ne (by omega), n6]
      split <;> omega
    · have e410 : (cm_q (tPu s t (s.2 5 v) (s.2 6 v) (s.2 7 v) (s.2 8 v) p) 13 v k0).1 410 = s.1 410 := tPu_fld t410
      have e9 : (cm_q (tPu s t (s.2 5 v) (s.2 6 v) (s.2 7 v) (s.2 8 v) p) 13 v k0).2 9 = s.2 9 := by rw [cm_q_ne (by omega), tPu_row (t11 9 (by omega))]
      have e9' : (tPu s t (s.2 5 v) (s.2 6 v) (s.2 7 v) (s.2 8 v) p).2 9 = s.2 9 := tPu_row (t11 9 (by omega))
      have e11 : (cm_q (tPu s t (s.2 5 v) (s.2 6 v) (s.2 7 v) (s.2 8 v) p) 13 v k0).2 11 = s.2 11 := by rw [cm_q_ne (by omega), tPu_row (t11 11 (by omega))]
      have e12 : (cm_q (tPu s t (s.2 5 v) (s.2 6 v) (s.2 7 v) (s.2 8 v) p) 13 v k0).2 12 = s.2 12 := by rw [cm_q_ne (by omega), tPu_row (t11 12 (by omega))]
      have pt := cs_113 h (s := s) (x1 := s.2 5 v) (x2 := s.2 6 v) (x3 := s.2 7 v) (x4 := s.2 8 v) (x5 := p) (by omega) (by omega) (fun _ _ => by omega)
      rw [hk] at pt
      have v5 : (0 : Int) ≤ v ∧ v < 512 := by omega
      have step : oL t o2 v k0 o5 s = cm_bi (cm_sem 59 [.inr (.inl 4), .inl (s.2 9 v)] (cm_q (tPu s t (s.2 5 v) (s.2 6 v) (s.2 7 v) (s.2 8 v) p) 13 v k0)) fun z4 s4 => if z4 = 0 then cm_bi (cm_sem 114 [.inr (.inl 4), .inl v] s4) fun z5 s5 => cm_lp cm_sem cm_k111 7 [some (.inr (.inl 4)), some (.inr (.inl t)), o2, some (.inl z5), some (.inl (cm_w (k0 + 1))), some (.inl p)] [] s5 else cm_lp cm_sem cm_k111 7 [some (.inr (.inl 4)), some (.inr (.inl t)), o2, some (.inl (s4.2 9 v)), some (.inl (cm_w (k0 + 1))), some (.inl p)] [] s4 := by
        unfold oL
        rw [cE_111_7, cF_111_7, if_pos h5, cs_59b h9, cm_bi_i]
        simp only [cm_b0]
        rw [if_neg (by omega), if_pos v5, hu, cs_59b h9, cm_bi_i]
        simp only [cm_b0]
        rcases hp with ⟨rfl, rfl, rfl⟩ | ⟨b1, b2, b3, b4, b5, b6, b7, b8⟩
        · rw [if_pos (by omega)]
          simp only [if_pos v5, (tr_f h).1, if_true]
          rw [pt, cm_bi_i, e9']
        · rw [if_neg (by omega), if_pos v5, if_pos (by omega)]
          simp only [if_pos v5, (tr_f h).1, if_true]
          rw [hu, b3, pt, cm_bi_i, e9']
      rw [step, cs_59b (by rw [e410]; exact h9), cm_bi_i, e410]
      simp only [cm_b0]
      rw [cm_w_id (by omega) (by omega)]
      refine ⟨fun j w a1 a2 a3 => ?_, fun a1 a2 => ?_⟩
      · rw [if_pos (by omega), cs_114 (by rw [e410]; exact h9) (Bh_fr e11 e12 e410 j v w a2) a3, cm_bi_i]
        rfl
      · rw [if_neg (by omega), e9]
        rfl
