/-! ===== the reference's state: tasks, values, signs ===== -/
abbrev rTs : Type := Int × Int × Int × Int × Int
abbrev rSg : Type := Int × Int × Int
/-- place, depth, nodes, semicolons, left, values (the last one first), tasks, signs -/
abbrev rC : Type := Int × Int × Int × Int × Bool × List tT × List rTs × List rSg
def rSkA (s : cm_S) : List rTs → Prop
  | [] => True
  | T :: K => s.2 56 K.length = T.1 ∧ s.2 57 K.length = T.2.1 ∧ s.2 58 K.length = T.2.2.1 ∧ s.2 59 K.length = T.2.2.2.1 ∧ s.2 60 K.length = T.2.2.2.2 ∧ rSkA s K
def rSgA (s : cm_S) : List rSg → Prop
  | [] => True
  | T :: K => s.2 62 K.length = T.1 ∧ s.2 63 K.length = T.2.1 ∧ s.2 64 K.length = T.2.2 ∧ rSgA s K
/-- what the reference keeps of a label -/
def rLb (s : cm_S) (v : Int) (l : tLb) : Prop := s.2 47 v = l.1 ∧ s.2 48 v = lbP l ∧ s.2 49 v = lbN l ∧ s.2 54 v = cm_n (lbW l)
/-- a forest whose nodes are those from lo up to hi, its first root being v, the roots' parent p -/
def rFo (s : cm_S) : Int → Int → Int → Int → tF → Prop
  | _, lo, hi, v, .leaf => v = -1 ∧ lo = hi
  | p, lo, hi, v, .inner _ l _ ch r => ∃ m, lo < m ∧ m ≤ hi ∧ v = m - 1 ∧ rLb s v l ∧ s.2 53 v = fLn ch ∧ s.2 52 v = p ∧ rFo s v lo (m - 1) (s.2 50 v) ch ∧ rFo s p m hi (s.2 51 v) r
def rTr (s : cm_S) (lo hi v : Int) (t : tT) : Prop := lo < hi ∧ v = hi - 1 ∧ rLb s v t.1 ∧ s.2 53 v = fLn t.2 ∧ rFo s v lo (hi - 1) (s.2 50 v) t.2
def rVaA (s : cm_S) : Int → List tT → Prop
  | hi, [] => 0 ≤ hi
  | hi, t :: V => ∃ lo, rTr s lo hi (s.2 61 V.length) t ∧ rVaA s lo V
def rQ (c : Int × Int × Int × Bool × List tT × List rTs × List rSg) (s : cm_S) : Prop := s.1 4140 = c.1 ∧ s.1 4118 = c.2.1 ∧ s.1 4110 = c.2.2.1 ∧ s.1 4141 = cm_n c.2.2.2.1 ∧ s.1 4128 = (c.2.2.2.2.2.1).length ∧ rSkA s c.2.2.2.2.2.1 ∧ s.1 4134 = (c.2.2.2.2.1).length ∧ rVaA s c.2.1 c.2.2.2.2.1 ∧ s.1 4136 = (c.2.2.2.2.2.2).length ∧ rSgA s c.2.2.2.2.2.2
def rR (tx : Int → Int) (n : Int) (c : rC) (s : cm_S) : Prop := rAt tx n s c.1 ∧ rQ c.2 s
/-- all stays but what a reading uses -/
def rFm (s s' : cm_S) : Prop := (∀ a : Nat, ¬ (47 ≤ a ∧ a ≤ 64) → s'.2 a = s.2 a) ∧ ∀ j : Nat, ¬ (4108 ≤ j ∧ j ≤ 4141) → s'.1 j = s.1 j
theorem rFm_rf (s : cm_S) : rFm s s := ⟨fun _ _ => rfl, fun _ _ => rfl⟩
theorem rFm.tr {s s' s'' : cm_S} (h : rFm s s') (h' : rFm s' s'') : rFm s s'' := ⟨fun a ha => (h'.1 a ha).trans (h.1 a ha), fun j hj => (h'.2 j hj).trans (h.2 j hj)⟩
theorem rFr.fm {s s' : cm_S} (h : rFr s s') : rFm s s' := ⟨fun a _ => by rw [h.1], fun j hj => h.2 j (by unfold rSlt; omega)⟩
theorem rFm_p {s s' : cm_S} (h : rFm s s') {k : Nat} (hk : 4108 ≤ k ∧ k ≤ 4141) {z : Int} : rFm s (cm_p s' k z) := ⟨h.1, fun j hj => by rw [cm_p_ne (by rintro rfl; exact hj hk)]; exact h.2 j hj⟩
theorem rFm_q {s s' : cm_S} (h : rFm s s') {a : Nat} (hk : 47 ≤ a ∧ a ≤ 64) {i z : Int} : rFm s (cm_q s' a i z) := ⟨fun b hb => by rw [cm_q_ne (by rintro rfl; exact hb hk)]; exact h.1 b hb, h.2⟩
/-! frames -/
theorem rSkA_fr {s s' : cm_S} : ∀ (K : List rTs), (∀ (a : Nat) (i : Int), 56 ≤ a → a ≤ 60 → i < K.length → s'.2 a i = s.2 a i) → rSkA s K → rSkA s' K
  | [], _, _ => trivial
  | T :: K, h, ⟨h1, h2, h3, h4, h5, h6⟩ => by
    have hl : ((K.length : Nat) : Int) < ((T :: K).length : Nat) := by rw [List.length_cons]; omega
    exact ⟨(h 56 _ (by omega) (by omega) hl).trans h1, (h 57 _ (by omega) (by omega) hl).trans h2, (h 58 _ (by omega) (by omega) hl).trans h3, (h 59 _ (by omega) (by omega) hl).trans h4, (h 60 _ (by omega) (by omega) hl).trans h5, rSkA_fr K (fun a i g1 g2 g3 => h a i g1 g2 (by omega)) h6⟩
theorem rSgA_fr {s s' : cm_S} : ∀ (K : List rSg), (∀ (a : Nat) (i : Int), 62 ≤ a → a ≤ 64 → i < K.length → s'.2 a i = s.2 a i) → rSgA s K → rSgA s' K
  | [], _, _ => trivial
  | T :: K, h, ⟨h1, h2, h3, h6⟩ => by
    have hl : ((K.length : Nat) : Int) < ((T :: K).length : Nat) := by rw [List.length_cons]; omega
    exact ⟨(h 62 _ (by omega) (by omega) hl).trans h1, (h 63 _ (by omega) (by omega) hl).trans h2, (h 64 _ (by omega) (by omega) hl).trans h3, rSgA_fr K (fun a i g1 g2 g3 => h a i g1 g2 (by omega)) h6⟩
theorem rLb_fr {s s' : cm_S} {v : Int} {l : tLb} (h : ∀ a : Nat, 47 ≤ a → a ≤ 54 → a ≠ 51 → a ≠ 52 → s'.2 a v = s.2 a v) (hl : rLb s v l) : rLb s' v l := ⟨(h 47 (by omega) (by omega) (by omega) (by omega)).trans hl.1, (h 48 (by omega) (by omega) (by omega) (by omega)).trans hl.2.1, (h 49 (by omega) (by omega) (by omega) (by omega)).trans hl.2.2.1, (h 54 (by omega) (by omega) (by omega) (by omega)).trans hl.2.2.2⟩
theorem rFo_fr {s s' : cm_S} : ∀ (f : tF) (p lo hi v : Int), (∀ (a : Nat) (i : Int), 47 ≤ a → a ≤ 54 → lo ≤ i → i < hi → s'.2 a i = s.2 a i) → rFo s p lo hi v f → rFo s' p lo hi v f := by
  intro f
  induction f with
  | leaf => intro p lo hi v _ h; exact h
  | inner x l u ch r i1 i2 =>
    intro p lo hi v hf h
    obtain ⟨m, h1, h2, h3, h4, h5, h6, h7, h8⟩ := h
    have g : ∀ a : Nat, 47 ≤ a → a ≤ 54 → s'.2 a v = s.2 a v := fun a a1 a2 => hf a v a1 a2 (by omega) (by omega)
    refine ⟨m, h1, h2, h3, rLb_fr (fun a a1 a2 _ _ => g a a1 a2) h4, (g 53 (by omega) (by omega)).trans h5, (g 52 (by omega) (by omega)).trans h6, ?_, ?_⟩
    · rw [g 50 (by omega) (by omega)]
      exact i1 _ _ _ _ (fun a i a1 a2 a3 a4 => hf a i a1 a2 a3 (by omega)) h7
    · rw [g 51 (by omega) (by omega)]
      exact i2 _ _ _ _ (fun a i a1 a2 a3 a4 => hf a i a1 a2 (by omega) a4) h8
theorem rTr_fr {s s' : cm_S} {lo hi v : Int} {t : tT} (hf : ∀ (a : Nat) (i : Int), 47 ≤ a → a ≤ 54 → lo ≤ i → i < hi → (i = v → a ≠ 51 ∧ a ≠ 52) → s'.2 a i = s.2 a i) (h : rTr s lo hi v t) : rTr s' lo hi v t := by
  obtain ⟨h1, h2, h3, h4, h5⟩ := h
  have g : ∀ a : Nat, 47 ≤ a → a ≤ 54 → a ≠ 51 → a ≠ 52 → s'.2 a v = s.2 a v := fun a a1 a2 a3 a4 => hf a v a1 a2 (by omega) (by omega) (fun _ => ⟨a3, a4⟩)
  refine ⟨h1, h2, rLb_fr g h3, (g 53 (by omega) (by omega) (by omega) (by omega)).trans h4, ?_⟩
  rw [g 50 (by omega) (by omega) (by omega) (by omega)]
  exact rFo_fr _ _ _ _ _ (fun a i a1 a2 a3 a4 => hf a i a1 a2 a3 (by omega) (fun z => by omega)) h5
theorem rVaA_fr {s s' : cm_S} : ∀ (V : List tT) (hi : Int), (∀ (a : Nat) (i : Int), 47 ≤ a → a ≤ 54 → i < hi → s'.2 a i = s.2 a i) → (∀ i : Int, i < V.length → s'.2 61 i = s.2 61 i) → rVaA s hi V → rVaA s' hi V
  | [], _, _, _, h => h
  | t :: V, hi, hf, hv, ⟨lo, h1, h2⟩ => by
    have hl : ((V.length : Nat) : Int) < ((t :: V).length : Nat) := by rw [List.length_cons]; omega
    refine ⟨lo, ?_, rVaA_fr V lo (fun a i a1 a2 a3 => hf a i a1 a2 (by have := h1.1; omega)) (fun i hi => hv i (by omega)) h2⟩
    rw [hv _ hl]
    exact rTr_fr (fun a i a1 a2 a3 a4 _ => hf a i a1 a2 a4) h1
theorem rVaA_b {s : cm_S} : ∀ (V : List tT) (hi : Int), rVaA s hi V → (V.length : Int) ≤ hi
  | [], hi, h => by
    have : (0 : Int) ≤ hi := h
    simpa using this
  | t :: V, hi, ⟨lo, h1, h2⟩ => by
    have := rVaA_b V lo h2
    have := h1.1
    rw [List.length_cons]
    omega
theorem rQ_fr {s s' : cm_S} {c : Int × Int × Int × Bool × List tT × List rTs × List rSg} (h : rQ c s) (hf : rFr s s') : rQ c s' := by
  obtain ⟨h1, h2, h3, h4, h5, h6, h7, h8, h9, h10⟩ := h
  refine ⟨(hf.2 4140 (by unfold rSlt; omega)).trans h1, (hf.2 4118 (by unfold rSlt; omega)).trans h2, (hf.2 4110 (by unfold rSlt; omega)).trans h3, (hf.2 4141 (by unfold rSlt; omega)).trans h4, (hf.2 4128 (by unfold rSlt; omega)).trans h5, ?_, (hf.2 4134 (by unfold rSlt; omega)).trans h7, ?_, (hf.2 4136 (by unfold rSlt; omega)).trans h9, ?_⟩
  · exact rSkA_fr _ (fun a i _ _ _ => by rw [hf.1]) h6
  · exact rVaA_fr _ _ (fun a i _ _ _ => by rw [hf.1]) (fun i _ => by rw [hf.1]) h8
  · exact rSgA_fr _ (fun a i _ _ _ => by rw [hf.1]) h10
theorem rQ_p {s : cm_S} {c : Int × Int × Int × Bool × List tT × List rTs × List rSg} (h : rQ c s) {k : Nat} (hk : k ≠ 4140 ∧ k ≠ 4118 ∧ k ≠ 4110 ∧ k ≠ 4141 ∧ k ≠ 4128 ∧ k ≠ 4134 ∧ k ≠ 4136) {z : Int} : rQ c (cm_p s k z) := by
  obtain ⟨h1, h2, h3, h4, h5, h6, h7, h8, h9, h10⟩ := h
  refine ⟨by rw [cm_p_ne (by omega)]; exact h1, by rw [cm_p_ne (by omega)]; exact h2, by rw [cm_p_ne (by omega)]; exact h3, by rw [cm_p_ne (by omega)]; exact h4, by rw [cm_p_ne (by omega)]; exact h5, ?_, by rw [cm_p_ne (by omega)]; exact h7, ?_, by rw [cm_p_ne (by omega)]; exact h9, ?_⟩
  · exact rSkA_fr (s := s) _ (fun a i _ _ _ => rfl) h6
  · exact rVaA_fr (s := s) _ _ (fun a i _ _ _ => rfl) (fun i _ => rfl) h8
  · exact rSgA_fr (s := s) _ (fun a i _ _ _ => rfl) h10
/-! push, pop -/
def rPu (s : cm_S) (T : rTs) : cm_S := cm_p (cm_q (cm_q (cm_q (cm_q (cm_q s 56 (s.1 4128) T.1) 57 (s.1 4128) T.2.1) 58 (s.1 4128) T.2.2.1) 59 (s.1 4128) T.2.2.2.1) 60 (s.1 4128) T.2.2.2.2) 4128 (s.1 4128 + 1)
theorem cs_176 {s : cm_S} (h : 0 ≤ s.1 4128 ∧ s.1 4128 < 900) (a b c d e : Int) : cm_sem 176 [.inr (.inl 41), .inl a, .inl b, .inl c, .inl d, .inl e] s = some (.inl none, rPu s (a, b, c, d, e)) := by
  rw [cS_176, cF_176_0]
  simp only [if_pos h, cm_w_id (show -2147483648 ≤ s.1 4128 + 1 by omega) (by omega)]
  rfl
theorem cs_177 {s : cm_S} (h : 0 ≤ s.1 4128 ∧ s.1 4128 < 900) (a b : Int) : cm_sem 177 [.inr (.inl 41), .inl a, .inl b] s = some (.inl none, rPu s (a, b, 0, 0, 0)) := by
  rw [cS_177, cF_177_0, cs_176 h, cm_bv_o]
theorem rPu_fld {s : cm_S} {T : rTs} {j : Nat} (h : j ≠ 4128) : (rPu s T).1 j = s.1 j := by
  unfold rPu
  rw [cm_p_ne h]
  rfl
theorem rPu_hi {s : cm_S} {T : rTs} : (rPu s T).1 4128 = s.1 4128 + 1 := cm_p_at
theorem rPu_row {s : cm_S} {T : rTs} {a : Nat} (h : ¬ (56 ≤ a ∧ a ≤ 60)) : (rPu s T).2 a = s.2 a := by
  unfold rPu
  rw [cm_p_row, cm_q_ne (by omega), cm_q_ne (by omega), cm_q_ne (by omega), cm_q_ne (by omega), cm_q_ne (by omega)]
theorem rPu_old {s : cm_S} {T : rTs} {a : Nat} {i : Int} (h : i ≠ s.1 4128) : (rPu s T).2 a i = s.2 a i := by
  unfold rPu
  rw [cm_p_row, cm_q_old h, cm_q_old h, cm_q_old h, cm_q_old h, cm_q_old h]
theorem rPu_fm (s : cm_S) (T : rTs) : rFm s (rPu s T) := by
  unfold rPu
  exact rFm_p (rFm_q (rFm_q (rFm_q (rFm_q (rFm_q (rFm_rf s) (by omega)) (by omega)) (by omega)) (by omega)) (by omega)) (by omega)
theorem rQ_pu {s : cm_S} {d rn pu : Int} {lf : Bool} {V : List tT} {K : List rTs} {S : List rSg} (h : rQ (d, rn, pu, lf, V, K, S) s) (T : rTs) : rQ (d, rn, pu, lf, V, T :: K, S) (rPu s T) := by
  obtain ⟨h1, h2, h3, h4, h5, h6, h7, h8, h9, h10⟩ := h
  simp only at h1 h2 h3 h4 h5 h6 h7 h8 h9 h10
  have e : ∀ (a : Nat) (z : Int), (56 = a → z = T.1) → (57 = a → z = T.2.1) → True := fun _ _ _ _ => trivial
  refine ⟨(rPu_fld (by omega)).trans h1, (rPu_fld (by omega)).trans h2, (rPu_fld (by omega)).trans h3, (rPu_fld (by omega)).trans h4, ?_, ⟨?_, ?_, ?_, ?_, ?_, ?_⟩, (rPu_fld (by omega)).trans h7, ?_, (rPu_fld (by omega)).trans h9, ?_⟩
  · rw [rPu_hi, h5]
    show _ = (((T :: K).length : Nat) : Int)
    rw [List.length_cons]
    omega
  · show (rPu s T).2 56 K.length = T.1
    simp [rPu, cm_p, cm_q, h5]
  · show (rPu s T).2 57 K.length = T.2.1
    simp [rPu, cm_p, cm_q, h5]
  · show (rPu s T).2 58 K.length = T.2.2.1
    simp [rPu, cm_p, cm_q, h5]
  · show (rPu s T).2 59 K.length = T.2.2.2.1
    simp [rPu, cm_p, cm_q, h5]
  · show (rPu s T).2 60 K.length = T.2.2.2.2
    simp [rPu, cm_p, cm_q, h5]
  · exact rSkA_fr K (fun a i _ _ hi => rPu_old (by omega)) h6
  · exact rVaA_fr V rn (fun a i a1 a2 _ => by rw [rPu_row (by omega)]) (fun i _ => by rw [rPu_row (by omega)]) h8
  · exact rSgA_fr S (fun a i a1 a2 _ => by rw [rPu_row (by omega)]) h10
theorem rQ_po {s : cm_S} {d rn pu : Int} {lf : Bool} {V : List tT} {T : rTs} {K : List rTs} {S : List rSg} (h : rQ (d, rn, pu, lf, V, T :: K, S) s) : rQ (d, rn, pu, lf, V, K, S) (cm_p s 4128 K.length) := by
  obtain ⟨h1, h2, h3, h4, h5, h6, h7, h8, h9, h10⟩ := h
  exact ⟨(cm_p_ne (by decide)).trans h1, (cm_p_ne (by decide)).trans h2, (cm_p_ne (by decide)).trans h3, (cm_p_ne (by decide)).trans h4, cm_p_at, rSkA_fr (s := s) K (fun a i _ _ _ => rfl) h6.2.2.2.2.2, (cm_p_ne (by decide)).trans h7, rVaA_fr (s := s) V rn (fun a i _ _ _ => rfl) (fun i _ => rfl) h8, (cm_p_ne (by decide)).trans h9, rSgA_fr (s := s) S (fun a i _ _ _ => rfl) h10⟩
/-- where the reference stands depends on the text and the scanner's numbers alone -/
theorem rAt_fr {tx : Int → Int} {n : Int} {s s' : cm_S} {e : Int} (h : rAt tx n s e) (h1 : s'.2 46 = s.2 46) (h2 : ∀ j : Nat, 4107 ≤ j → j ≤ 4117 → j ≠ 4110 → s'.1 j = s.1 j) : rAt tx n s' e := by
  obtain ⟨⟨a1, a2⟩, a3, a4, a5, a6, a7⟩ := h
  refine ⟨⟨(h2 4107 (by omega) (by omega) (by omega)).trans a1, fun j j0 j1 => by rw [h1]; exact a2 j j0 j1⟩, a3, a4, (h2 4114 (by omega) (by omega) (by omega)).trans a5, (h2 4108 (by omega) (by omega) (by omega)).trans a6, ?_⟩
  rcases a7 with a7 | ⟨g, t, b1, b2, b3, b4⟩
  · exact Or.inl ((h2 4116 (by omega) (by omega) (by omega)).trans a7)
  · exact Or.inr ⟨g, t, (h2 4116 (by omega) (by omega) (by omega)).trans b1, (h2 4117 (by omega) (by omega) (by omega)).trans b2, b3, (h2 4111 (by omega) (by omega) (by omega)).trans b4.1, (h2 4112 (by omega) (by omega) (by omega)).trans b4.2.1, (h2 4113 (by omega) (by omega) (by omega)).trans b4.2.2.1, (h2 4115 (by omega) (by omega) (by omega)).trans b4.2.2.2⟩
theorem rTk_fr {s s' : cm_S} {t : tTk} (h : rTk s t) (h2 : ∀ j : Nat, 4111 ≤ j → j ≤ 4115 → j ≠ 4114 → s'.1 j = s.1 j) : rTk s' t := ⟨(h2 4111 (by omega) (by omega) (by omega)).trans h.1, (h2 4112 (by omega) (by omega) (by omega)).trans h.2.1, (h2 4113 (by omega) (by omega) (by omega)).trans h.2.2.1, (h2 4115 (by omega) (by omega) (by omega)).trans h.2.2.2⟩
