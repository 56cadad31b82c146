/-! ===== node(), many(), printed(), again() on both sides ===== -/
theorem FI_t {s r : cm_S} (h : FI s r) (v : Int) : FI s (cm_p r 4103 v) := by
  obtain ⟨⟨t, t', h6, h7, tt, hz, htr⟩, c0, c9, hth, hty, y0, y9, htp, hpr, p0, p9, hpt⟩ := h
  have e : ∀ j : Nat, j ≠ 4103 → (cm_p r 4103 v).1 j = r.1 j := fun j hj => cm_p_ne hj
  exact ⟨⟨t, t', h6, h7, tt, by rw [e 4143 (by decide)]; exact hz, fun i a b => htr i a (by rw [e 4143 (by decide)] at b; exact b)⟩, by rw [e 4143 (by decide)]; exact c0, by rw [e 4143 (by decide)]; exact c9, by rw [e 4142 (by decide), e 4143 (by decide)]; exact hth, by rw [e 4106 (by decide)]; exact hty, y0, y9, htp, by rw [e 4148 (by decide)]; exact hpr, p0, p9, hpt⟩
theorem both_node {s r : cm_S} (h : FI s r) (x y : Int) :
    (∃ z, cm_sem 169 [.inr (.inl 0), .inl x, .inl y] s = some (.inl (some (.inl z)), s) ∧ cm_sem 297 [.inr (.inl 41), .inl x, .inl y] r = some (.inl (some (.inl z)), cm_p r 4103 0)) ∨
    (cm_sem 169 [.inr (.inl 0), .inl x, .inl y] s = some (.inr 1, s) ∧ cm_sem 297 [.inr (.inl 41), .inl x, .inl y] r = some (.inl (some (.inl 0)), cm_p r 4103 1)) := by
  obtain ⟨⟨t, t', h6, h7, tt, hz, htr⟩, c0, c9, hth, hty, y0, y9, htp, hpr, p0, p9, hpt⟩ := h
  have it : isTr t := by unfold isTr; omega
  have e6 : (s.1 6).toNat = t := by rw [h6]; rfl
  have cl := (tr_f it).1
  have sz : s.1 (100 * t + 8) ≤ 512 := by omega
  rw [cS_169, cF_169_0, cS_297, cF_297_0]
  by_cases x0 : x < 0
  · rw [if_pos x0, if_pos x0]
    exact Or.inr ⟨rfl, rfl⟩
  rw [if_neg x0, if_neg x0, e6, if_pos cl, hz]
  by_cases x1 : x < r.1 4143
  · rw [if_pos x1, if_pos x1]
    simp only [if_pos cl]
    obtain ⟨g0, g1, g2, g3, g4, g5, g6⟩ := htr x (by omega) x1
    have w0 : cm_w (6 * x) = 6 * x := cm_w_id (by omega) (by omega)
    have tgv : ∀ (j : Nat) (d : Int), tg s t j d x = s.2 (t + j) x := fun j d => if_pos ⟨by omega, by omega⟩
    rw [cs_15 it sz, cs_120 it sz, cs_121 it sz, cs_124 it sz, cs_117 it sz, cs_123 it sz, tgv, tgv, tgv, tgv, tgv, tgv]
    by_cases k0 : y = 0
    · rw [if_pos k0, cm_bi_i, if_neg (by omega), if_neg (by omega), w0, cm_w_id (by omega) (by omega), if_pos (by omega), k0, Int.add_zero]
      exact Or.inl ⟨_, rfl, by rw [g0]⟩
    rw [if_neg k0]
    by_cases k1 : y = 1
    · rw [if_pos k1, cm_bi_i, if_neg (by omega), if_neg (by omega), w0, cm_w_id (by omega) (by omega), if_pos (by omega), k1]
      exact Or.inl ⟨_, rfl, by rw [g1]⟩
    rw [if_neg k1]
    by_cases k2 : y = 2
    · rw [if_pos k2, cm_bi_i, if_neg (by omega), if_neg (by omega), w0, cm_w_id (by omega) (by omega), if_pos (by omega), k2]
      exact Or.inl ⟨_, rfl, by rw [g2]⟩
    rw [if_neg k2]
    by_cases k3 : y = 3
    · rw [if_pos k3, cm_bi_i, if_neg (by omega), if_neg (by omega), w0, cm_w_id (by omega) (by omega), if_pos (by omega), k3]
      exact Or.inl ⟨_, rfl, by rw [g3]⟩
    rw [if_neg k3]
    by_cases k4 : y = 4
    · rw [if_pos k4, cm_bi_i, if_neg (by omega), if_neg (by omega), w0, cm_w_id (by omega) (by omega), if_pos (by omega), k4]
      exact Or.inl ⟨_, rfl, by rw [g4]⟩
    rw [if_neg k4]
    by_cases k5 : y = 5
    · rw [if_pos k5, cm_bi_i]
      have er : (if y < 0 then some (.inl (some (.inl 0)), (cm_p r 4103 1)) else if 5 < y then some (.inl (some (.inl 0)), (cm_p r 4103 1)) else if (0 : Int) ≤ (cm_w ((cm_w (6 * x)) + y)) ∧ (cm_w ((cm_w (6 * x)) + y)) < 3000 then some (.inl (some (.inl (r.2 67 (cm_w ((cm_w (6 * x)) + y))))), (cm_p r 4103 0)) else none : Option cm_R) = some (.inl (some (.inl (s.2 (t + 8) x))), cm_p r 4103 0) := by
        rw [if_neg (by omega), if_neg (by omega), w0, cm_w_id (by omega) (by omega), if_pos (by omega), k5, ← g5]
      rw [er]
      rcases g6 with q | q
      · rw [q]
        exact Or.inl ⟨0, rfl, rfl⟩
      · rw [q]
        exact Or.inl ⟨1, rfl, rfl⟩
    rw [if_neg k5]
    right
    refine ⟨rfl, ?_⟩
    by_cases y0 : y < 0
    · rw [if_pos y0]
    · rw [if_neg y0, if_pos (by omega)]
  · rw [if_neg x1, if_neg x1]
    exact Or.inr ⟨rfl, rfl⟩
theorem both_many {s r : cm_S} (h : FI s r) (x : Int) : ∃ z, cm_sem 14 [.inr (.inl 0), .inl x] s = some (.inl (some (.inl z)), s) ∧ cm_sem 298 [.inr (.inl 41), .inl x] r = some (.inl (some (.inl z)), cm_p r 4103 0) := by
  have h' := FI_t h 0
  obtain ⟨⟨t, t', h6, h7, tt, hz, htr⟩, c0, c9, hth, hty, y0, y9, htp, hpr, p0, p9, hpt⟩ := h
  have it : isTr t := by unfold isTr; omega
  have e6 : (s.1 6).toNat = t := by rw [h6]; rfl
  have cl := (tr_f it).1
  have sz : s.1 (100 * t + 8) ≤ 512 := by omega
  have f43 : (cm_p r 4103 0).1 4143 = r.1 4143 := cm_p_ne (by decide)
  have f67 : (cm_p r 4103 0).2 67 = r.2 67 := rfl
  rw [cS_14, cF_14_0, cS_298, cF_298_0]
  generalize cm_p r 4103 0 = r0 at f43 f67 ⊢
  have key : ∀ (k : Nat) (a b : Int), 0 ≤ b → b + k = r.1 4143 → 0 ≤ a → a ≤ b → ∃ z, cm_lp cm_sem cm_k14 5 [some (.inr (.inl 0)), some (.inl x), some (.inl a), some (.inl b)] [] s = some (.inl (some (.inl z)), s) ∧ cm_lp cm_sem cm_k298 8 [some (.inr (.inl 41)), some (.inl x), some (.inl a), some (.inl b)] [] r0 = some (.inl (some (.inl z)), r0) := by
    intro k
    induction k with
    | zero =>
      intro a b b0 hb a0 ab
      refine ⟨a, ?_, ?_⟩
      · rw [cE_14_5, cF_14_5, e6, if_pos cl, hz, if_neg (by omega)]
      · rw [cE_298_8, cF_298_8, f43, if_neg (by omega)]
    | succ k ih =>
      intro a b b0 hb a0 ab
      have g0 := (htr b b0 (by omega)).1
      have tgv : tg s t 1 (-1) b = s.2 (t + 1) b := if_pos ⟨by omega, by omega⟩
      have w1 : cm_w (b + 1) = b + 1 := cm_w_id (by omega) (by omega)
      have w2 : cm_w (a + 1) = a + 1 := cm_w_id (by omega) (by omega)
      have w3 : cm_w (6 * b) = 6 * b := cm_w_id (by omega) (by omega)
      have e1 : cm_lp cm_sem cm_k14 5 [some (.inr (.inl 0)), some (.inl x), some (.inl a), some (.inl b)] [] s = if r.2 67 (6 * b) = x then cm_lp cm_sem cm_k14 5 [some (.inr (.inl 0)), some (.inl x), some (.inl (a + 1)), some (.inl (b + 1))] [] s else cm_lp cm_sem cm_k14 5 [some (.inr (.inl 0)), some (.inl x), some (.inl a), some (.inl (b + 1))] [] s := by
        rw [cE_14_5, cF_14_5, e6, if_pos cl, hz, if_pos (by omega), if_pos cl, cs_15 it sz, cm_bi_i, tgv, g0, w1, w2]
      have e2 : cm_lp cm_sem cm_k298 8 [some (.inr (.inl 41)), some (.inl x), some (.inl a), some (.inl b)] [] r0 = if r.2 67 (6 * b) = x then cm_lp cm_sem cm_k298 8 [some (.inr (.inl 41)), some (.inl x), some (.inl (a + 1)), some (.inl (b + 1))] [] r0 else cm_lp cm_sem cm_k298 8 [some (.inr (.inl 41)), some (.inl x), some (.inl a), some (.inl (b + 1))] [] r0 := by
        rw [cE_298_8, cF_298_8, f43, if_pos (by omega), w3, if_pos (by omega), f67, w1, w2]
      rw [e1, e2]
      by_cases q : r.2 67 (6 * b) = x
      · rw [if_pos q, if_pos q]
        exact ih (a + 1) (b + 1) (by omega) (by omega) (by omega) (by omega)
      · rw [if_neg q, if_neg q]
        exact ih a (b + 1) (by omega) (by omega) (by omega) (by omega)
  exact key (r.1 4143).toNat 0 0 (Int.le_refl _) (by omega) (Int.le_refl _) (Int.le_refl _)
theorem both_printed {s r : cm_S} (h : FI s r) (x : Int) : ∃ z, cm_sem 17 [.inr (.inl 0), .inl x] s = some (.inl (some (.inl z)), s) ∧ cm_sem 299 [.inr (.inl 41), .inl x] r = some (.inl (some (.inl z)), cm_p r 4103 0) := by
  obtain ⟨-, c0, c9, hth, hty, y0, y9, htp, hpr, p0, p9, hpt⟩ := h
  rw [cS_17, cF_17_0, cS_299, cF_299_0]
  by_cases q : x = -1
  · rw [if_pos q, if_pos q, hpr]
    exact ⟨_, rfl, rfl⟩
  rw [if_neg q, if_neg q, cS_18, cF_18_0]
  by_cases x0 : x < 0
  · rw [if_pos x0, if_pos x0, cm_bi_i]
    exact ⟨_, rfl, rfl⟩
  rw [if_neg x0, if_neg x0, hpr]
  by_cases x1 : x < r.1 4148
  · rw [if_pos x1, if_pos x1, if_pos (by omega), if_pos (by omega), if_pos (by omega), cm_bi_i, (hpt x (by omega) (by omega)).1]
    exact ⟨_, rfl, rfl⟩
  · rw [if_neg x1, if_neg x1, cm_bi_i]
    exact ⟨_, rfl, rfl⟩
theorem cl_19 : ∀ (k : Nat) (x : Int) (s : cm_S), 0 ≤ x → x + k = s.1 3706 → s.1 3706 ≤ 480 → s.1 101 = x → (∀ i, 0 ≤ i → i < s.1 3706 → okc (s.2 38 i)) → (∀ i, 0 ≤ i → i < x → s.2 2 i = s.2 38 i) → ∃ s', cm_lp cm_sem cm_k19 18 [some (.inr (.inl 0)), some (.inl x)] [] s = some (.inl (some (.inl 1)), s') ∧ s'.1 101 = s.1 3706 ∧ (∀ j : Nat, j ≠ 101 → s'.1 j = s.1 j) ∧ (∀ a : Nat, a ≠ 2 → s'.2 a = s.2 a) ∧ ∀ i, 0 ≤ i → i < s.1 3706 → s'.2 2 i = s.2 38 i := by
  intro k
  induction k with
  | zero =>
    intro x s x0 hx h9 hy _ hc
    refine ⟨s, ?_, by omega, fun _ _ => rfl, fun _ _ => rfl, fun i a b => hc i a (by omega)⟩
    rw [cE_19_18, cF_19_18, if_neg (by omega)]
  | succ k ih =>
    intro x s x0 hx h9 hy ho hc
    have oc := ho x x0 (by omega)
    obtain ⟨s', e1, e2, e3, e4, e5⟩ := ih (x + 1) (cm_p (cm_q s 2 x (s.2 38 x)) 101 (x + 1)) (by omega) (by rw [cm_p_ne (by decide)]; show x + 1 + k = s.1 3706; omega) (by rw [cm_p_ne (by decide)]; exact h9) cm_p_at (fun i a b => by
      rw [cm_p_ne (by decide)] at b
      rw [cm_p_row, cm_q_ne (by decide)]
      exact ho i a b) (fun i a b => by
      rw [cm_p_row, cm_q_at, cm_q_ne (by decide)]
      by_cases q : i = x
      · rw [if_pos q, q]
      · rw [if_neg q]
        exact hc i a (by omega))
    have f38 : (cm_p (cm_q s 2 x (s.2 38 x)) 101 (x + 1)).2 38 = s.2 38 := by rw [cm_p_row, cm_q_ne (by decide)]
    have f06 : (cm_p (cm_q s 2 x (s.2 38 x)) 101 (x + 1)).1 3706 = s.1 3706 := cm_p_ne (by decide)
    refine ⟨s', ?_, e2.trans f06, fun j hj => (e3 j hj).trans (cm_p_ne hj), fun a ha => (e4 a ha).trans (by rw [cm_p_row, cm_q_ne ha]), fun i a b => ?_⟩
    · rw [cE_19_18, cF_19_18, if_pos (by omega), cS_18, cF_18_0, if_neg (by omega), if_pos (by omega), if_pos (by omega), if_pos (by omega), cm_bi_i, cS_12, cF_12_0, if_neg (by omega), if_pos (by omega), if_pos (by omega), if_pos (by omega), if_pos (by omega), cm_bv_o, cm_w_id (show -2147483648 ≤ s.1 101 + 1 by omega) (by omega), cm_w_id (show -2147483648 ≤ x + 1 by omega) (by omega), hy]
      exact e1
    · rw [e5 i a (by rw [f06]; exact b), f38]
theorem rl_300 : ∀ (k : Nat) (x : Int) (s : cm_S), 0 ≤ x → x + k = s.1 4148 → s.1 4148 ≤ 480 → (∀ i, 0 ≤ i → i < s.1 4148 → okc (s.2 68 i)) → (∀ i, 0 ≤ i → i < x → s.2 45 i = s.2 68 i) → ∃ s', cm_lp cm_sem cm_k300 15 [some (.inr (.inl 41)), some (.inl x)] [] s = some (.inl (some (.inl 1)), s') ∧ s'.1 4106 = s.1 4148 ∧ (∀ j : Nat, j ≠ 4106 → s'.1 j = s.1 j) ∧ (∀ a : Nat, a ≠ 45 → s'.2 a = s.2 a) ∧ ∀ i, 0 ≤ i → i < s.1 4148 → s'.2 45 i = s.2 68 i := by
  intro k
  induction k with
  | zero =>
    intro x s x0 hx h9 _ hc
    refine ⟨cm_p s 4106 (s.1 4148), ?_, cm_p_at, fun j hj => cm_p_ne hj, fun _ _ => rfl, fun i a b => hc i a (by omega)⟩
    rw [cE_300_15, cF_300_15, if_neg (by omega)]
  | succ k ih =>
    intro x s x0 hx h9 ho hc
    have oc := ho x x0 (by omega)
    obtain ⟨s', e1, e2, e3, e4, e5⟩ := ih (x + 1) (cm_q s 45 x (s.2 68 x)) (by omega) (by show x + 1 + k = s.1 4148; omega) h9 (fun i a b => by
      rw [cm_q_ne (by decide)]
      exact ho i a b) (fun i a b => by
      rw [cm_q_at, cm_q_ne (by decide)]
      by_cases q : i = x
      · rw [if_pos q, q]
      · rw [if_neg q]
        exact hc i a (by omega))
    have f68 : (cm_q s 45 x (s.2 68 x)).2 68 = s.2 68 := cm_q_ne (by decide)
    refine ⟨s', ?_, e2, e3, fun a ha => (e4 a ha).trans (cm_q_ne ha), fun i a b => ?_⟩
    · rw [cE_300_15, cF_300_15, if_pos (by omega), if_pos (by omega), if_pos (by omega), if_pos (by omega), cm_w_id (show -2147483648 ≤ x + 1 by omega) (by omega)]
      exact e1
    · rw [e5 i a b, f68]
theorem both_again {s r : cm_S} (h : FI s r) : ∃ z s' r', cm_sem 19 [.inr (.inl 0)] s = some (.inl (some (.inl z)), s') ∧ cm_sem 300 [.inr (.inl 41)] r = some (.inl (some (.inl z)), r') ∧ FI s' r' := by
  have h' := FI_t h 0
  obtain ⟨⟨t, t', h6, h7, tt, hz, htr⟩, c0, c9, hth, hty, y0, y9, htp, hpr, p0, p9, hpt⟩ := id h
  have it : isTr t := by unfold isTr; omega
  have e6 : (s.1 6).toNat = t := by rw [h6]; rfl
  have cl := (tr_f it).1
  rw [cS_19, cF_19_0, cS_300, cF_300_0, e6, if_pos cl, hz, hth]
  by_cases z0 : r.1 4143 = 0
  · rw [if_pos z0, if_pos z0, if_pos rfl]
    exact ⟨0, s, _, rfl, rfl, h'⟩
  rw [if_neg z0, if_neg z0, if_neg (show ¬ (1 : Int) = 0 by decide), hpr]
  by_cases l9 : 480 < r.1 4148
  · rw [if_pos l9, if_pos l9]
    exact ⟨0, s, _, rfl, rfl, h'⟩
  rw [if_neg l9, if_neg l9]
  have fs : (cm_p s 101 0).1 3706 = s.1 3706 := cm_p_ne (by decide)
  have fr : (cm_p r 4103 0).1 4148 = r.1 4148 := cm_p_ne (by decide)
  obtain ⟨s1, a1, a2, a3, a4, a5⟩ := cl_19 (s.1 3706).toNat 0 (cm_p s 101 0) (Int.le_refl _) (by rw [fs]; omega) (by rw [fs]; omega) cm_p_at (fun i a b => by rw [fs] at b; exact (hpt i a b).2) (fun i a b => by omega)
  obtain ⟨r1, b1, b2, b3, b4, b5⟩ := rl_300 (r.1 4148).toNat 0 (cm_p r 4103 0) (Int.le_refl _) (by rw [fr]; omega) (by rw [fr]; omega) (fun i a b => by
    rw [fr] at b
    show okc (r.2 68 i)
    rw [← (hpt i a (by omega)).1]
    exact (hpt i a (by omega)).2) (fun i a b => by omega)
  refine ⟨1, s1, r1, a1, b1, ?_⟩
  rw [fs] at a2 a5
  rw [fr] at b2 b5
  have ks : ∀ j : Nat, j ≠ 101 → s1.1 j = s.1 j := fun j hj => by rw [a3 j hj, cm_p_ne hj]
  have kr : ∀ j : Nat, j ≠ 4106 → j ≠ 4103 → r1.1 j = r.1 j := fun j n1 n2 => by rw [b3 j n1, cm_p_ne n2]
  have z43 := kr 4143 (by decide) (by decide)
  refine ⟨⟨t, t', by rw [ks 6 (by decide)]; exact h6, by rw [ks 7 (by decide)]; exact h7, tt, by rw [ks _ (by omega), z43]; exact hz, fun i i0 i1 => ?_⟩, by rw [z43]; exact c0, by rw [z43]; exact c9, by rw [kr 4142 (by decide) (by decide), z43]; exact hth, by rw [a2, b2]; exact hpr, by rw [a2]; exact p0, by rw [a2]; omega, fun i i0 i1 => ?_, by rw [ks 3706 (by decide), kr 4148 (by decide) (by decide)]; exact hpr, by rw [ks 3706 (by decide)]; exact p0, by rw [ks 3706 (by decide)]; exact p9, fun i i0 i1 => ?_⟩
  · rw [z43] at i1
    have e := htr i i0 i1
    unfold trE at e ⊢
    rw [b4 67 (by decide), a4 (t + 1) (by omega), a4 (t + 2) (by omega), a4 (t + 3) (by omega), a4 (t + 5) (by omega), a4 (t + 7) (by omega), a4 (t + 8) (by omega)]
    exact e
  · rw [a2] at i1
    rw [a5 i i0 i1, b5 i i0 (by omega)]
    exact hpt i i0 i1
  · rw [ks 3706 (by decide)] at i1
    rw [a4 38 (by decide), b4 68 (by decide)]
    exact hpt i i0 i1
theorem both_fault {s r : cm_S} (h : FI s r) (x : Int) : ∃ z z', cm_sem 13 [.inr (.inl 0), .inl x] s = some (.inl (some (.inl z)), s) ∧ cm_sem 296 [.inr (.inl 41), .inl x] r = some (.inl (some (.inl z')), cm_p r 4103 0) ∧ FI s (cm_p r 4103 0) := by
  have h' := FI_t h 0
  rw [cS_13, cF_13_0, cS_296, cF_296_0]
  by_cases x0 : x = 0
  · rw [if_pos x0, if_pos x0]
    exact ⟨_, _, rfl, rfl, h'⟩
  rw [if_neg x0, if_neg x0]
  by_cases x1 : x = 1
  · rw [if_pos x1, if_pos x1]
    exact ⟨_, _, rfl, rfl, h'⟩
  rw [if_neg x1, if_neg x1]
  by_cases x2 : x = 2
  · rw [if_pos x2, if_pos x2]
    exact ⟨_, _, rfl, rfl, h'⟩
  rw [if_neg x2, if_neg x2]
  exact ⟨_, _, rfl, rfl, h'⟩
