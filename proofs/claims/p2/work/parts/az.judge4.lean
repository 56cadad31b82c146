/-! ===== the class's judge: jumps, look() ===== -/
section TX87
variable {tx : Int → Int} {n : Int}
theorem c_136 (ht : tOk tx n) {s : cm_S} {t : Nat} {T : tT} (h : cJ tx n s t T) (hT : T.1.1 = 0) {i : Int} (h0 : 0 ≤ i) (h1 : i < tSz T) : RB (cm_sem 136 [.inr (.inl 36), .inl i] s) s (wJ tx n T i) := by
  have n9 := h.2.2.2.1
  have i0 : (nLb (nT T i)).1 ≠ 0 → 0 < i := fun hk => by
    by_cases hi : i = 0
    · subst hi
      rw [nT_0] at hk
      exact absurd hT hk
    · omega
  rw [cS_136, cF_136_0]
  simp only [h.tn, if_pos h.cl, h.kd h0 h1, h.ln h0 h1, cm_bi_i]
  obtain ⟨w, w1, w2, w3, w4⟩ := c_139 ht h h0 h1
  unfold wJ
  by_cases h11 : (nLb (nT T i)).1 = 11
  · rw [if_pos h11]
    split
    · next e => exact RB_iff (RB_nt (c_140 h h0 h1 0)) ⟨fun q => Or.inl ⟨h11, Or.inl ⟨e, q⟩⟩, fun q => by
        rcases q with ⟨-, q | q⟩ | q | q | q | q
        · exact q.2
        · exact absurd e q.1
        all_goals omega⟩
    · next e =>
      rw [w1, cm_bi_i]
      refine RB_iff (RB_nt (c_142 h w3 w4)) ⟨fun q => Or.inl ⟨h11, Or.inr ⟨e, fun ⟨w', a, b, c⟩ => q ?_⟩⟩, fun q => ?_⟩
      · have := LbA_u _ _ _ _ w2 a
        subst this
        exact ⟨b, c⟩
      · rcases q with ⟨-, q | q⟩ | q | q | q | q
        · exact absurd q.1 e
        · exact fun z => q.2 ⟨w, w2, z⟩
        all_goals omega
  rw [if_neg h11]
  by_cases h12 : (nLb (nT T i)).1 = 12
  · rw [if_pos h12]
    split
    · next e => exact RB_iff (RB_nt (c_140 h h0 h1 1)) ⟨fun q => Or.inr (Or.inl ⟨h12, Or.inl ⟨e, q⟩⟩), fun q => by
        rcases q with q | ⟨-, q | q⟩ | q | q | q
        · omega
        · exact q.2
        · exact absurd e q.1
        all_goals omega⟩
    · next e =>
      rw [w1, cm_bi_i]
      split
      · next ew =>
        subst ew
        exact RB_1 (Or.inr (Or.inl ⟨h12, Or.inr ⟨e, w2⟩⟩))
      · next ew =>
        refine RB_0 fun q => ?_
        rcases q with q | ⟨-, q | q⟩ | q | q | q
        · omega
        · exact absurd q.1 e
        · exact ew (LbA_u _ _ _ _ w2 q.2)
        all_goals omega
  rw [if_neg h12]
  by_cases h13 : (nLb (nT T i)).1 = 13
  · rw [if_pos h13]
    exact RB_iff (RB_nt (c_138 h h0 h1)) ⟨fun q => Or.inr (Or.inr (Or.inl ⟨h13, q⟩)), fun q => by
      rcases q with q | q | q | q | q
      · omega
      · omega
      · exact q.2
      all_goals omega⟩
  rw [if_neg h13]
  by_cases h15 : (nLb (nT T i)).1 = 15
  · rw [if_pos h15]
    exact RB_iff (RB_tl (c_137 h (i0 (by omega)) h1 h15)) ⟨fun q => Or.inr (Or.inr (Or.inr (Or.inl ⟨h15, q⟩))), fun q => by
      rcases q with q | q | q | q | q
      · omega
      · omega
      · omega
      · exact q.2
      · omega⟩
  rw [if_neg h15]
  by_cases h16 : (nLb (nT T i)).1 = 16
  · rw [if_pos h16, w1, cm_bi_i]
    split
    · next ew =>
      subst ew
      refine RB_0 fun q => ?_
      rcases q with q | q | q | q | q
      · omega
      · omega
      · omega
      · omega
      · exact q.2 w2
    · next ew => exact RB_1 (Or.inr (Or.inr (Or.inr (Or.inr ⟨h16, fun z => ew (LbA_u _ _ _ _ w2 z)⟩))))
  rw [if_neg h16]
  exact RB_0 (by omega)
/-- a fault, if it is one -/
theorem c_129 {s : cm_S} {t : Nat} {T : tT} (h : cJ tx n s t T) {x : Option cm_R} {P : Prop} (hx : RB x s P) {f : cm_S → Option cm_R} {c i : Int} (h0 : 0 ≤ i) (h1 : i < tSz T) : (¬ P → (cm_bi x fun z s1 => cm_bv (cm_sem 129 [.inr (.inl 36), .inl z, .inl c, .inl i] s1) f) = f s) ∧ (P → ∃ s2, (cm_bi x fun z s1 => cm_bv (cm_sem 129 [.inr (.inl 36), .inl z, .inl c, .inl i] s1) f) = some (.inr 0, s2) ∧ s2.2 = s.2 ∧ ∀ j : Nat, j ≠ 300 → j ≠ 301 → s2.1 j = s.1 j) := by
  obtain ⟨z, e, ⟨rfl, hp⟩ | ⟨rfl, hp⟩⟩ := hx
  · refine ⟨fun _ => ?_, fun q => absurd q hp⟩
    rw [e, cm_bi_i, cS_129, cF_129_0, if_pos rfl, cm_bv_o]
  · refine ⟨fun q => absurd hp q, fun _ => ?_⟩
    rw [e, cm_bi_i, cS_129, cF_129_0, if_neg (by decide), h.tn, if_pos h.cl, h.pl h0 h1, cm_bi_i, cs_34, cm_bv_t, cm_bv_t]
    exact ⟨_, rfl, rfl, fun j a b => by rw [cm_p_ne b, cm_p_ne a]⟩
theorem stP_fr {T : tT} {σ σ' : Int → Int} {i m : Int} (h : ∀ j, 0 ≤ j → j < m → σ' j = σ j) (h0 : 0 < i) (h1 : i < tSz T) (hm : i ≤ m) : stP tx n T σ' i ↔ stP tx n T σ i := by
  obtain ⟨a1, a2, a3⟩ := nT_mem h0 h1
  unfold stP
  rw [h _ a1 (by omega)]
theorem stP_0 {T : tT} (hT : T.1.1 = 0) (σ σ' : Int → Int) : stP tx n T σ' 0 ↔ stP tx n T σ 0 := by
  have : (nLb (nT T 0)).1 = 0 := by rw [nT_0]; exact hT
  unfold stP
  constructor
  · rintro (q | q | q)
    · exact Or.inl q
    · exact absurd this q.1
    · exact Or.inr (Or.inr q)
  · rintro (q | q | q)
    · exact Or.inl q
    · exact absurd this q.1
    · exact Or.inr (Or.inr q)
theorem stOk_u {T : tT} (hT : T.1.1 = 0) {σ σ' : Int → Int} {m : Int} (hm : m ≤ tSz T) (h : stOk tx n T σ m) (h' : stOk tx n T σ' m) : ∀ (k : Nat), (k : Int) ≤ m → ∀ j : Int, 0 ≤ j → j < k → σ' j = σ j := by
  intro k
  induction k with
  | zero => intro _ j a b; omega
  | succ k ih =>
    intro hk j a b
    by_cases hj : j < k
    · exact ih (by omega) j a hj
    · have hj2 : j = (k : Int) := by omega
      rw [hj2]
      have e : stP tx n T σ' (k : Int) ↔ stP tx n T σ (k : Int) := by
        by_cases h0 : (k : Int) = 0
        · rw [h0]; exact stP_0 hT σ σ'
        · exact stP_fr (ih (by omega)) (by omega) (by omega) (Int.le_refl _)
      have q := h (k : Int) (by omega) (by omega)
      have q' := h' (k : Int) (by omega) (by omega)
      rw [e] at q'
      rcases q with ⟨q1, q2⟩ | ⟨q1, q2⟩
      · rcases q' with ⟨r1, r2⟩ | ⟨r1, r2⟩
        · omega
        · exact absurd r2 q2
      · rcases q' with ⟨r1, r2⟩ | ⟨r1, r2⟩
        · exact absurd q2 r2
        · omega
/-- one more node's strictness -/
theorem stOk_q {T : tT} (hT : T.1.1 = 0) {σ : Int → Int} {i z : Int} (h : stOk tx n T σ i) (h0 : 0 ≤ i) (h1 : i < tSz T) (hz : z = 0 ∧ ¬ stP tx n T σ i ∨ z = 1 ∧ stP tx n T σ i) {σ' : Int → Int} (e : ∀ j, σ' j = if j = i then z else σ j) : stOk tx n T σ' (i + 1) := by
  intro j a b
  have fr : ∀ q, 0 ≤ q → q < i → σ' q = σ q := fun q q0 q1 => by rw [e, if_neg (by omega)]
  have st : stP tx n T σ' j ↔ stP tx n T σ j := by
    by_cases hj : j = 0
    · rw [hj]; exact stP_0 hT σ σ'
    · exact stP_fr fr (by omega) (by omega) (by omega)
  rw [st]
  by_cases hj : j = i
  · subst hj
    rw [e, if_pos rfl]
    exact hz
  · rw [e, if_neg hj]
    exact h j a (by omega)
theorem cJ_q {s : cm_S} {t : Nat} {T : tT} (h : cJ tx n s t T) {i z : Int} : cJ tx n (cm_q s (t + 8) i z) t T := by
  obtain ⟨h1, h2, h3, h4, h5, h6, h7⟩ := h
  refine ⟨h1, h2, h3, h4, ⟨h5.1, fun j a b => ?_⟩, cFl_fr _ _ _ _ (fun a q a1 a2 _ _ => by rw [cm_q_ne (by omega)]) h6, h7⟩
  rw [cm_q_ne (by rcases h1 with rfl | rfl <;> omega)]
  exact h5.2 j a b
theorem cl_115a (ht : tOk tx n) {t : Nat} {T : tT} (hT : T.1.1 = 0) (o1 : Option cm_V) : ∀ (k : Nat) (s : cm_S) (i : Int), cJ tx n s t T → stOk tx n T (s.2 (t + 8)) i → 0 ≤ i → i + k = tSz T → ∃ s1, cm_lp cm_sem cm_k115 6 [some (.inr (.inl 36)), o1, some (.inl i)] [] s = cm_lp cm_sem cm_k115 23 [some (.inr (.inl 36)), o1, some (.inl 0)] [] s1 ∧ s1.1 = s.1 ∧ (∀ a : Nat, a ≠ t + 8 → s1.2 a = s.2 a) ∧ stOk tx n T (s1.2 (t + 8)) (tSz T) ∧ cJ tx n s1 t T := by
  intro k
  induction k with
  | zero =>
    intro s i h st h0 hk
    rw [cE_115_6, cF_115_6]
    simp only [h.tn, if_pos h.cl, h.2.2.1]
    rw [if_neg (by omega)]
    exact ⟨s, rfl, rfl, fun _ _ => rfl, by rw [← hk]; simpa using st, h⟩
  | succ k ih =>
    intro s i h st h0 hk
    have n9 := h.2.2.2.1
    rw [cE_115_6, cF_115_6]
    simp only [h.tn, if_pos h.cl, h.2.2.1]
    rw [if_pos (by omega)]
    obtain ⟨z, e, hz⟩ := c_116 ht h hT h0 (by omega)
    rw [e, cm_bi_i, cs_125 h.1 h.sz ⟨h0, by rw [h.2.2.1]; omega⟩ (by omega), cm_bv_o, cm_w_id (by omega) (by omega)]
    obtain ⟨s1, b1, b2, b3, b4, b5⟩ := ih (cm_q s (t + 8) i z) (i + 1) (cJ_q h) (stOk_q hT st h0 (by omega) hz fun j => cm_q_at) (by omega) (by omega)
    exact ⟨s1, b1, b2, fun a ha => (b3 a ha).trans (cm_q_ne ha), b4, b5⟩
theorem cl_115b (ht : tOk tx n) {s : cm_S} {t : Nat} {T : tT} (h : cJ tx n s t T) (hT : T.1.1 = 0) (o1 : Option cm_V) : ∀ (k : Nat) (i : Int), 0 ≤ i → i + k = tSz T → ((∀ j, i ≤ j → j < tSz T → ¬ bad tx n T (s.2 (t + 8)) j) → cm_lp cm_sem cm_k115 23 [some (.inr (.inl 36)), o1, some (.inl i)] [] s = some (.inl none, s)) ∧ ((∃ j, i ≤ j ∧ j < tSz T ∧ bad tx n T (s.2 (t + 8)) j) → ∃ s2, cm_lp cm_sem cm_k115 23 [some (.inr (.inl 36)), o1, some (.inl i)] [] s = some (.inr 0, s2) ∧ s2.2 = s.2 ∧ ∀ j : Nat, j ≠ 300 → j ≠ 301 → s2.1 j = s.1 j) := by
  have n9 := h.2.2.2.1
  intro k
  induction k with
  | zero =>
    intro i h0 hk
    rw [cE_115_23, cF_115_23]
    simp only [h.tn, if_pos h.cl, h.2.2.1]
    rw [if_neg (by omega)]
    exact ⟨fun _ => rfl, fun ⟨j, a, b, c⟩ => by omega⟩
  | succ k ih =>
    intro i h0 hk
    have i1 : i < tSz T := by omega
    rw [cE_115_23, cF_115_23]
    simp only [h.tn, if_pos h.cl, h.2.2.1]
    rw [if_pos i1]
    have A := c_126 h h0 i1
    have B := c_130 ht h hT h0 i1
    have C := c_136 ht h hT h0 i1
    by_cases ha : wT T i
    · obtain ⟨s2, e2, e3⟩ := (c_129 h A h0 i1).2 ha
      exact ⟨fun q => absurd (Or.inl ha) (q i (Int.le_refl _) i1), fun _ => ⟨s2, e2, e3⟩⟩
    rw [(c_129 h A h0 i1).1 ha]
    by_cases hb : wS tx n T (s.2 (t + 8)) i
    · obtain ⟨s2, e2, e3⟩ := (c_129 h B h0 i1).2 hb
      exact ⟨fun q => absurd (Or.inr (Or.inl hb)) (q i (Int.le_refl _) i1), fun _ => ⟨s2, e2, e3⟩⟩
    rw [(c_129 h B h0 i1).1 hb]
    by_cases hc : wJ tx n T i
    · obtain ⟨s2, e2, e3⟩ := (c_129 h C h0 i1).2 hc
      exact ⟨fun q => absurd (Or.inr (Or.inr hc)) (q i (Int.le_refl _) i1), fun _ => ⟨s2, e2, e3⟩⟩
    rw [(c_129 h C h0 i1).1 hc, cm_w_id (by omega) (by omega)]
    obtain ⟨g1, g2⟩ := ih (i + 1) (by omega) (by omega)
    refine ⟨fun q => g1 fun j a b => q j (by omega) b, fun ⟨j, a, b, c⟩ => g2 ⟨j, ?_, b, c⟩⟩
    by_cases hj : j = i
    · subst hj
      rcases c with c | c | c
      · exact absurd c ha
      · exact absurd c hb
      · exact absurd c hc
    · omega
/-- look() -/
theorem c_115 (ht : tOk tx n) {s : cm_S} {t : Nat} {T : tT} (h1 : isTr t) (h2 : s.1 (100 * t + 8) = tSz T) (h3 : tSz T ≤ 482) (h4 : cTx tx n s) (h5 : cFl s t (-1) 0 0 (fo [T])) (h6 : gF tx n (fo [T])) (hT : T.1.1 = 0) : ∃ s1, s1.1 = (cm_p s 3602 t).1 ∧ (∀ a : Nat, a ≠ t + 8 → s1.2 a = s.2 a) ∧ stOk tx n T (s1.2 (t + 8)) (tSz T) ∧ ((∀ j, 0 ≤ j → j < tSz T → ¬ bad tx n T (s1.2 (t + 8)) j) → cm_sem 115 [.inr (.inl 36), .inr (.inl t)] s = some (.inl none, s1)) ∧ ((∃ j, 0 ≤ j ∧ j < tSz T ∧ bad tx n T (s1.2 (t + 8)) j) → ∃ s2, cm_sem 115 [.inr (.inl 36), .inr (.inl t)] s = some (.inr 0, s2) ∧ s2.2 = s1.2 ∧ ∀ j : Nat, j ≠ 300 → j ≠ 301 → s2.1 j = s1.1 j) := by
  have tz := tSz_1 T
  rw [cS_115, cF_115_0]
  have hj : cJ tx n (cm_p s 3602 (t : Int)) t T := ⟨h1, cm_p_at, by rw [cm_p_ne (by rcases h1 with rfl | rfl <;> omega)]; exact h2, h3, cTx_p h4 (by decide), cFl_fr (s := s) _ _ _ _ (fun _ _ _ _ _ _ => rfl) h5, h6⟩
  obtain ⟨s1, b1, b2, b3, b4, b5⟩ := cl_115a ht hT (some (.inr (.inl t))) (tSz T).toNat (cm_p s 3602 (t : Int)) 0 hj (fun i a b => by omega) (Int.le_refl _) (by omega)
  rw [b1]
  obtain ⟨g1, g2⟩ := cl_115b ht b5 hT (some (.inr (.inl t))) (tSz T).toNat 0 (Int.le_refl _) (by omega)
  exact ⟨s1, b2, b3, b4, g1, g2⟩
end TX87
