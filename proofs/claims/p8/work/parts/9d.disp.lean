/-! ===== step(): which method a task runs ===== -/
section TX33
variable {tx : Int → Int} {n : Int}
theorem rd_1 {e d rn pu : Int} {lf : Bool} {V : List tT} {K : List rTs} {S : List rSg} {s : cm_S} {a b c x : Int} (q : rR tx n (e, d, rn, pu, lf, V, (1, a, b, c, x) :: K, S) s) (hK : (K.length : Int) ≤ 890) {G : cm_S → Prop} (h : ∀ s, rR tx n (e, d, rn, pu, lf, V, K, S) s → RO s (cm_sem 179 [.inr (.inl 41), .inl a] s) G) : RO s (cm_sem 178 [.inr (.inl 41)] s) G := by
  have h5 : s.1 4128 = ((((1, a, b, c, x) : rTs) :: K).length : Nat) := q.2.2.2.2.2.1
  obtain ⟨r1, r2, r3, r4, r5, -⟩ := q.2.2.2.2.2.2.1
  have e1 : cm_w (s.1 4128 - 1) = K.length := by rw [h5, List.length_cons, cm_w_id (by omega) (by omega)]; omega
  have hk : (0 : Int) ≤ K.length ∧ (K.length : Int) < 900 := by omega
  have q1 := rR_po q
  simp only at r1 r2 r3 r4 r5
  refine RO_from (s1 := cm_p s 4128 K.length) (rFm_p (rFm_rf s) (by omega)) ?_
  rw [cS_178, cF_178_0]
  simp only [e1, if_pos hk, r1, r2, r3, r4]
  exact RO_tail (h _ q1)

theorem rd_20 {e d rn pu : Int} {lf : Bool} {V : List tT} {K : List rTs} {S : List rSg} {s : cm_S} {a b c x : Int} (q : rR tx n (e, d, rn, pu, lf, V, (2, 0, b, c, x) :: K, S) s) (hK : (K.length : Int) ≤ 890) {G : cm_S → Prop} (h : ∀ s, rR tx n (e, d, rn, pu, lf, V, K, S) s → RO s (cm_sem 199 [.inr (.inl 41), .inl 0] s) G) : RO s (cm_sem 178 [.inr (.inl 41)] s) G := by
  have h5 : s.1 4128 = ((((2, 0, b, c, x) : rTs) :: K).length : Nat) := q.2.2.2.2.2.1
  obtain ⟨r1, r2, r3, r4, r5, -⟩ := q.2.2.2.2.2.2.1
  have e1 : cm_w (s.1 4128 - 1) = K.length := by rw [h5, List.length_cons, cm_w_id (by omega) (by omega)]; omega
  have hk : (0 : Int) ≤ K.length ∧ (K.length : Int) < 900 := by omega
  have q1 := rR_po q
  simp only at r1 r2 r3 r4 r5
  refine RO_from (s1 := cm_p s 4128 K.length) (rFm_p (rFm_rf s) (by omega)) ?_
  rw [cS_178, cF_178_0]
  simp only [e1, if_pos hk, r1, r2, r3, r4]
  exact RO_tail (h _ q1)

theorem rd_21 {e d rn pu : Int} {lf : Bool} {V : List tT} {K : List rTs} {S : List rSg} {s : cm_S} {a b c x : Int} (q : rR tx n (e, d, rn, pu, lf, V, (2, 1, b, c, x) :: K, S) s) (hK : (K.length : Int) ≤ 890) {G : cm_S → Prop} (h : ∀ s, rR tx n (e, d, rn, pu, lf, V, K, S) s → RO s (cm_sem 199 [.inr (.inl 41), .inl 1] s) G) : RO s (cm_sem 178 [.inr (.inl 41)] s) G := by
  have h5 : s.1 4128 = ((((2, 1, b, c, x) : rTs) :: K).length : Nat) := q.2.2.2.2.2.1
  obtain ⟨r1, r2, r3, r4, r5, -⟩ := q.2.2.2.2.2.2.1
  have e1 : cm_w (s.1 4128 - 1) = K.length := by rw [h5, List.length_cons, cm_w_id (by omega) (by omega)]; omega
  have hk : (0 : Int) ≤ K.length ∧ (K.length : Int) < 900 := by omega
  have q1 := rR_po q
  simp only at r1 r2 r3 r4 r5
  refine RO_from (s1 := cm_p s 4128 K.length) (rFm_p (rFm_rf s) (by omega)) ?_
  rw [cS_178, cF_178_0]
  simp only [e1, if_pos hk, r1, r2, r3, r4]
  exact RO_tail (h _ q1)

theorem rd_3 {e d rn pu : Int} {lf : Bool} {V : List tT} {K : List rTs} {S : List rSg} {s : cm_S} {a b c x : Int} (q : rR tx n (e, d, rn, pu, lf, V, (3, a, b, c, x) :: K, S) s) (hK : (K.length : Int) ≤ 890) {G : cm_S → Prop} (h : ∀ s, rR tx n (e, d, rn, pu, lf, V, K, S) s → RO s (cm_sem 202 [.inr (.inl 41), .inl a, .inl b, .inl c, .inl x] s) G) : RO s (cm_sem 178 [.inr (.inl 41)] s) G := by
  have h5 : s.1 4128 = ((((3, a, b, c, x) : rTs) :: K).length : Nat) := q.2.2.2.2.2.1
  obtain ⟨r1, r2, r3, r4, r5, -⟩ := q.2.2.2.2.2.2.1
  have e1 : cm_w (s.1 4128 - 1) = K.length := by rw [h5, List.length_cons, cm_w_id (by omega) (by omega)]; omega
  have hk : (0 : Int) ≤ K.length ∧ (K.length : Int) < 900 := by omega
  have q1 := rR_po q
  simp only at r1 r2 r3 r4 r5
  refine RO_from (s1 := cm_p s 4128 K.length) (rFm_p (rFm_rf s) (by omega)) ?_
  rw [cS_178, cF_178_0]
  simp only [e1, if_pos hk, r1, r2, r3, r4, r5]
  exact RO_tail (h _ q1)

theorem rd_5 {e d rn pu : Int} {lf : Bool} {V : List tT} {K : List rTs} {S : List rSg} {s : cm_S} {a b c x : Int} (q : rR tx n (e, d, rn, pu, lf, V, (5, a, b, c, x) :: K, S) s) (hK : (K.length : Int) ≤ 890) {G : cm_S → Prop} (h : ∀ s, rR tx n (e, d, rn, pu, lf, V, K, S) s → RO s (cm_sem 210 [.inr (.inl 41), .inl a] s) G) : RO s (cm_sem 178 [.inr (.inl 41)] s) G := by
  have h5 : s.1 4128 = ((((5, a, b, c, x) : rTs) :: K).length : Nat) := q.2.2.2.2.2.1
  obtain ⟨r1, r2, r3, r4, r5, -⟩ := q.2.2.2.2.2.2.1
  have e1 : cm_w (s.1 4128 - 1) = K.length := by rw [h5, List.length_cons, cm_w_id (by omega) (by omega)]; omega
  have hk : (0 : Int) ≤ K.length ∧ (K.length : Int) < 900 := by omega
  have q1 := rR_po q
  simp only at r1 r2 r3 r4 r5
  refine RO_from (s1 := cm_p s 4128 K.length) (rFm_p (rFm_rf s) (by omega)) ?_
  rw [cS_178, cF_178_0]
  simp only [e1, if_pos hk, r1, r2, r3, r4]
  exact RO_tail (h _ q1)

theorem rd_6 {e d rn pu : Int} {lf : Bool} {V : List tT} {K : List rTs} {S : List rSg} {s : cm_S} {a b c x : Int} (q : rR tx n (e, d, rn, pu, lf, V, (6, a, b, c, x) :: K, S) s) (hK : (K.length : Int) ≤ 890) {G : cm_S → Prop} (h : ∀ s, rR tx n (e, d, rn, pu, lf, V, K, S) s → RO s (cm_sem 211 [.inr (.inl 41)] s) G) : RO s (cm_sem 178 [.inr (.inl 41)] s) G := by
  have h5 : s.1 4128 = ((((6, a, b, c, x) : rTs) :: K).length : Nat) := q.2.2.2.2.2.1
  obtain ⟨r1, r2, r3, r4, r5, -⟩ := q.2.2.2.2.2.2.1
  have e1 : cm_w (s.1 4128 - 1) = K.length := by rw [h5, List.length_cons, cm_w_id (by omega) (by omega)]; omega
  have hk : (0 : Int) ≤ K.length ∧ (K.length : Int) < 900 := by omega
  have q1 := rR_po q
  simp only at r1 r2 r3 r4 r5
  refine RO_from (s1 := cm_p s 4128 K.length) (rFm_p (rFm_rf s) (by omega)) ?_
  rw [cS_178, cF_178_0]
  simp only [e1, if_pos hk, r1, r2, r3, r4]
  exact RO_tail (h _ q1)

theorem rd_250 {e d rn pu : Int} {lf : Bool} {V : List tT} {K : List rTs} {S : List rSg} {s : cm_S} {a b c x : Int} (q : rR tx n (e, d, rn, pu, lf, V, (25, 0, b, c, x) :: K, S) s) (hK : (K.length : Int) ≤ 890) {G : cm_S → Prop} (h : ∀ s, rR tx n (e, d, rn, pu, lf, V, K, S) s → RO s (cm_sem 228 [.inr (.inl 41), .inl 0] s) G) : RO s (cm_sem 178 [.inr (.inl 41)] s) G := by
  have h5 : s.1 4128 = ((((25, 0, b, c, x) : rTs) :: K).length : Nat) := q.2.2.2.2.2.1
  obtain ⟨r1, r2, r3, r4, r5, -⟩ := q.2.2.2.2.2.2.1
  have e1 : cm_w (s.1 4128 - 1) = K.length := by rw [h5, List.length_cons, cm_w_id (by omega) (by omega)]; omega
  have hk : (0 : Int) ≤ K.length ∧ (K.length : Int) < 900 := by omega
  have q1 := rR_po q
  simp only at r1 r2 r3 r4 r5
  refine RO_from (s1 := cm_p s 4128 K.length) (rFm_p (rFm_rf s) (by omega)) ?_
  rw [cS_178, cF_178_0]
  simp only [e1, if_pos hk, r1, r2, r3, r4]
  exact RO_tail (h _ q1)

theorem rd_251 {e d rn pu : Int} {lf : Bool} {V : List tT} {K : List rTs} {S : List rSg} {s : cm_S} {a b c x : Int} (q : rR tx n (e, d, rn, pu, lf, V, (25, 1, b, c, x) :: K, S) s) (hK : (K.length : Int) ≤ 890) {G : cm_S → Prop} (h : ∀ s, rR tx n (e, d, rn, pu, lf, V, K, S) s → RO s (cm_sem 228 [.inr (.inl 41), .inl 1] s) G) : RO s (cm_sem 178 [.inr (.inl 41)] s) G := by
  have h5 : s.1 4128 = ((((25, 1, b, c, x) : rTs) :: K).length : Nat) := q.2.2.2.2.2.1
  obtain ⟨r1, r2, r3, r4, r5, -⟩ := q.2.2.2.2.2.2.1
  have e1 : cm_w (s.1 4128 - 1) = K.length := by rw [h5, List.length_cons, cm_w_id (by omega) (by omega)]; omega
  have hk : (0 : Int) ≤ K.length ∧ (K.length : Int) < 900 := by omega
  have q1 := rR_po q
  simp only at r1 r2 r3 r4 r5
  refine RO_from (s1 := cm_p s 4128 K.length) (rFm_p (rFm_rf s) (by omega)) ?_
  rw [cS_178, cF_178_0]
  simp only [e1, if_pos hk, r1, r2, r3, r4]
  exact RO_tail (h _ q1)

theorem rd_26 {e d rn pu : Int} {lf : Bool} {V : List tT} {K : List rTs} {S : List rSg} {s : cm_S} {a b c x : Int} (q : rR tx n (e, d, rn, pu, lf, V, (26, a, b, c, x) :: K, S) s) (hK : (K.length : Int) ≤ 890) {G : cm_S → Prop} (h : ∀ s, rR tx n (e, d, rn, pu, lf, V, K, S) s → RO s (cm_sem 229 [.inr (.inl 41)] s) G) : RO s (cm_sem 178 [.inr (.inl 41)] s) G := by
  have h5 : s.1 4128 = ((((26, a, b, c, x) : rTs) :: K).length : Nat) := q.2.2.2.2.2.1
  obtain ⟨r1, r2, r3, r4, r5, -⟩ := q.2.2.2.2.2.2.1
  have e1 : cm_w (s.1 4128 - 1) = K.length := by rw [h5, List.length_cons, cm_w_id (by omega) (by omega)]; omega
  have hk : (0 : Int) ≤ K.length ∧ (K.length : Int) < 900 := by omega
  have q1 := rR_po q
  simp only at r1 r2 r3 r4 r5
  refine RO_from (s1 := cm_p s 4128 K.length) (rFm_p (rFm_rf s) (by omega)) ?_
  rw [cS_178, cF_178_0]
  simp only [e1, if_pos hk, r1, r2, r3, r4]
  exact RO_tail (h _ q1)

theorem rd_27 {e d rn pu : Int} {lf : Bool} {V : List tT} {K : List rTs} {S : List rSg} {s : cm_S} {a b c x : Int} (q : rR tx n (e, d, rn, pu, lf, V, (27, a, b, c, x) :: K, S) s) (hK : (K.length : Int) ≤ 890) {G : cm_S → Prop} (h : ∀ s, rR tx n (e, d, rn, pu, lf, V, K, S) s → RO s (cm_sem 230 [.inr (.inl 41)] s) G) : RO s (cm_sem 178 [.inr (.inl 41)] s) G := by
  have h5 : s.1 4128 = ((((27, a, b, c, x) : rTs) :: K).length : Nat) := q.2.2.2.2.2.1
  obtain ⟨r1, r2, r3, r4, r5, -⟩ := q.2.2.2.2.2.2.1
  have e1 : cm_w (s.1 4128 - 1) = K.length := by rw [h5, List.length_cons, cm_w_id (by omega) (by omega)]; omega
  have hk : (0 : Int) ≤ K.length ∧ (K.length : Int) < 900 := by omega
  have q1 := rR_po q
  simp only at r1 r2 r3 r4 r5
  refine RO_from (s1 := cm_p s 4128 K.length) (rFm_p (rFm_rf s) (by omega)) ?_
  rw [cS_178, cF_178_0]
  simp only [e1, if_pos hk, r1, r2, r3, r4]
  exact RO_tail (h _ q1)

theorem rd_29 {e d rn pu : Int} {lf : Bool} {V : List tT} {K : List rTs} {S : List rSg} {s : cm_S} {a b c x : Int} (q : rR tx n (e, d, rn, pu, lf, V, (29, a, b, c, x) :: K, S) s) (hK : (K.length : Int) ≤ 890) {G : cm_S → Prop} (h : ∀ s, rR tx n (e, d, rn, pu, lf, V, K, S) s → RO s (cm_sem 225 [.inr (.inl 41), .inl a] s) G) : RO s (cm_sem 178 [.inr (.inl 41)] s) G := by
  have h5 : s.1 4128 = ((((29, a, b, c, x) : rTs) :: K).length : Nat) := q.2.2.2.2.2.1
  obtain ⟨r1, r2, r3, r4, r5, -⟩ := q.2.2.2.2.2.2.1
  have e1 : cm_w (s.1 4128 - 1) = K.length := by rw [h5, List.length_cons, cm_w_id (by omega) (by omega)]; omega
  have hk : (0 : Int) ≤ K.length ∧ (K.length : Int) < 900 := by omega
  have q1 := rR_po q
  simp only at r1 r2 r3 r4 r5
  refine RO_from (s1 := cm_p s 4128 K.length) (rFm_p (rFm_rf s) (by omega)) ?_
  rw [cS_178, cF_178_0]
  simp only [e1, if_pos hk, r1, r2, r3, r4]
  exact RO_tail (h _ q1)

theorem rd_30 {e d rn pu : Int} {lf : Bool} {V : List tT} {K : List rTs} {S : List rSg} {s : cm_S} {a b c x : Int} (q : rR tx n (e, d, rn, pu, lf, V, (30, a, b, c, x) :: K, S) s) (hK : (K.length : Int) ≤ 890) {G : cm_S → Prop} (h : ∀ s, rR tx n (e, d, rn, pu, lf, V, K, S) s → RO s (cm_sem 226 [.inr (.inl 41), .inl a] s) G) : RO s (cm_sem 178 [.inr (.inl 41)] s) G := by
  have h5 : s.1 4128 = ((((30, a, b, c, x) : rTs) :: K).length : Nat) := q.2.2.2.2.2.1
  obtain ⟨r1, r2, r3, r4, r5, -⟩ := q.2.2.2.2.2.2.1
  have e1 : cm_w (s.1 4128 - 1) = K.length := by rw [h5, List.length_cons, cm_w_id (by omega) (by omega)]; omega
  have hk : (0 : Int) ≤ K.length ∧ (K.length : Int) < 900 := by omega
  have q1 := rR_po q
  simp only at r1 r2 r3 r4 r5
  refine RO_from (s1 := cm_p s 4128 K.length) (rFm_p (rFm_rf s) (by omega)) ?_
  rw [cS_178, cF_178_0]
  simp only [e1, if_pos hk, r1, r2, r3, r4]
  exact RO_tail (h _ q1)

theorem rd_31 {e d rn pu : Int} {lf : Bool} {V : List tT} {K : List rTs} {S : List rSg} {s : cm_S} {a b c x : Int} (q : rR tx n (e, d, rn, pu, lf, V, (31, a, b, c, x) :: K, S) s) (hK : (K.length : Int) ≤ 890) {G : cm_S → Prop} (h : ∀ s, rR tx n (e, d, rn, pu, lf, V, K, S) s → RO s (cm_sem 227 [.inr (.inl 41), .inl a] s) G) : RO s (cm_sem 178 [.inr (.inl 41)] s) G := by
  have h5 : s.1 4128 = ((((31, a, b, c, x) : rTs) :: K).length : Nat) := q.2.2.2.2.2.1
  obtain ⟨r1, r2, r3, r4, r5, -⟩ := q.2.2.2.2.2.2.1
  have e1 : cm_w (s.1 4128 - 1) = K.length := by rw [h5, List.length_cons, cm_w_id (by omega) (by omega)]; omega
  have hk : (0 : Int) ≤ K.length ∧ (K.length : Int) < 900 := by omega
  have q1 := rR_po q
  simp only at r1 r2 r3 r4 r5
  refine RO_from (s1 := cm_p s 4128 K.length) (rFm_p (rFm_rf s) (by omega)) ?_
  rw [cS_178, cF_178_0]
  simp only [e1, if_pos hk, r1, r2, r3, r4]
  exact RO_tail (h _ q1)

theorem rd_32 {e d rn pu : Int} {lf : Bool} {V : List tT} {K : List rTs} {S : List rSg} {s : cm_S} {a b c x : Int} (q : rR tx n (e, d, rn, pu, lf, V, (32, a, b, c, x) :: K, S) s) (hK : (K.length : Int) ≤ 890) {G : cm_S → Prop} (h : ∀ s, rR tx n (e, d, rn, pu, lf, V, K, S) s → RO s (cm_sem 212 [.inr (.inl 41)] s) G) : RO s (cm_sem 178 [.inr (.inl 41)] s) G := by
  have h5 : s.1 4128 = ((((32, a, b, c, x) : rTs) :: K).length : Nat) := q.2.2.2.2.2.1
  obtain ⟨r1, r2, r3, r4, r5, -⟩ := q.2.2.2.2.2.2.1
  have e1 : cm_w (s.1 4128 - 1) = K.length := by rw [h5, List.length_cons, cm_w_id (by omega) (by omega)]; omega
  have hk : (0 : Int) ≤ K.length ∧ (K.length : Int) < 900 := by omega
  have q1 := rR_po q
  simp only at r1 r2 r3 r4 r5
  refine RO_from (s1 := cm_p s 4128 K.length) (rFm_p (rFm_rf s) (by omega)) ?_
  rw [cS_178, cF_178_0]
  simp only [e1, if_pos hk, r1, r2, r3, r4]
  exact RO_tail (h _ q1)

theorem rd_33 {e d rn pu : Int} {lf : Bool} {V : List tT} {K : List rTs} {S : List rSg} {s : cm_S} {a b c x : Int} (q : rR tx n (e, d, rn, pu, lf, V, (33, a, b, c, x) :: K, S) s) (hK : (K.length : Int) ≤ 890) {G : cm_S → Prop} (h : ∀ s, rR tx n (e, d, rn, pu, lf, V, K, S) s → RO s (cm_sem 213 [.inr (.inl 41), .inl a, .inl b] s) G) : RO s (cm_sem 178 [.inr (.inl 41)] s) G := by
  have h5 : s.1 4128 = ((((33, a, b, c, x) : rTs) :: K).length : Nat) := q.2.2.2.2.2.1
  obtain ⟨r1, r2, r3, r4, r5, -⟩ := q.2.2.2.2.2.2.1
  have e1 : cm_w (s.1 4128 - 1) = K.length := by rw [h5, List.length_cons, cm_w_id (by omega) (by omega)]; omega
  have hk : (0 : Int) ≤ K.length ∧ (K.length : Int) < 900 := by omega
  have q1 := rR_po q
  simp only at r1 r2 r3 r4 r5
  refine RO_from (s1 := cm_p s 4128 K.length) (rFm_p (rFm_rf s) (by omega)) ?_
  rw [cS_178, cF_178_0]
  simp only [e1, if_pos hk, r1, r2, r3, r4]
  exact RO_tail (h _ q1)

theorem rd_34 {e d rn pu : Int} {lf : Bool} {V : List tT} {K : List rTs} {S : List rSg} {s : cm_S} {a b c x : Int} (q : rR tx n (e, d, rn, pu, lf, V, (34, a, b, c, x) :: K, S) s) (hK : (K.length : Int) ≤ 890) {G : cm_S → Prop} (h : ∀ s, rR tx n (e, d, rn, pu, lf, V, K, S) s → RO s (cm_sem 216 [.inr (.inl 41), .inl a, .inl b, .inl c, .inl x] s) G) : RO s (cm_sem 178 [.inr (.inl 41)] s) G := by
  have h5 : s.1 4128 = ((((34, a, b, c, x) : rTs) :: K).length : Nat) := q.2.2.2.2.2.1
  obtain ⟨r1, r2, r3, r4, r5, -⟩ := q.2.2.2.2.2.2.1
  have e1 : cm_w (s.1 4128 - 1) = K.length := by rw [h5, List.length_cons, cm_w_id (by omega) (by omega)]; omega
  have hk : (0 : Int) ≤ K.length ∧ (K.length : Int) < 900 := by omega
  have q1 := rR_po q
  simp only at r1 r2 r3 r4 r5
  refine RO_from (s1 := cm_p s 4128 K.length) (rFm_p (rFm_rf s) (by omega)) ?_
  rw [cS_178, cF_178_0]
  simp only [e1, if_pos hk, r1, r2, r3, r4, r5]
  exact RO_tail (h _ q1)

theorem rd_36 {e d rn pu : Int} {lf : Bool} {V : List tT} {K : List rTs} {S : List rSg} {s : cm_S} {a b c x : Int} (q : rR tx n (e, d, rn, pu, lf, V, (36, a, b, c, x) :: K, S) s) (hK : (K.length : Int) ≤ 890) {G : cm_S → Prop} (h : ∀ s, rR tx n (e, d, rn, pu, lf, V, K, S) s → RO s (cm_sem 219 [.inr (.inl 41), .inl a] s) G) : RO s (cm_sem 178 [.inr (.inl 41)] s) G := by
  have h5 : s.1 4128 = ((((36, a, b, c, x) : rTs) :: K).length : Nat) := q.2.2.2.2.2.1
  obtain ⟨r1, r2, r3, r4, r5, -⟩ := q.2.2.2.2.2.2.1
  have e1 : cm_w (s.1 4128 - 1) = K.length := by rw [h5, List.length_cons, cm_w_id (by omega) (by omega)]; omega
  have hk : (0 : Int) ≤ K.length ∧ (K.length : Int) < 900 := by omega
  have q1 := rR_po q
  simp only at r1 r2 r3 r4 r5
  refine RO_from (s1 := cm_p s 4128 K.length) (rFm_p (rFm_rf s) (by omega)) ?_
  rw [cS_178, cF_178_0]
  simp only [e1, if_pos hk, r1, r2, r3, r4]
  exact RO_tail (h _ q1)

theorem rd_37 {e d rn pu : Int} {lf : Bool} {V : List tT} {K : List rTs} {S : List rSg} {s : cm_S} {a b c x : Int} (q : rR tx n (e, d, rn, pu, lf, V, (37, a, b, c, x) :: K, S) s) (hK : (K.length : Int) ≤ 890) {G : cm_S → Prop} (h : ∀ s, rR tx n (e, d, rn, pu, lf, V, K, S) s → RO s (cm_sem 220 [.inr (.inl 41)] s) G) : RO s (cm_sem 178 [.inr (.inl 41)] s) G := by
  have h5 : s.1 4128 = ((((37, a, b, c, x) : rTs) :: K).length : Nat) := q.2.2.2.2.2.1
  obtain ⟨r1, r2, r3, r4, r5, -⟩ := q.2.2.2.2.2.2.1
  have e1 : cm_w (s.1 4128 - 1) = K.length := by rw [h5, List.length_cons, cm_w_id (by omega) (by omega)]; omega
  have hk : (0 : Int) ≤ K.length ∧ (K.length : Int) < 900 := by omega
  have q1 := rR_po q
  simp only at r1 r2 r3 r4 r5
  refine RO_from (s1 := cm_p s 4128 K.length) (rFm_p (rFm_rf s) (by omega)) ?_
  rw [cS_178, cF_178_0]
  simp only [e1, if_pos hk, r1, r2, r3, r4]
  exact RO_tail (h _ q1)

theorem rd_38 {e d rn pu : Int} {lf : Bool} {V : List tT} {K : List rTs} {S : List rSg} {s : cm_S} {a b c x : Int} (q : rR tx n (e, d, rn, pu, lf, V, (38, a, b, c, x) :: K, S) s) (hK : (K.length : Int) ≤ 890) {G : cm_S → Prop} (h : ∀ s, rR tx n (e, d, rn, pu, lf, V, K, S) s → RO s (cm_sem 221 [.inr (.inl 41)] s) G) : RO s (cm_sem 178 [.inr (.inl 41)] s) G := by
  have h5 : s.1 4128 = ((((38, a, b, c, x) : rTs) :: K).length : Nat) := q.2.2.2.2.2.1
  obtain ⟨r1, r2, r3, r4, r5, -⟩ := q.2.2.2.2.2.2.1
  have e1 : cm_w (s.1 4128 - 1) = K.length := by rw [h5, List.length_cons, cm_w_id (by omega) (by omega)]; omega
  have hk : (0 : Int) ≤ K.length ∧ (K.length : Int) < 900 := by omega
  have q1 := rR_po q
  simp only at r1 r2 r3 r4 r5
  refine RO_from (s1 := cm_p s 4128 K.length) (rFm_p (rFm_rf s) (by omega)) ?_
  rw [cS_178, cF_178_0]
  simp only [e1, if_pos hk, r1, r2, r3, r4]
  exact RO_tail (h _ q1)

theorem rd_39 {e d rn pu : Int} {lf : Bool} {V : List tT} {K : List rTs} {S : List rSg} {s : cm_S} {a b c x : Int} (q : rR tx n (e, d, rn, pu, lf, V, (39, a, b, c, x) :: K, S) s) (hK : (K.length : Int) ≤ 890) {G : cm_S → Prop} (h : ∀ s, rR tx n (e, d, rn, pu, lf, V, K, S) s → RO s (cm_sem 222 [.inr (.inl 41), .inl a, .inl b] s) G) : RO s (cm_sem 178 [.inr (.inl 41)] s) G := by
  have h5 : s.1 4128 = ((((39, a, b, c, x) : rTs) :: K).length : Nat) := q.2.2.2.2.2.1
  obtain ⟨r1, r2, r3, r4, r5, -⟩ := q.2.2.2.2.2.2.1
  have e1 : cm_w (s.1 4128 - 1) = K.length := by rw [h5, List.length_cons, cm_w_id (by omega) (by omega)]; omega
  have hk : (0 : Int) ≤ K.length ∧ (K.length : Int) < 900 := by omega
  have q1 := rR_po q
  simp only at r1 r2 r3 r4 r5
  refine RO_from (s1 := cm_p s 4128 K.length) (rFm_p (rFm_rf s) (by omega)) ?_
  rw [cS_178, cF_178_0]
  simp only [e1, if_pos hk, r1, r2, r3, r4]
  exact RO_tail (h _ q1)

theorem rd_400 {e d rn pu : Int} {lf : Bool} {V : List tT} {K : List rTs} {S : List rSg} {s : cm_S} {a b c x : Int} (q : rR tx n (e, d, rn, pu, lf, V, (40, a, b, 0, x) :: K, S) s) (hK : (K.length : Int) ≤ 890) {G : cm_S → Prop} (h : ∀ s, rR tx n (e, d, rn, pu, lf, V, K, S) s → RO s (cm_sem 224 [.inr (.inl 41), .inl a, .inl b, .inl 0] s) G) : RO s (cm_sem 178 [.inr (.inl 41)] s) G := by
  have h5 : s.1 4128 = ((((40, a, b, 0, x) : rTs) :: K).length : Nat) := q.2.2.2.2.2.1
  obtain ⟨r1, r2, r3, r4, r5, -⟩ := q.2.2.2.2.2.2.1
  have e1 : cm_w (s.1 4128 - 1) = K.length := by rw [h5, List.length_cons, cm_w_id (by omega) (by omega)]; omega
  have hk : (0 : Int) ≤ K.length ∧ (K.length : Int) < 900 := by omega
  have q1 := rR_po q
  simp only at r1 r2 r3 r4 r5
  refine RO_from (s1 := cm_p s 4128 K.length) (rFm_p (rFm_rf s) (by omega)) ?_
  rw [cS_178, cF_178_0]
  simp only [e1, if_pos hk, r1, r2, r3, r4]
  exact RO_tail (h _ q1)

theorem rd_401 {e d rn pu : Int} {lf : Bool} {V : List tT} {K : List rTs} {S : List rSg} {s : cm_S} {a b c x : Int} (q : rR tx n (e, d, rn, pu, lf, V, (40, a, b, 1, x) :: K, S) s) (hK : (K.length : Int) ≤ 890) {G : cm_S → Prop} (h : ∀ s, rR tx n (e, d, rn, pu, lf, V, K, S) s → RO s (cm_sem 224 [.inr (.inl 41), .inl a, .inl b, .inl 1] s) G) : RO s (cm_sem 178 [.inr (.inl 41)] s) G := by
  have h5 : s.1 4128 = ((((40, a, b, 1, x) : rTs) :: K).length : Nat) := q.2.2.2.2.2.1
  obtain ⟨r1, r2, r3, r4, r5, -⟩ := q.2.2.2.2.2.2.1
  have e1 : cm_w (s.1 4128 - 1) = K.length := by rw [h5, List.length_cons, cm_w_id (by omega) (by omega)]; omega
  have hk : (0 : Int) ≤ K.length ∧ (K.length : Int) < 900 := by omega
  have q1 := rR_po q
  simp only at r1 r2 r3 r4 r5
  refine RO_from (s1 := cm_p s 4128 K.length) (rFm_p (rFm_rf s) (by omega)) ?_
  rw [cS_178, cF_178_0]
  simp only [e1, if_pos hk, r1, r2, r3, r4]
  exact RO_tail (h _ q1)

theorem rd_41 {e d rn pu : Int} {lf : Bool} {V : List tT} {K : List rTs} {S : List rSg} {s : cm_S} {a b c x : Int} (q : rR tx n (e, d, rn, pu, lf, V, (41, a, b, c, x) :: K, S) s) (hK : (K.length : Int) ≤ 890) {G : cm_S → Prop} (h : ∀ s, rR tx n (e, d, rn, pu, lf, V, K, S) s → RO s (cm_sem 223 [.inr (.inl 41)] s) G) : RO s (cm_sem 178 [.inr (.inl 41)] s) G := by
  have h5 : s.1 4128 = ((((41, a, b, c, x) : rTs) :: K).length : Nat) := q.2.2.2.2.2.1
  obtain ⟨r1, r2, r3, r4, r5, -⟩ := q.2.2.2.2.2.2.1
  have e1 : cm_w (s.1 4128 - 1) = K.length := by rw [h5, List.length_cons, cm_w_id (by omega) (by omega)]; omega
  have hk : (0 : Int) ≤ K.length ∧ (K.length : Int) < 900 := by omega
  have q1 := rR_po q
  simp only at r1 r2 r3 r4 r5
  refine RO_from (s1 := cm_p s 4128 K.length) (rFm_p (rFm_rf s) (by omega)) ?_
  rw [cS_178, cF_178_0]
  simp only [e1, if_pos hk, r1, r2, r3, r4]
  exact RO_tail (h _ q1)

theorem rd_8 {e d rn pu : Int} {lf : Bool} {V : List tT} {K : List rTs} {S : List rSg} {s : cm_S} {a b c x : Int} (q : rR tx n (e, d, rn, pu, lf, V, (8, a, b, c, x) :: K, S) s) (hK : (K.length : Int) ≤ 890) {G : cm_S → Prop} (h : ∀ s, rR tx n (e, d, rn, pu, lf, V, K, S) s → RO s (cm_sem 232 [.inr (.inl 41), .inl a, .inl b, .inl c] s) G) : RO s (cm_sem 178 [.inr (.inl 41)] s) G := by
  have h5 : s.1 4128 = ((((8, a, b, c, x) : rTs) :: K).length : Nat) := q.2.2.2.2.2.1
  obtain ⟨r1, r2, r3, r4, r5, -⟩ := q.2.2.2.2.2.2.1
  have e1 : cm_w (s.1 4128 - 1) = K.length := by rw [h5, List.length_cons, cm_w_id (by omega) (by omega)]; omega
  have hk : (0 : Int) ≤ K.length ∧ (K.length : Int) < 900 := by omega
  have q1 := rR_po q
  simp only at r1 r2 r3 r4 r5
  refine RO_from (s1 := cm_p s 4128 K.length) (rFm_p (rFm_rf s) (by omega)) ?_
  rw [cS_178, cF_178_0]
  simp only [e1, if_pos hk, r1, r2, r3, r4]
  refine RO_tail ?_
  rw [cS_231, cF_231_0]
  exact RO_tail (h _ q1)

theorem rd_9 {e d rn pu : Int} {lf : Bool} {V : List tT} {K : List rTs} {S : List rSg} {s : cm_S} {a b c x : Int} (q : rR tx n (e, d, rn, pu, lf, V, (9, a, b, c, x) :: K, S) s) (hK : (K.length : Int) ≤ 890) {G : cm_S → Prop} (h : ∀ s, rR tx n (e, d, rn, pu, lf, V, K, S) s → RO s (cm_sem 233 [.inr (.inl 41), .inl a] s) G) : RO s (cm_sem 178 [.inr (.inl 41)] s) G := by
  have h5 : s.1 4128 = ((((9, a, b, c, x) : rTs) :: K).length : Nat) := q.2.2.2.2.2.1
  obtain ⟨r1, r2, r3, r4, r5, -⟩ := q.2.2.2.2.2.2.1
  have e1 : cm_w (s.1 4128 - 1) = K.length := by rw [h5, List.length_cons, cm_w_id (by omega) (by omega)]; omega
  have hk : (0 : Int) ≤ K.length ∧ (K.length : Int) < 900 := by omega
  have q1 := rR_po q
  simp only at r1 r2 r3 r4 r5
  refine RO_from (s1 := cm_p s 4128 K.length) (rFm_p (rFm_rf s) (by omega)) ?_
  rw [cS_178, cF_178_0]
  simp only [e1, if_pos hk, r1, r2, r3, r4]
  refine RO_tail ?_
  rw [cS_231, cF_231_0]
  exact RO_tail (h _ q1)

theorem rd_10 {e d rn pu : Int} {lf : Bool} {V : List tT} {K : List rTs} {S : List rSg} {s : cm_S} {a b c x : Int} (q : rR tx n (e, d, rn, pu, lf, V, (10, a, b, c, x) :: K, S) s) (hK : (K.length : Int) ≤ 890) {G : cm_S → Prop} (h : ∀ s, rR tx n (e, d, rn, pu, lf, V, K, S) s → RO s (cm_sem 234 [.inr (.inl 41), .inl a] s) G) : RO s (cm_sem 178 [.inr (.inl 41)] s) G := by
  have h5 : s.1 4128 = ((((10, a, b, c, x) : rTs) :: K).length : Nat) := q.2.2.2.2.2.1
  obtain ⟨r1, r2, r3, r4, r5, -⟩ := q.2.2.2.2.2.2.1
  have e1 : cm_w (s.1 4128 - 1) = K.length := by rw [h5, List.length_cons, cm_w_id (by omega) (by omega)]; omega
  have hk : (0 : Int) ≤ K.length ∧ (K.length : Int) < 900 := by omega
  have q1 := rR_po q
  simp only at r1 r2 r3 r4 r5
  refine RO_from (s1 := cm_p s 4128 K.length) (rFm_p (rFm_rf s) (by omega)) ?_
  rw [cS_178, cF_178_0]
  simp only [e1, if_pos hk, r1, r2, r3, r4]
  refine RO_tail ?_
  rw [cS_231, cF_231_0]
  exact RO_tail (h _ q1)

theorem rd_11 {e d rn pu : Int} {lf : Bool} {V : List tT} {K : List rTs} {S : List rSg} {s : cm_S} {a b c x : Int} (q : rR tx n (e, d, rn, pu, lf, V, (11, a, b, c, x) :: K, S) s) (hK : (K.length : Int) ≤ 890) {G : cm_S → Prop} (h : ∀ s, rR tx n (e, d, rn, pu, lf, V, K, S) s → RO s (cm_sem 236 [.inr (.inl 41), .inl a, .inl b] s) G) : RO s (cm_sem 178 [.inr (.inl 41)] s) G := by
  have h5 : s.1 4128 = ((((11, a, b, c, x) : rTs) :: K).length : Nat) := q.2.2.2.2.2.1
  obtain ⟨r1, r2, r3, r4, r5, -⟩ := q.2.2.2.2.2.2.1
  have e1 : cm_w (s.1 4128 - 1) = K.length := by rw [h5, List.length_cons, cm_w_id (by omega) (by omega)]; omega
  have hk : (0 : Int) ≤ K.length ∧ (K.length : Int) < 900 := by omega
  have q1 := rR_po q
  simp only at r1 r2 r3 r4 r5
  refine RO_from (s1 := cm_p s 4128 K.length) (rFm_p (rFm_rf s) (by omega)) ?_
  rw [cS_178, cF_178_0]
  simp only [e1, if_pos hk, r1, r2, r3, r4]
  refine RO_tail ?_
  rw [cS_231, cF_231_0]
  exact RO_tail (h _ q1)

theorem rd_120 {e d rn pu : Int} {lf : Bool} {V : List tT} {K : List rTs} {S : List rSg} {s : cm_S} {a b c x : Int} (q : rR tx n (e, d, rn, pu, lf, V, (12, 0, b, c, x) :: K, S) s) (hK : (K.length : Int) ≤ 890) {G : cm_S → Prop} (h : ∀ s, rR tx n (e, d, rn, pu, lf, V, K, S) s → RO s (cm_sem 239 [.inr (.inl 41), .inl 0] s) G) : RO s (cm_sem 178 [.inr (.inl 41)] s) G := by
  have h5 : s.1 4128 = ((((12, 0, b, c, x) : rTs) :: K).length : Nat) := q.2.2.2.2.2.1
  obtain ⟨r1, r2, r3, r4, r5, -⟩ := q.2.2.2.2.2.2.1
  have e1 : cm_w (s.1 4128 - 1) = K.length := by rw [h5, List.length_cons, cm_w_id (by omega) (by omega)]; omega
  have hk : (0 : Int) ≤ K.length ∧ (K.length : Int) < 900 := by omega
  have q1 := rR_po q
  simp only at r1 r2 r3 r4 r5
  refine RO_from (s1 := cm_p s 4128 K.length) (rFm_p (rFm_rf s) (by omega)) ?_
  rw [cS_178, cF_178_0]
  simp only [e1, if_pos hk, r1, r2, r3, r4]
  refine RO_tail ?_
  rw [cS_231, cF_231_0]
  exact RO_tail (h _ q1)

theorem rd_121 {e d rn pu : Int} {lf : Bool} {V : List tT} {K : List rTs} {S : List rSg} {s : cm_S} {a b c x : Int} (q : rR tx n (e, d, rn, pu, lf, V, (12, 1, b, c, x) :: K, S) s) (hK : (K.length : Int) ≤ 890) {G : cm_S → Prop} (h : ∀ s, rR tx n (e, d, rn, pu, lf, V, K, S) s → RO s (cm_sem 239 [.inr (.inl 41), .inl 1] s) G) : RO s (cm_sem 178 [.inr (.inl 41)] s) G := by
  have h5 : s.1 4128 = ((((12, 1, b, c, x) : rTs) :: K).length : Nat) := q.2.2.2.2.2.1
  obtain ⟨r1, r2, r3, r4, r5, -⟩ := q.2.2.2.2.2.2.1
  have e1 : cm_w (s.1 4128 - 1) = K.length := by rw [h5, List.length_cons, cm_w_id (by omega) (by omega)]; omega
  have hk : (0 : Int) ≤ K.length ∧ (K.length : Int) < 900 := by omega
  have q1 := rR_po q
  simp only at r1 r2 r3 r4 r5
  refine RO_from (s1 := cm_p s 4128 K.length) (rFm_p (rFm_rf s) (by omega)) ?_
  rw [cS_178, cF_178_0]
  simp only [e1, if_pos hk, r1, r2, r3, r4]
  refine RO_tail ?_
  rw [cS_231, cF_231_0]
  exact RO_tail (h _ q1)

theorem rd_13 {e d rn pu : Int} {lf : Bool} {V : List tT} {K : List rTs} {S : List rSg} {s : cm_S} {a b c x : Int} (q : rR tx n (e, d, rn, pu, lf, V, (13, a, b, c, x) :: K, S) s) (hK : (K.length : Int) ≤ 890) {G : cm_S → Prop} (h : ∀ s, rR tx n (e, d, rn, pu, lf, V, K, S) s → RO s (cm_sem 240 [.inr (.inl 41)] s) G) : RO s (cm_sem 178 [.inr (.inl 41)] s) G := by
  have h5 : s.1 4128 = ((((13, a, b, c, x) : rTs) :: K).length : Nat) := q.2.2.2.2.2.1
  obtain ⟨r1, r2, r3, r4, r5, -⟩ := q.2.2.2.2.2.2.1
  have e1 : cm_w (s.1 4128 - 1) = K.length := by rw [h5, List.length_cons, cm_w_id (by omega) (by omega)]; omega
  have hk : (0 : Int) ≤ K.length ∧ (K.length : Int) < 900 := by omega
  have q1 := rR_po q
  simp only at r1 r2 r3 r4 r5
  refine RO_from (s1 := cm_p s 4128 K.length) (rFm_p (rFm_rf s) (by omega)) ?_
  rw [cS_178, cF_178_0]
  simp only [e1, if_pos hk, r1, r2, r3, r4]
  refine RO_tail ?_
  rw [cS_231, cF_231_0]
  exact RO_tail (h _ q1)

theorem rd_14 {e d rn pu : Int} {lf : Bool} {V : List tT} {K : List rTs} {S : List rSg} {s : cm_S} {a b c x : Int} (q : rR tx n (e, d, rn, pu, lf, V, (14, a, b, c, x) :: K, S) s) (hK : (K.length : Int) ≤ 890) {G : cm_S → Prop} (h : ∀ s, rR tx n (e, d, rn, pu, lf, V, K, S) s → RO s (cm_sem 241 [.inr (.inl 41), .inl 1] s) G) : RO s (cm_sem 178 [.inr (.inl 41)] s) G := by
  have h5 : s.1 4128 = ((((14, a, b, c, x) : rTs) :: K).length : Nat) := q.2.2.2.2.2.1
  obtain ⟨r1, r2, r3, r4, r5, -⟩ := q.2.2.2.2.2.2.1
  have e1 : cm_w (s.1 4128 - 1) = K.length := by rw [h5, List.length_cons, cm_w_id (by omega) (by omega)]; omega
  have hk : (0 : Int) ≤ K.length ∧ (K.length : Int) < 900 := by omega
  have q1 := rR_po q
  simp only at r1 r2 r3 r4 r5
  refine RO_from (s1 := cm_p s 4128 K.length) (rFm_p (rFm_rf s) (by omega)) ?_
  rw [cS_178, cF_178_0]
  simp only [e1, if_pos hk, r1, r2, r3, r4]
  refine RO_tail ?_
  rw [cS_231, cF_231_0]
  exact RO_tail (h _ q1)

theorem rd_15 {e d rn pu : Int} {lf : Bool} {V : List tT} {K : List rTs} {S : List rSg} {s : cm_S} {a b c x : Int} (q : rR tx n (e, d, rn, pu, lf, V, (15, a, b, c, x) :: K, S) s) (hK : (K.length : Int) ≤ 890) {G : cm_S → Prop} (h : ∀ s, rR tx n (e, d, rn, pu, lf, V, K, S) s → RO s (cm_sem 242 [.inr (.inl 41)] s) G) : RO s (cm_sem 178 [.inr (.inl 41)] s) G := by
  have h5 : s.1 4128 = ((((15, a, b, c, x) : rTs) :: K).length : Nat) := q.2.2.2.2.2.1
  obtain ⟨r1, r2, r3, r4, r5, -⟩ := q.2.2.2.2.2.2.1
  have e1 : cm_w (s.1 4128 - 1) = K.length := by rw [h5, List.length_cons, cm_w_id (by omega) (by omega)]; omega
  have hk : (0 : Int) ≤ K.length ∧ (K.length : Int) < 900 := by omega
  have q1 := rR_po q
  simp only at r1 r2 r3 r4 r5
  refine RO_from (s1 := cm_p s 4128 K.length) (rFm_p (rFm_rf s) (by omega)) ?_
  rw [cS_178, cF_178_0]
  simp only [e1, if_pos hk, r1, r2, r3, r4]
  refine RO_tail ?_
  rw [cS_231, cF_231_0]
  exact RO_tail (h _ q1)

theorem rd_16 {e d rn pu : Int} {lf : Bool} {V : List tT} {K : List rTs} {S : List rSg} {s : cm_S} {a b c x : Int} (q : rR tx n (e, d, rn, pu, lf, V, (16, a, b, c, x) :: K, S) s) (hK : (K.length : Int) ≤ 890) {G : cm_S → Prop} (h : ∀ s, rR tx n (e, d, rn, pu, lf, V, K, S) s → RO s (cm_sem 243 [.inr (.inl 41), .inl a] s) G) : RO s (cm_sem 178 [.inr (.inl 41)] s) G := by
  have h5 : s.1 4128 = ((((16, a, b, c, x) : rTs) :: K).length : Nat) := q.2.2.2.2.2.1
  obtain ⟨r1, r2, r3, r4, r5, -⟩ := q.2.2.2.2.2.2.1
  have e1 : cm_w (s.1 4128 - 1) = K.length := by rw [h5, List.length_cons, cm_w_id (by omega) (by omega)]; omega
  have hk : (0 : Int) ≤ K.length ∧ (K.length : Int) < 900 := by omega
  have q1 := rR_po q
  simp only at r1 r2 r3 r4 r5
  refine RO_from (s1 := cm_p s 4128 K.length) (rFm_p (rFm_rf s) (by omega)) ?_
  rw [cS_178, cF_178_0]
  simp only [e1, if_pos hk, r1, r2, r3, r4]
  refine RO_tail ?_
  rw [cS_231, cF_231_0]
  exact RO_tail (h _ q1)

theorem rd_17 {e d rn pu : Int} {lf : Bool} {V : List tT} {K : List rTs} {S : List rSg} {s : cm_S} {a b c x : Int} (q : rR tx n (e, d, rn, pu, lf, V, (17, a, b, c, x) :: K, S) s) (hK : (K.length : Int) ≤ 890) {G : cm_S → Prop} (h : ∀ s, rR tx n (e, d, rn, pu, lf, V, K, S) s → RO s (cm_sem 244 [.inr (.inl 41), .inl a, .inl b] s) G) : RO s (cm_sem 178 [.inr (.inl 41)] s) G := by
  have h5 : s.1 4128 = ((((17, a, b, c, x) : rTs) :: K).length : Nat) := q.2.2.2.2.2.1
  obtain ⟨r1, r2, r3, r4, r5, -⟩ := q.2.2.2.2.2.2.1
  have e1 : cm_w (s.1 4128 - 1) = K.length := by rw [h5, List.length_cons, cm_w_id (by omega) (by omega)]; omega
  have hk : (0 : Int) ≤ K.length ∧ (K.length : Int) < 900 := by omega
  have q1 := rR_po q
  simp only at r1 r2 r3 r4 r5
  refine RO_from (s1 := cm_p s 4128 K.length) (rFm_p (rFm_rf s) (by omega)) ?_
  rw [cS_178, cF_178_0]
  simp only [e1, if_pos hk, r1, r2, r3, r4]
  refine RO_tail ?_
  rw [cS_231, cF_231_0]
  exact RO_tail (h _ q1)

theorem rd_18 {e d rn pu : Int} {lf : Bool} {V : List tT} {K : List rTs} {S : List rSg} {s : cm_S} {a b c x : Int} (q : rR tx n (e, d, rn, pu, lf, V, (18, a, b, c, x) :: K, S) s) (hK : (K.length : Int) ≤ 890) {G : cm_S → Prop} (h : ∀ s, rR tx n (e, d, rn, pu, lf, V, K, S) s → RO s (cm_sem 245 [.inr (.inl 41), .inl a, .inl b, .inl c] s) G) : RO s (cm_sem 178 [.inr (.inl 41)] s) G := by
  have h5 : s.1 4128 = ((((18, a, b, c, x) : rTs) :: K).length : Nat) := q.2.2.2.2.2.1
  obtain ⟨r1, r2, r3, r4, r5, -⟩ := q.2.2.2.2.2.2.1
  have e1 : cm_w (s.1 4128 - 1) = K.length := by rw [h5, List.length_cons, cm_w_id (by omega) (by omega)]; omega
  have hk : (0 : Int) ≤ K.length ∧ (K.length : Int) < 900 := by omega
  have q1 := rR_po q
  simp only at r1 r2 r3 r4 r5
  refine RO_from (s1 := cm_p s 4128 K.length) (rFm_p (rFm_rf s) (by omega)) ?_
  rw [cS_178, cF_178_0]
  simp only [e1, if_pos hk, r1, r2, r3, r4]
  refine RO_tail ?_
  rw [cS_231, cF_231_0]
  exact RO_tail (h _ q1)

theorem rd_19 {e d rn pu : Int} {lf : Bool} {V : List tT} {K : List rTs} {S : List rSg} {s : cm_S} {a b c x : Int} (q : rR tx n (e, d, rn, pu, lf, V, (19, a, b, c, x) :: K, S) s) (hK : (K.length : Int) ≤ 890) {G : cm_S → Prop} (h : ∀ s, rR tx n (e, d, rn, pu, lf, V, K, S) s → RO s (cm_sem 246 [.inr (.inl 41), .inl a, .inl b, .inl c] s) G) : RO s (cm_sem 178 [.inr (.inl 41)] s) G := by
  have h5 : s.1 4128 = ((((19, a, b, c, x) : rTs) :: K).length : Nat) := q.2.2.2.2.2.1
  obtain ⟨r1, r2, r3, r4, r5, -⟩ := q.2.2.2.2.2.2.1
  have e1 : cm_w (s.1 4128 - 1) = K.length := by rw [h5, List.length_cons, cm_w_id (by omega) (by omega)]; omega
  have hk : (0 : Int) ≤ K.length ∧ (K.length : Int) < 900 := by omega
  have q1 := rR_po q
  simp only at r1 r2 r3 r4 r5
  refine RO_from (s1 := cm_p s 4128 K.length) (rFm_p (rFm_rf s) (by omega)) ?_
  rw [cS_178, cF_178_0]
  simp only [e1, if_pos hk, r1, r2, r3, r4]
  refine RO_tail ?_
  rw [cS_231, cF_231_0]
  exact RO_tail (h _ q1)

theorem rd_20E {e d rn pu : Int} {lf : Bool} {V : List tT} {K : List rTs} {S : List rSg} {s : cm_S} {a b c x : Int} (q : rR tx n (e, d, rn, pu, lf, V, (20, a, b, c, x) :: K, S) s) (hK : (K.length : Int) ≤ 890) {G : cm_S → Prop} (h : ∀ s, rR tx n (e, d, rn, pu, lf, V, K, S) s → RO s (cm_sem 247 [.inr (.inl 41)] s) G) : RO s (cm_sem 178 [.inr (.inl 41)] s) G := by
  have h5 : s.1 4128 = ((((20, a, b, c, x) : rTs) :: K).length : Nat) := q.2.2.2.2.2.1
  obtain ⟨r1, r2, r3, r4, r5, -⟩ := q.2.2.2.2.2.2.1
  have e1 : cm_w (s.1 4128 - 1) = K.length := by rw [h5, List.length_cons, cm_w_id (by omega) (by omega)]; omega
  have hk : (0 : Int) ≤ K.length ∧ (K.length : Int) < 900 := by omega
  have q1 := rR_po q
  simp only at r1 r2 r3 r4 r5
  refine RO_from (s1 := cm_p s 4128 K.length) (rFm_p (rFm_rf s) (by omega)) ?_
  rw [cS_178, cF_178_0]
  simp only [e1, if_pos hk, r1, r2, r3, r4]
  refine RO_tail ?_
  rw [cS_231, cF_231_0]
  exact RO_tail (h _ q1)

theorem rd_21E {e d rn pu : Int} {lf : Bool} {V : List tT} {K : List rTs} {S : List rSg} {s : cm_S} {a b c x : Int} (q : rR tx n (e, d, rn, pu, lf, V, (21, a, b, c, x) :: K, S) s) (hK : (K.length : Int) ≤ 890) {G : cm_S → Prop} (h : ∀ s, rR tx n (e, d, rn, pu, lf, V, K, S) s → RO s (cm_sem 248 [.inr (.inl 41), .inl a, .inl b] s) G) : RO s (cm_sem 178 [.inr (.inl 41)] s) G := by
  have h5 : s.1 4128 = ((((21, a, b, c, x) : rTs) :: K).length : Nat) := q.2.2.2.2.2.1
  obtain ⟨r1, r2, r3, r4, r5, -⟩ := q.2.2.2.2.2.2.1
  have e1 : cm_w (s.1 4128 - 1) = K.length := by rw [h5, List.length_cons, cm_w_id (by omega) (by omega)]; omega
  have hk : (0 : Int) ≤ K.length ∧ (K.length : Int) < 900 := by omega
  have q1 := rR_po q
  simp only at r1 r2 r3 r4 r5
  refine RO_from (s1 := cm_p s 4128 K.length) (rFm_p (rFm_rf s) (by omega)) ?_
  rw [cS_178, cF_178_0]
  simp only [e1, if_pos hk, r1, r2, r3, r4]
  refine RO_tail ?_
  rw [cS_231, cF_231_0]
  exact RO_tail (h _ q1)

theorem rd_22 {e d rn pu : Int} {lf : Bool} {V : List tT} {K : List rTs} {S : List rSg} {s : cm_S} {a b c x : Int} (q : rR tx n (e, d, rn, pu, lf, V, (22, a, b, c, x) :: K, S) s) (hK : (K.length : Int) ≤ 890) {G : cm_S → Prop} (h : ∀ s, rR tx n (e, d, rn, pu, lf, V, K, S) s → RO s (cm_sem 249 [.inr (.inl 41), .inl a, .inl b] s) G) : RO s (cm_sem 178 [.inr (.inl 41)] s) G := by
  have h5 : s.1 4128 = ((((22, a, b, c, x) : rTs) :: K).length : Nat) := q.2.2.2.2.2.1
  obtain ⟨r1, r2, r3, r4, r5, -⟩ := q.2.2.2.2.2.2.1
  have e1 : cm_w (s.1 4128 - 1) = K.length := by rw [h5, List.length_cons, cm_w_id (by omega) (by omega)]; omega
  have hk : (0 : Int) ≤ K.length ∧ (K.length : Int) < 900 := by omega
  have q1 := rR_po q
  simp only at r1 r2 r3 r4 r5
  refine RO_from (s1 := cm_p s 4128 K.length) (rFm_p (rFm_rf s) (by omega)) ?_
  rw [cS_178, cF_178_0]
  simp only [e1, if_pos hk, r1, r2, r3, r4]
  refine RO_tail ?_
  rw [cS_231, cF_231_0]
  exact RO_tail (h _ q1)

theorem rd_23 {e d rn pu : Int} {lf : Bool} {V : List tT} {K : List rTs} {S : List rSg} {s : cm_S} {a b c x : Int} (q : rR tx n (e, d, rn, pu, lf, V, (23, a, b, c, x) :: K, S) s) (hK : (K.length : Int) ≤ 890) {G : cm_S → Prop} (h : ∀ s, rR tx n (e, d, rn, pu, lf, V, K, S) s → RO s (cm_sem 250 [.inr (.inl 41), .inl a, .inl b] s) G) : RO s (cm_sem 178 [.inr (.inl 41)] s) G := by
  have h5 : s.1 4128 = ((((23, a, b, c, x) : rTs) :: K).length : Nat) := q.2.2.2.2.2.1
  obtain ⟨r1, r2, r3, r4, r5, -⟩ := q.2.2.2.2.2.2.1
  have e1 : cm_w (s.1 4128 - 1) = K.length := by rw [h5, List.length_cons, cm_w_id (by omega) (by omega)]; omega
  have hk : (0 : Int) ≤ K.length ∧ (K.length : Int) < 900 := by omega
  have q1 := rR_po q
  simp only at r1 r2 r3 r4 r5
  refine RO_from (s1 := cm_p s 4128 K.length) (rFm_p (rFm_rf s) (by omega)) ?_
  rw [cS_178, cF_178_0]
  simp only [e1, if_pos hk, r1, r2, r3, r4]
  refine RO_tail ?_
  rw [cS_231, cF_231_0]
  exact RO_tail (h _ q1)

theorem rd_24 {e d rn pu : Int} {lf : Bool} {V : List tT} {K : List rTs} {S : List rSg} {s : cm_S} {a b c x : Int} (q : rR tx n (e, d, rn, pu, lf, V, (24, a, b, c, x) :: K, S) s) (hK : (K.length : Int) ≤ 890) {G : cm_S → Prop} (h : ∀ s, rR tx n (e, d, rn, pu, lf, V, K, S) s → RO s (cm_sem 251 [.inr (.inl 41), .inl a, .inl b] s) G) : RO s (cm_sem 178 [.inr (.inl 41)] s) G := by
  have h5 : s.1 4128 = ((((24, a, b, c, x) : rTs) :: K).length : Nat) := q.2.2.2.2.2.1
  obtain ⟨r1, r2, r3, r4, r5, -⟩ := q.2.2.2.2.2.2.1
  have e1 : cm_w (s.1 4128 - 1) = K.length := by rw [h5, List.length_cons, cm_w_id (by omega) (by omega)]; omega
  have hk : (0 : Int) ≤ K.length ∧ (K.length : Int) < 900 := by omega
  have q1 := rR_po q
  simp only at r1 r2 r3 r4 r5
  refine RO_from (s1 := cm_p s 4128 K.length) (rFm_p (rFm_rf s) (by omega)) ?_
  rw [cS_178, cF_178_0]
  simp only [e1, if_pos hk, r1, r2, r3, r4]
  refine RO_tail ?_
  rw [cS_231, cF_231_0]
  exact RO_tail (h _ q1)

theorem rd_28 {e d rn pu : Int} {lf : Bool} {V : List tT} {K : List rTs} {S : List rSg} {s : cm_S} {a b c x : Int} (q : rR tx n (e, d, rn, pu, lf, V, (28, a, b, c, x) :: K, S) s) (hK : (K.length : Int) ≤ 890) {G : cm_S → Prop} (h : ∀ s, rR tx n (e, d, rn, pu, lf, V, K, S) s → RO s (cm_sem 252 [.inr (.inl 41)] s) G) : RO s (cm_sem 178 [.inr (.inl 41)] s) G := by
  have h5 : s.1 4128 = ((((28, a, b, c, x) : rTs) :: K).length : Nat) := q.2.2.2.2.2.1
  obtain ⟨r1, r2, r3, r4, r5, -⟩ := q.2.2.2.2.2.2.1
  have e1 : cm_w (s.1 4128 - 1) = K.length := by rw [h5, List.length_cons, cm_w_id (by omega) (by omega)]; omega
  have hk : (0 : Int) ≤ K.length ∧ (K.length : Int) < 900 := by omega
  have q1 := rR_po q
  simp only at r1 r2 r3 r4 r5
  refine RO_from (s1 := cm_p s 4128 K.length) (rFm_p (rFm_rf s) (by omega)) ?_
  rw [cS_178, cF_178_0]
  simp only [e1, if_pos hk, r1, r2, r3, r4]
  refine RO_tail ?_
  rw [cS_231, cF_231_0]
  exact RO_tail (h _ q1)
end TX33
