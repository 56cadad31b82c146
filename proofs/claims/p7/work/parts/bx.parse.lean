/-! ===== parse() on both sides ===== -/
def q6 (s : cm_S) (x a0 a1 a2 a3 a4 a5 : Int) : cm_S := cm_q (cm_q (cm_q (cm_q (cm_q (cm_q s 67 (6 * x) a0) 67 (6 * x + 1) a1) 67 (6 * x + 2) a2) 67 (6 * x + 3) a3) 67 (6 * x + 4) a4) 67 (6 * x + 5) a5
theorem q6_row {s : cm_S} {x a0 a1 a2 a3 a4 a5 : Int} {b : Nat} (h : b ≠ 67) : (q6 s x a0 a1 a2 a3 a4 a5).2 b = s.2 b := by
  unfold q6
  rw [cm_q_ne h, cm_q_ne h, cm_q_ne h, cm_q_ne h, cm_q_ne h, cm_q_ne h]
theorem q6_old {s : cm_S} {x a0 a1 a2 a3 a4 a5 j : Int} (h : j < 6 * x) : (q6 s x a0 a1 a2 a3 a4 a5).2 67 j = s.2 67 j := by
  unfold q6
  rw [cm_q_old (by omega), cm_q_old (by omega), cm_q_old (by omega), cm_q_old (by omega), cm_q_old (by omega), cm_q_old (by omega)]
theorem q6_new {s : cm_S} {x a0 a1 a2 a3 a4 a5 : Int} : (q6 s x a0 a1 a2 a3 a4 a5).2 67 (6 * x) = a0 ∧ (q6 s x a0 a1 a2 a3 a4 a5).2 67 (6 * x + 1) = a1 ∧ (q6 s x a0 a1 a2 a3 a4 a5).2 67 (6 * x + 2) = a2 ∧ (q6 s x a0 a1 a2 a3 a4 a5).2 67 (6 * x + 3) = a3 ∧ (q6 s x a0 a1 a2 a3 a4 a5).2 67 (6 * x + 4) = a4 ∧ (q6 s x a0 a1 a2 a3 a4 a5).2 67 (6 * x + 5) = a5 := by
  unfold q6
  refine ⟨?_, ?_, ?_, ?_, ?_, ?_⟩
  · rw [cm_q_old (by omega), cm_q_old (by omega), cm_q_old (by omega), cm_q_old (by omega), cm_q_old (by omega), cm_q_at, if_pos rfl]
  · rw [cm_q_old (by omega), cm_q_old (by omega), cm_q_old (by omega), cm_q_old (by omega), cm_q_at, if_pos rfl]
  · rw [cm_q_old (by omega), cm_q_old (by omega), cm_q_old (by omega), cm_q_at, if_pos rfl]
  · rw [cm_q_old (by omega), cm_q_old (by omega), cm_q_at, if_pos rfl]
  · rw [cm_q_old (by omega), cm_q_at, if_pos rfl]
  · rw [cm_q_at, if_pos rfl]
/-- a node of the tree, as the reference keeps it -/
def rRow (r : cm_S) (T : tT) (σ : Int → Int) (i : Int) : Prop := r.2 67 (6 * i) = (nLb (nT T i)).1 ∧ r.2 67 (6 * i + 1) = lbP (nLb (nT T i)) ∧ r.2 67 (6 * i + 2) = lbN (nLb (nT T i)) ∧ r.2 67 (6 * i + 3) = fLn (nCh (nT T i)) ∧ r.2 67 (6 * i + 4) = nPa (nT T i) ∧ r.2 67 (6 * i + 5) = σ i
section TXc1
variable {tx : Int → Int} {n : Int}
theorem rJ.sp {r : cm_S} {T : tT} (h : rJ tx n r T) {i : Int} (h0 : 0 ≤ i) (h1 : i < tSz T) : r.2 66 (nO T i) = i := (h.r h0 h1).1.2.1
theorem rJ.rw67 {r r' : cm_S} {T : tT} (h : rJ tx n r T) (h1 : r'.1 = r.1) (h2 : ∀ a : Nat, a ≠ 67 → r'.2 a = r.2 a) : rJ tx n r' T := by
  obtain ⟨a1, a2, a3, a4, a5⟩ := h
  exact ⟨a1, ⟨by rw [h1]; exact a2.1, fun j a b => by rw [h2 46 (by decide)]; exact a2.2 j a b⟩, rFo_fr _ _ _ _ _ (fun a i b1 b2 _ _ => by rw [h2 a (by omega)]) a3, rOr_fr _ _ _ (fun i _ _ => by rw [h2 65 (by decide)]) (fun i _ _ => by rw [h2 66 (by decide)]) a4, a5⟩
theorem st_62 {T : tT} {s : cm_S} (h : rJ tx n s T) {x z1 : Int} (o4 : Option cm_V) (h0 : 0 ≤ x) (h1 : x < tSz T) (h5 : s.2 55 (nO T x) = 0 ∨ s.2 55 (nO T x) = 1) : cm_lp cm_sem cm_k174 62 [some (.inr (.inl 41)), some (.inl z1), some (.inl (tSz T)), some (.inl x), o4] [] s = cm_lp cm_sem cm_k174 62 [some (.inr (.inl 41)), some (.inl z1), some (.inl (tSz T)), some (.inl (x + 1)), some (.inl (nO T x))] [] (q6 s x (nLb (nT T x)).1 (lbP (nLb (nT T x))) (lbN (nLb (nT T x))) (fLn (nCh (nT T x))) (nPa (nT T x)) (s.2 55 (nO T x))) := by
  have t9 := h.1
  have od := h.od h0 h1
  have o := h.no h0 h1
  have kd := h.kd h0 h1
  have pl := h.pl h0 h1
  have ln := h.ln h0 h1
  have mn := h.mn h0 h1
  have w0 : cm_w (6 * x) = 6 * x := cm_w_id (by omega) (by omega)
  have w1 : cm_w (6 * x + 1) = 6 * x + 1 := cm_w_id (by omega) (by omega)
  have w2 : cm_w (6 * x + 2) = 6 * x + 2 := cm_w_id (by omega) (by omega)
  have w3 : cm_w (6 * x + 3) = 6 * x + 3 := cm_w_id (by omega) (by omega)
  have w4 : cm_w (6 * x + 4) = 6 * x + 4 := cm_w_id (by omega) (by omega)
  have w5 : cm_w (6 * x + 5) = 6 * x + 5 := cm_w_id (by omega) (by omega)
  have wx : cm_w (x + 1) = x + 1 := cm_w_id (by omega) (by omega)
  have c0 : (0 : Int) ≤ 6 * x ∧ 6 * x < 3000 := by omega
  have c1 : (0 : Int) ≤ 6 * x + 1 ∧ 6 * x + 1 < 3000 := by omega
  have c2 : (0 : Int) ≤ 6 * x + 2 ∧ 6 * x + 2 < 3000 := by omega
  have c3 : (0 : Int) ≤ 6 * x + 3 ∧ 6 * x + 3 < 3000 := by omega
  have c4 : (0 : Int) ≤ 6 * x + 4 ∧ 6 * x + 4 < 3000 := by omega
  have c5 : (0 : Int) ≤ 6 * x + 5 ∧ 6 * x + 5 < 3000 := by omega
  have cx : (0 : Int) ≤ x ∧ x < 500 := by omega
  rw [cE_174_62, cF_174_62]
  simp only [od, kd, pl, ln, mn, w0, w1, w2, w3, w4, w5, wx, if_pos h1, if_pos cx, if_pos o, if_pos c0, if_pos c1, if_pos c2, if_pos c3, if_pos c4, if_pos c5]
  by_cases hx : x = 0
  · rw [if_pos hx]
    have p0 : nPa (nT T x) = -1 := by rw [hx]; exact nT_p0 T
    rw [p0]
    rcases h5 with e | e
    · rw [e, if_pos rfl]
      rfl
    · rw [e, if_neg (by decide)]
      rfl
  · rw [if_neg hx]
    have hm := nT_mem (T := T) (i := x) (by omega) h1
    have pa := h.pa (i := x) (by omega) h1
    have op := h.no (i := nPa (nT T x)) (by omega) (by omega)
    have sp := h.sp (i := nPa (nT T x)) (by omega) (by omega)
    rw [pa, if_pos op, sp]
    rcases h5 with e | e
    · rw [e, if_pos rfl]
      rfl
    · rw [e, if_neg (by decide)]
      rfl
theorem rl_62 {T : tT} {z1 : Int} : ∀ (k : Nat) (x : Int) (s : cm_S) (o4 : Option cm_V), rJ tx n s T → (∀ i, 0 ≤ i → i < tSz T → s.2 55 (nO T i) = 0 ∨ s.2 55 (nO T i) = 1) → 0 ≤ x → x + k = tSz T → ∃ s' o', cm_lp cm_sem cm_k174 62 [some (.inr (.inl 41)), some (.inl z1), some (.inl (tSz T)), some (.inl x), o4] [] s = cm_lp cm_sem cm_k174 62 [some (.inr (.inl 41)), some (.inl z1), some (.inl (tSz T)), some (.inl (tSz T)), o'] [] s' ∧ s'.1 = s.1 ∧ (∀ a : Nat, a ≠ 67 → s'.2 a = s.2 a) ∧ (∀ i, x ≤ i → i < tSz T → rRow s' T (fun j => s.2 55 (nO T j)) i) ∧ ∀ j, j < 6 * x → s'.2 67 j = s.2 67 j := by
  intro k
  induction k with
  | zero =>
    intro x s o4 _ _ h0 h1
    have : x = tSz T := by omega
    subst this
    exact ⟨s, o4, rfl, rfl, fun _ _ => rfl, fun i a b => by omega, fun _ _ => rfl⟩
  | succ k ih =>
    intro x s o4 h h5 h0 h1
    have st := st_62 h (z1 := z1) o4 h0 (by omega) (h5 x h0 (by omega))
    generalize hq : q6 s x (nLb (nT T x)).1 (lbP (nLb (nT T x))) (lbN (nLb (nT T x))) (fLn (nCh (nT T x))) (nPa (nT T x)) (s.2 55 (nO T x)) = sq at st
    have q1 : sq.1 = s.1 := by rw [← hq]; rfl
    have q2 : ∀ a : Nat, a ≠ 67 → sq.2 a = s.2 a := fun a ha => by rw [← hq]; exact q6_row ha
    have q3 : ∀ j, j < 6 * x → sq.2 67 j = s.2 67 j := fun j hj => by rw [← hq]; exact q6_old hj
    have q4 : rRow sq T (fun j => s.2 55 (nO T j)) x := by rw [← hq]; exact q6_new
    obtain ⟨s', o', e1, e2, e3, e4, e5⟩ := ih (x + 1) sq (some (.inl (nO T x))) (h.rw67 q1 q2) (fun i a b => by rw [q2 55 (by decide)]; exact h5 i a b) (by omega) (by omega)
    refine ⟨s', o', st.trans e1, e2.trans q1, fun a ha => (e3 a ha).trans (q2 a ha), fun i a b => ?_, fun j hj => (e5 j (by omega)).trans (q3 j hj)⟩
    by_cases q : i = x
    · subst q
      obtain ⟨b0, b1, b2, b3, b4, b5⟩ := q4
      exact ⟨(e5 _ (by omega)).trans b0, (e5 _ (by omega)).trans b1, (e5 _ (by omega)).trans b2, (e5 _ (by omega)).trans b3, (e5 _ (by omega)).trans b4, (e5 _ (by omega)).trans b5⟩
    · have := e4 i (by omega) b
      rw [q2 55 (by decide)] at this
      exact this
/-- what comes behind readAll() in the reference, where it has a tree -/
theorem r_174t (ht : tOk tx n) {r : cm_S} {T : tT} (hR : rTr r 0 (tSz T) (tSz T - 1) T) (hT : T.1.1 = 0) (g : gF tx n (fo [T])) (hx : rTx tx n r) (hf : r.1 4108 = 0) (h9 : tSz T ≤ 482) (hw : tWt T ≤ 998) (o3 o4 : Option cm_V) : ∃ (r4 : cm_S) (σ : Int → Int), stOk tx n T σ (tSz T) ∧
    ((∀ j, 0 ≤ j → j < tSz T → ¬ bad tx n T σ j) → ∃ r5, (cm_bi (cm_sem 253 [.inr (.inl 41), .inl (tSz T - 1)] r) fun z2 s2 => cm_bv (cm_sem 254 [.inr (.inl 41), .inl z2] s2) fun s3 => cm_bv (cm_sem 260 [.inr (.inl 41), .inl z2] s3) fun s4 => if 0 < (s4.1 4108) then (if 0 < (s4.1 4108) then some (.inl (some (.inl 0)), (cm_p s4 4103 1)) else cm_lp cm_sem cm_k174 62 [some (.inr (.inl 41)), some (.inl (tSz T - 1)), some (.inl z2), some (.inl 0), o4] [] (cm_p s4 4103 1)) else if 0 < (s4.1 4108) then some (.inl (some (.inl 0)), (cm_p s4 4103 0)) else cm_lp cm_sem cm_k174 62 [some (.inr (.inl 41)), some (.inl (tSz T - 1)), some (.inl z2), some (.inl 0), o4] [] (cm_p s4 4103 0)) = some (.inl (some (.inl (tSz T))), r5) ∧ rOut r5 (prT tx n T) ∧ (∀ i, 0 ≤ i → i < tSz T → rRow r5 T σ i) ∧ r5.1 4143 = tSz T ∧ r5.1 4142 = 1 ∧ r5.1 4103 = 0 ∧ r5.1 4106 = r.1 4106 ∧ r5.2 45 = r.2 45) ∧
    ((∃ j, 0 ≤ j ∧ j < tSz T ∧ bad tx n T σ j) → ∃ r5, (cm_bi (cm_sem 253 [.inr (.inl 41), .inl (tSz T - 1)] r) fun z2 s2 => cm_bv (cm_sem 254 [.inr (.inl 41), .inl z2] s2) fun s3 => cm_bv (cm_sem 260 [.inr (.inl 41), .inl z2] s3) fun s4 => if 0 < (s4.1 4108) then (if 0 < (s4.1 4108) then some (.inl (some (.inl 0)), (cm_p s4 4103 1)) else cm_lp cm_sem cm_k174 62 [some (.inr (.inl 41)), some (.inl (tSz T - 1)), some (.inl z2), some (.inl 0), o4] [] (cm_p s4 4103 1)) else if 0 < (s4.1 4108) then some (.inl (some (.inl 0)), (cm_p s4 4103 0)) else cm_lp cm_sem cm_k174 62 [some (.inr (.inl 41)), some (.inl (tSz T - 1)), some (.inl z2), some (.inl 0), o4] [] (cm_p s4 4103 0)) = some (.inl (some (.inl 0)), r5) ∧ r5.1 4103 = 1 ∧ r5.1 4143 = r.1 4143 ∧ r5.1 4142 = r.1 4142 ∧ r5.1 4106 = r.1 4106 ∧ r5.1 4148 = r.1 4148 ∧ r5.2 45 = r.2 45 ∧ r5.2 67 = r.2 67 ∧ r5.2 68 = r.2 68) := by
  obtain ⟨r2, e2, a2, b2, fo2, or2⟩ := cs_253 hR (by omega)
  have j2 : rJ tx n r2 T := ⟨h9, ⟨by rw [a2]; exact hx.1, fun j a b => by rw [b2 46 (by decide) (by decide) (by decide) (by decide)]; exact hx.2 j a b⟩, fo2, or2, g⟩
  obtain ⟨r3, e3, a3, b3, st3, j3⟩ := r_254 ht j2 hT
  have f3 : r3.1 4108 = 0 := by rw [a3, a2]; exact hf
  obtain ⟨good, badc⟩ := r_260 ht j3 hT st3 f3
  have tz := tSz_1 T
  refine ⟨r3, fun j => r3.2 55 (nO T j), st3, fun hg => ?_, fun hb => ?_⟩
  · have e4 := good hg
    rw [e2, cm_bi_i, e3, cm_bv_o, e4, cm_bv_o, if_neg (by omega), if_neg (by omega)]
    have j4 : rJ tx n (cm_p r3 4103 0) T := by
      obtain ⟨c1, c2, c3, c4, c5⟩ := j3
      exact ⟨c1, ⟨by rw [cm_p_ne (by decide)]; exact c2.1, c2.2⟩, rFo_fr (s := r3) _ _ _ _ _ (fun _ _ _ _ _ _ => rfl) c3, rOr_fr (s := r3) _ _ _ (fun _ _ _ => rfl) (fun _ _ _ => rfl) c4, c5⟩
    obtain ⟨r4, o', e5, a5, b5, c5, -⟩ := rl_62 (z1 := tSz T - 1) (tSz T).toNat 0 (cm_p r3 4103 0) o4 j4 (fun i h0 h1 => by
      have := st3 i h0 h1
      simp only at this
      show r3.2 55 (nO T i) = 0 ∨ r3.2 55 (nO T i) = 1
      omega) (Int.le_refl _) (by omega)
    rw [e5, cE_174_62, cF_174_62, if_neg (by omega)]
    have j5 : rJ tx n (cm_p r4 4143 (tSz T)) T := by
      have := j4.rw67 a5 b5
      obtain ⟨c1, c2, c3, c4, c5⟩ := this
      exact ⟨c1, ⟨by rw [cm_p_ne (by decide)]; exact c2.1, c2.2⟩, rFo_fr (s := r4) _ _ _ _ _ (fun _ _ _ _ _ _ => rfl) c3, rOr_fr (s := r4) _ _ _ (fun _ _ _ => rfl) (fun _ _ _ => rfl) c4, c5⟩
    have len := prT_len ht hT g
    obtain ⟨r6, e6, f6, o6⟩ := r_270 ht j5 hT hw (by omega)
    have n0 : nO T 0 = tSz T - 1 := by
      unfold nO nNo
      rw [nT_0]
      show (0 : Int) + fSz T.2 = 1 + fSz T.2 - 1
      omega
    rw [n0] at e6
    rw [e6, cm_bv_o]
    have k1 : ∀ j : Nat, j ≠ 4148 → j ≠ 4149 → j ≠ 4153 → j ≠ 4154 → j ≠ 4142 → j ≠ 4143 → j ≠ 4103 → (cm_p r6 4142 1).1 j = r.1 j := fun j n1 n2 n3 n4 n5 n6 n7 => by
      rw [cm_p_ne n5, f6.2 j n1 n2 n3 n4, cm_p_ne n6, a5, cm_p_ne n7, a3, a2]
    refine ⟨cm_p r6 4142 1, rfl, ⟨by rw [cm_p_ne (by decide)]; exact o6.1, by rw [cm_p_ne (by decide)]; exact o6.2.1, by rw [cm_p_ne (by decide)]; exact o6.2.2.1, rOutA_68 (s := r6) (s' := cm_p r6 4142 1) rfl _ o6.2.2.2⟩, fun i h0 h1 => ?_, ?_, cm_p_at, ?_, k1 4106 (by decide) (by decide) (by decide) (by decide) (by decide) (by decide) (by decide), ?_⟩
    · have r67 : (cm_p r6 4142 1).2 67 = r4.2 67 := by
        rw [cm_p_row, f6.1 67 (by omega)]
        rfl
      have := c5 i h0 h1
      unfold rRow at this ⊢
      rw [r67]
      exact this
    · rw [cm_p_ne (by decide), f6.2 4143 (by decide) (by decide) (by decide) (by decide), cm_p_at]
    · rw [cm_p_ne (by decide), f6.2 4103 (by decide) (by decide) (by decide) (by decide), cm_p_ne (by decide), a5, cm_p_at]
    · rw [cm_p_row, f6.1 45 (by omega), cm_p_row, b5 45 (by decide), cm_p_row, b3 45 (by decide), b2 45 (by decide) (by decide) (by decide) (by decide)]
  · obtain ⟨r4, e4, f4, a4, b4⟩ := badc hb
    rw [e2, cm_bi_i, e3, cm_bv_o, e4, cm_bv_o, if_pos f4, if_pos f4]
    have k1 : ∀ j : Nat, j ≠ 4108 → j ≠ 4109 → j ≠ 4103 → (cm_p r4 4103 1).1 j = r.1 j := fun j n1 n2 n3 => by
      rw [cm_p_ne n3, b4 j n1 n2, a3, a2]
    have k2 : ∀ a : Nat, a ≠ 51 → a ≠ 52 → a ≠ 65 → a ≠ 66 → a ≠ 55 → (cm_p r4 4103 1).2 a = r.2 a := fun a n1 n2 n3 n4 n5 => by
      rw [cm_p_row, a4, b3 a n5, b2 a n1 n2 n3 n4]
    exact ⟨_, rfl, cm_p_at, k1 4143 (by decide) (by decide) (by decide), k1 4142 (by decide) (by decide) (by decide), k1 4106 (by decide) (by decide) (by decide), k1 4148 (by decide) (by decide) (by decide), k2 45 (by decide) (by decide) (by decide) (by decide) (by decide), k2 67 (by decide) (by decide) (by decide) (by decide) (by decide), k2 68 (by decide) (by decide) (by decide) (by decide) (by decide)⟩
end TXc1
