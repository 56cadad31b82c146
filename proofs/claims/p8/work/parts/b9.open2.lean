/-! ===== the class's printer: putAhead(), open(), closeExpression(), closeStatement() ===== -/
section TX96
variable {tx : Int → Int} {n : Int}
theorem PM_pp {s : cm_S} {st : oS} {p q : Nat} (hp : 1005 ≤ p ∧ p ≤ 1036) (hq : 1005 ≤ q ∧ q ≤ 1036) : PM s (cm_bv (cm_sem 156 [.inr (.inl 37), .inr (.inl p)] s) fun s1 => cm_bv (cm_sem 156 [.inr (.inl 37), .inr (.inl q)] s1) fun s2 => some (.inl none, s2)) st [kTok p, kTok q] := PM_bv (a := [kTok p]) (b := [kTok q]) (PM_put hp) fun _ _ => PM_tl (PM_put hq)
theorem PM_qq {s : cm_S} {st : oS} {p q : Nat} (hp : 1005 ≤ p ∧ p ≤ 1036) (hq : 1005 ≤ q ∧ q ≤ 1036) : PM s (cm_bv (cm_sem 155 [.inr (.inl 37), .inl 1, .inr (.inl p)] s) fun s1 => cm_bv (cm_sem 155 [.inr (.inl 37), .inl 1, .inr (.inl q)] s1) fun s2 => some (.inl none, s2)) st [kTok p, kTok q] := PM_bv (a := [kTok p]) (b := [kTok q]) (PM_p1 hp) fun _ _ => PM_tl (PM_p1 hq)
theorem PM_00 {s : cm_S} {st : oS} {p q : Nat} : PM s (cm_bv (cm_sem 155 [.inr (.inl 37), .inl 0, .inr (.inl p)] s) fun s1 => cm_bv (cm_sem 155 [.inr (.inl 37), .inl 0, .inr (.inl q)] s1) fun s2 => some (.inl none, s2)) st [] := PM_bv (a := []) (b := []) PM_p0 fun _ _ => PM_tl PM_p0
theorem PM_no {s : cm_S} {st : oS} {r : Int} {p q : Nat} {c : Prop} [Decidable c] : PM s (if c then cm_bv (cm_sem 155 [.inr (.inl 37), .inl 0, .inr (.inl p)] s) fun s1 => some (.inl none, s1) else cm_bv (cm_sem 155 [.inr (.inl 37), .inl 0, .inr (.inl q)] s) fun s1 => some (.inl none, s1)) st [] := by
  split
  · exact PM_tl PM_p0
  · exact PM_tl PM_p0
theorem c_163 {s : cm_S} {st : oS} (k r : Int) : PM s (cm_sem 163 [.inr (.inl 37), .inl k, .inl r] s) st (ahH k r) := by
  rw [cS_163, cF_163_0]
  unfold ahH
  refine PM_ite (fun _ => PM_ite (fun _ => PM_ite (fun _ => PM_tl (PM_p1 (by decide))) fun _ => PM_tl (PM_p1 (by decide))) fun _ => PM_no (r := r)) fun _ => ?_
  refine PM_ite (fun _ => PM_ite (fun e => ?_) fun e => ?_) fun _ => ?_
  · simp only [if_pos e]
    exact PM_qq (by decide) (by decide)
  · simp only [if_neg e]
    exact PM_00
  refine PM_ite (fun _ => PM_ite (fun _ => PM_tl (PM_p1 (by decide))) fun _ => PM_tl PM_p0) fun _ => ?_
  refine PM_ite (fun _ => PM_ite (fun _ => PM_ite (fun _ => PM_tl (PM_p1 (by decide))) fun _ => PM_tl (PM_p1 (by decide))) fun _ => PM_no (r := r)) fun _ => ?_
  refine PM_ite (fun _ => PM_ite (fun _ => PM_ite (fun _ => PM_tl (PM_p1 (by decide))) fun _ => PM_tl (PM_p1 (by decide))) fun _ => PM_no (r := r)) fun _ => ?_
  refine PM_ite (fun _ => PM_ite (fun e => ?_) fun e => ?_) fun _ => PM_ret
  · simp only [if_pos e]
    exact PM_qq (by decide) (by decide)
  · simp only [if_neg e]
    exact PM_00
theorem PM_01 {s : cm_S} {st : oS} {p : Nat} (hp : 1005 ≤ p ∧ p ≤ 1036) {c : Prop} [Decidable c] : PM s (if c then cm_bv (cm_sem 155 [.inr (.inl 37), .inl 1, .inr (.inl p)] s) fun s1 => some (.inl none, s1) else cm_bv (cm_sem 155 [.inr (.inl 37), .inl 0, .inr (.inl p)] s) fun s1 => some (.inl none, s1)) st (if c then [kTok p] else []) := PM_ite (fun _ => PM_tl (PM_p1 hp)) fun _ => PM_tl PM_p0
theorem c_162 (ht : tOk tx n) {s : cm_S} {t : Nat} {T : tT} (h : cP tx n s t T) {st : oS} {i : Int} (h0 : 0 ≤ i) (h1 : i < tSz T) : PM s (cm_sem 162 [.inr (.inl 37), .inl i] s) st (ahd tx n (pL T i) (nRk (nT T i)) (nLb (nT T i)).1) := by
  have hp := (nT_p h0 h1).2
  have px : (pL T i).1 = 46 ∨ (pL T i).1 = 48 → 0 ≤ nPa (nT T i) ∧ nPa (nT T i) < tSz T ∧ pL T i = nLb (nT T (nPa (nT T i))) := fun e => by
    unfold pL at e ⊢
    split at e
    · rcases e with e | e <;> exact absurd e (by decide)
    · next q => exact ⟨by omega, by omega, if_neg q⟩
  rw [cS_162, cF_162_0]
  simp only [h.tn, if_pos h.1.cl, h.1.pa h0 h1, h.rk h0 h1, h.kp h0 h1, h.1.kd h0 h1, cm_bi_i]
  unfold ahd
  refine PM_ite (fun _ => PM_01 (by decide)) fun _ => ?_
  refine PM_ite (fun _ => PM_tl (PM_put (by decide))) fun _ => ?_
  refine PM_ite (fun _ => PM_01 (by decide)) fun _ => ?_
  have e51 : ∀ o0 o1 o2 o3, PM s (cm_lp cm_sem cm_k162 51 [o0, o1, o2, o3] [.inr (.inl 37)] s) st [] := fun o0 o1 o2 o3 => by
    rw [cE_162_51, cF_162_51]
    exact PM_tl PM_p0
  refine PM_ite (fun _ => PM_ite (fun _ => PM_ite (fun _ => PM_tl (PM_p1 (by decide))) fun _ => e51 _ _ _ _) fun _ => e51 _ _ _ _) fun _ => ?_
  refine PM_ite (fun _ => PM_ite (fun _ => PM_tl (PM_put (by decide))) fun _ => PM_01 (by decide)) fun _ => ?_
  refine PM_ite (fun _ => PM_01 (by decide)) fun _ => ?_
  refine PM_ite (fun _ => PM_01 (by decide)) fun _ => ?_
  refine PM_ite (fun _ => PM_ite (fun _ => PM_tl (PM_put (by decide))) fun _ => PM_01 (by decide)) fun _ => ?_
  refine PM_ite (fun _ => PM_ite (fun _ => ?_) fun _ => ?_) fun _ => ?_
  · rw [cE_162_82, cF_162_82]
    exact PM_tl (PM_p1 (by decide))
  · rw [cE_162_82, cF_162_82]
    exact PM_tl PM_p0
  refine PM_ite (fun _ => PM_ite (fun _ => ?_) fun _ => ?_) fun _ => ?_
  · rw [cE_162_92, cF_162_92]
    exact PM_ite (fun _ => PM_tl (PM_p1 (by decide))) fun _ => PM_tl (PM_p1 (by decide))
  · rw [cE_162_92, cF_162_92]
    exact PM_no (r := 0)
  refine PM_ite (fun _ => PM_ite (fun _ => ?_) fun _ => ?_) fun _ => ?_
  · rw [cE_162_92, cF_162_92]
    exact PM_ite (fun _ => PM_tl (PM_p1 (by decide))) fun _ => PM_tl (PM_p1 (by decide))
  · rw [cE_162_92, cF_162_92]
    exact PM_no (r := 0)
  refine PM_ite (fun e => PM_ite (fun _ => ?_) fun _ => PM_ret) fun _ => ?_
  · obtain ⟨a, b, c⟩ := px (Or.inl e)
    rw [c]
    exact PM_tl (PM_txt ht h a b)
  refine PM_ite (fun _ => PM_ite (fun _ => ?_) fun _ => ?_) fun _ => ?_
  · rw [cE_162_114, cF_162_114]
    exact PM_ite (fun _ => PM_tl (PM_p1 (by decide))) fun _ => PM_tl (PM_p1 (by decide))
  · rw [cE_162_114, cF_162_114]
    exact PM_no (r := 0)
  refine PM_ite (fun e => PM_ite (fun _ => ?_) fun _ => PM_ret) fun _ => ?_
  · obtain ⟨a, b, c⟩ := px (Or.inr e)
    rw [c]
    exact PM_tl (PM_txt ht h a b)
  exact PM_ite (fun _ => PM_01 (by decide)) fun _ => PM_tl (c_163 _ _)
/-- tokens have characters -/
theorem gT_len (ht : tOk tx n) {l : tLb} (h : gT tx n l) (hk : 31 ≤ l.1 ∧ l.1 ≤ 35 ∨ l.1 = 38 ∨ l.1 = 41 ∨ 44 ≤ l.1 ∧ l.1 ≤ 46 ∨ l.1 = 48 ∨ l.1 = 3 ∨ l.1 = 16 ∨ l.1 = 19 ∨ l.1 = 20 ∨ l.1 = 22) : 0 < lbN l := by
  obtain ⟨g1, g2, g3, g4⟩ := h
  have tk : ∀ kd, kd ≠ 0 → tkA tx n l kd → 0 < lbN l := fun kd hkd ⟨g, e, b, a1, a2, a3⟩ => by
    have := ((tok_k ht a1 a2 a3).2.2.2.1 hkd).2
    simp only at this
    omega
  by_cases c0 : l.1 = 3 ∨ l.1 = 16 ∨ l.1 = 19 ∨ l.1 = 20 ∨ l.1 = 22 ∨ l.1 = 31
  · rw [if_pos c0] at g4
    exact tk _ (by decide) g4
  rw [if_neg c0] at g4
  by_cases c1 : l.1 = 11 ∨ l.1 = 12 ∨ l.1 = 39
  · rw [if_pos c1] at g4
    omega
  rw [if_neg c1] at g4
  by_cases c2 : l.1 = 32
  · rw [if_pos c2] at g4
    exact tk _ (by decide) g4.1
  rw [if_neg c2] at g4
  by_cases c3 : l.1 = 33
  · rw [if_pos c3] at g4
    exact tk _ (by decide) g4
  rw [if_neg c3] at g4
  by_cases c4 : l.1 = 34
  · rw [if_pos c4] at g4
    exact tk _ (by decide) g4
  rw [if_neg c4] at g4
  by_cases c5 : l.1 = 35
  · rw [if_pos c5] at g4
    exact tk _ (by decide) g4
  rw [if_neg c5] at g4
  by_cases c6 : l.1 = 38
  · rw [if_pos c6] at g4
    rcases g4 with g | g | g | g <;> exact tk _ (by decide) g
  rw [if_neg c6] at g4
  by_cases c7 : l.1 = 41
  · rw [if_pos c7] at g4
    rcases g4 with g | g <;> exact tk _ (by decide) g
  rw [if_neg c7] at g4
  by_cases c8 : l.1 = 44
  · rw [if_pos c8] at g4
    exact tk _ (by decide) g4.1
  rw [if_neg c8] at g4
  by_cases c9 : l.1 = 45
  · rw [if_pos c9] at g4
    rcases g4 with g | g <;> exact tk _ (by decide) g.1
  rw [if_neg c9] at g4
  by_cases c10 : l.1 = 46
  · rw [if_pos c10] at g4
    rcases g4.1 with g | g <;> exact tk _ (by decide) g
  rw [if_neg c10] at g4
  by_cases c11 : l.1 = 48
  · rw [if_pos c11] at g4
    exact tk _ (by decide) g4
  rw [if_neg c11] at g4
  omega
theorem c_166 (ht : tOk tx n) {s : cm_S} {t : Nat} {T : tT} (h : cP tx n s t T) {st : oS} {i : Int} (h0 : 0 ≤ i) (h1 : i < tSz T) : PM s (cm_sem 166 [.inr (.inl 37), .inl i] s) st ([kTok 1022] ++ (xTk tx n (nLb (nT T i)) false ++ [kTok 1009])) := by
  rw [cS_166, cF_166_0]
  exact PM_bv (PM_put (by decide)) fun s' f' => PM_bv (PM_txt ht (h.fr f') h0 h1) fun s2 f2 => PM_tl (PM_put (by decide))
theorem c_165 (ht : tOk tx n) {s : cm_S} {t : Nat} {T : tT} (h : cP tx n s t T) {st : oS} {i : Int} (h0 : 0 ≤ i) (h1 : i < tSz T) : PM s (cm_sem 165 [.inr (.inl 37), .inl i, .inl (nLb (nT T i)).1] s) st (opE tx n (nLb (nT T i))) := by
  have gl := fun hk => gT_len ht (h.1.g h0 h1).1 hk
  rw [cS_165, cF_165_0]
  unfold opE
  refine PM_ite (fun _ => PM_tl (PM_put (by decide))) fun _ => ?_
  refine PM_ite (fun e => ?_) fun _ => ?_
  · simp only [if_neg (show ¬ (nLb (nT T i)).1 = 33 by omega), if_neg (show ¬ (nLb (nT T i)).1 = 35 by omega)]
    exact PM_txl ht h h0 h1 (gl (by omega)) false
  refine PM_ite (fun e => ?_) fun _ => ?_
  · simp only [if_neg (show ¬ (nLb (nT T i)).1 = 33 by omega), if_neg (show ¬ (nLb (nT T i)).1 = 35 by omega)]
    exact PM_txl ht h h0 h1 (gl (by omega)) false
  refine PM_ite (fun e => ?_) fun _ => ?_
  · simp only [if_pos e]
    exact PM_txl ht h h0 h1 (gl (by omega)) true
  refine PM_ite (fun e => ?_) fun _ => ?_
  · simp only [if_neg (show ¬ (nLb (nT T i)).1 = 33 by omega), if_neg (show ¬ (nLb (nT T i)).1 = 35 by omega)]
    exact PM_txl ht h h0 h1 (gl (by omega)) false
  refine PM_ite (fun e => ?_) fun _ => ?_
  · simp only [if_neg (show ¬ (nLb (nT T i)).1 = 33 by omega), if_pos e]
    exact PM_txl ht h h0 h1 (gl (by omega)) true
  refine PM_ite (fun _ => PM_tl (PM_put (by decide))) fun _ => ?_
  refine PM_ite (fun _ => PM_tl (PM_put (by decide))) fun _ => ?_
  refine PM_ite (fun _ => PM_bv (PM_txt ht h h0 h1) fun s' f' => PM_tl (PM_put (by decide))) fun _ => ?_
  refine PM_ite (fun _ => PM_tl (c_166 ht h h0 h1)) fun _ => ?_
  refine PM_ite (fun _ => PM_tl (PM_put (by decide))) fun _ => ?_
  exact PM_ite (fun _ => PM_tl (PM_txt ht h h0 h1)) fun _ => PM_ret
theorem c_168 (ht : tOk tx n) {s : cm_S} {t : Nat} {T : tT} (h : cP tx n s t T) {st : oS} {i : Int} (h0 : 0 ≤ i) (h1 : i < tSz T) : PM s (cm_sem 168 [.inr (.inl 37), .inl i, .inl (nLb (nT T i)).1] s) st (opH tx n (nLb (nT T i))) := by
  rw [cS_168, cF_168_0]
  unfold opH
  refine PM_ite (fun _ => PM_pp (by decide) (by decide)) fun _ => ?_
  refine PM_ite (fun _ => PM_tl (PM_put (by decide))) fun _ => ?_
  refine PM_ite (fun _ => PM_pp (by decide) (by decide)) fun _ => ?_
  refine PM_ite (fun _ => PM_pp (by decide) (by decide)) fun _ => ?_
  refine PM_ite (fun _ => PM_pp (by decide) (by decide)) fun _ => ?_
  refine PM_ite (fun _ => PM_pp (by decide) (by decide)) fun _ => ?_
  exact PM_ite (fun _ => PM_bv (PM_put (by decide)) fun s1 f1 => PM_bv (PM_put (by decide)) fun s2 f2 => PM_bv (PM_txt ht ((h.fr f1).fr f2) h0 h1) fun s3 f3 => PM_tl (PM_put (by decide))) fun _ => PM_ret
theorem c_167 (ht : tOk tx n) {s : cm_S} {t : Nat} {T : tT} (h : cP tx n s t T) {st : oS} {i : Int} (h0 : 0 ≤ i) (h1 : i < tSz T) : PM s (cm_sem 167 [.inr (.inl 37), .inl i, .inl (nLb (nT T i)).1] s) st (opS tx n (nLb (nT T i)) (fK0 (nCh (nT T i)))) := by
  rw [cS_167, cF_167_0]
  unfold opS
  refine PM_ite (fun _ => PM_tl (PM_put (by decide))) fun _ => ?_
  refine PM_ite (fun _ => PM_tl (PM_put (by decide))) fun _ => ?_
  refine PM_ite (fun _ => PM_tl (PM_txt ht h h0 h1)) fun _ => ?_
  refine PM_ite (fun _ => PM_bv (PM_put (by decide)) fun s1 f1 => PM_tl (PM_txt ht (h.fr f1) h0 h1)) fun _ => ?_
  refine PM_ite (fun _ => PM_bv (PM_put (by decide)) fun s1 f1 => PM_tl (PM_txt ht (h.fr f1) h0 h1)) fun _ => ?_
  refine PM_ite (fun _ => PM_tl (PM_put (by decide))) fun _ => ?_
  refine PM_ite (fun e => ?_) fun _ => ?_
  · simp only [h.tn, if_pos h.1.cl, h.1.k1 h0 h1 (gC_ne (h.1.g h0 h1).2.1 (by omega)), cm_bi_i]
    exact PM_ite (fun _ => PM_tl (PM_put (by decide))) fun _ => PM_tl (PM_put (by decide))
  refine PM_ite (fun _ => PM_bv (PM_txt ht h h0 h1) fun s' f' => PM_tl (PM_put (by decide))) fun _ => ?_
  refine PM_ite (fun _ => PM_tl (PM_put (by decide))) fun _ => ?_
  refine PM_ite (fun _ => PM_tl (PM_put (by decide))) fun _ => ?_
  refine PM_ite (fun _ => PM_tl (c_166 ht h h0 h1)) fun _ => ?_
  refine PM_ite (fun _ => PM_tl (PM_txt ht h h0 h1)) fun _ => ?_
  exact PM_ite (fun _ => PM_tl (PM_put (by decide))) fun _ => PM_tl (c_168 ht h h0 h1)
theorem c_151 {s : cm_S} {i : Int} (h0 : 0 ≤ i) (h1 : i < 512) : RB (cm_sem 151 [.inr (.inl 37), .inl i] s) s (s.2 39 i ≠ 0) := by
  rw [cS_151, cF_151_0, if_neg (by omega), if_pos h1, if_pos ⟨h0, h1⟩]
  split
  · next e => exact RB_0 fun q => q e
  · next e => exact RB_1 e
/-- a bracket, if the node has some -/
theorem PM_br {s : cm_S} {st : oS} {i : Int} (h0 : 0 ≤ i) (h1 : i < 512) {p : Nat} (hp : 1005 ≤ p ∧ p ≤ 1036) {b : List tok} {f : cm_S → Option cm_R} (h : ∀ s', pF s s' → PM s' (f s') (ems st (if s.2 39 i ≠ 0 then [kTok p] else [])) b) : PM s (cm_bi (cm_sem 151 [.inr (.inl 37), .inl i] s) fun z s1 => cm_bv (cm_sem 155 [.inr (.inl 37), .inl z, .inr (.inl p)] s1) f) st ((if s.2 39 i ≠ 0 then [kTok p] else []) ++ b) := by
  obtain ⟨z, e, ⟨rfl, hz⟩ | ⟨rfl, hz⟩⟩ := c_151 (s := s) h0 h1
  · rw [e, cm_bi_i]
    rw [if_neg hz] at h ⊢
    exact PM_bv PM_p0 h
  · rw [e, cm_bi_i]
    rw [if_pos hz] at h ⊢
    exact PM_bv (PM_p1 hp) h
theorem c_164 (ht : tOk tx n) {s : cm_S} {t : Nat} {T : tT} (h : cP tx n s t T) {st : oS} {i : Int} (h0 : 0 ≤ i) (h1 : i < tSz T) : PM s (cm_sem 164 [.inr (.inl 37), .inl i] s) st ((if s.2 39 i ≠ 0 then [kTok 1009] else []) ++ opn tx n (nLb (nT T i)) (fK0 (nCh (nT T i)))) := by
  have t9 := h.1.2.2.2.1
  rw [cS_164, cF_164_0]
  refine PM_br h0 (by omega) (by decide) fun s' f' => ?_
  have h' := h.fr f'
  simp only [h'.tn, if_pos h'.1.cl, h'.1.kd h0 h1, cm_bi_i]
  unfold opn
  exact PM_ite (fun _ => PM_tl (c_167 ht h' h0 h1)) fun _ => PM_tl (c_165 ht h' h0 h1)
/-- the end of an expression's node, whose last part is the node w -/
theorem c_154 (ht : tOk tx n) {s : cm_S} {t : Nat} {T : tT} (h : cP tx n s t T) {st : oS} {i w : Int} (h0 : 0 ≤ i) (h1 : i < tSz T) (w0 : 0 ≤ w) (w1 : w < tSz T) : PM s (cm_sem 154 [.inr (.inl 37), .inl i, .inl w] s) st (clE tx n (nLb (nT T i)) (fLn (nCh (nT T i))) (decide ((nLb (nT T w)).1 = 21 ∧ nPa (nT T w) = i)) ++ (if s.2 39 i ≠ 0 then [kTok 1010] else [])) := by
  have t9 := h.1.2.2.2.1
  have B : ∀ {s' : cm_S} {st' : oS}, pF s s' → PM s' (cm_bi (cm_sem 151 [.inr (.inl 37), .inl i] s') fun z s1 => cm_bv (cm_sem 155 [.inr (.inl 37), .inl z, .inr (.inl 1010)] s1) fun s2 => some (.inl none, s2)) st' (if s.2 39 i ≠ 0 then [kTok 1010] else []) := fun {s' st'} f' => by
    have := PM_br (s := s') (st := st') h0 (show i < 512 by omega) (p := 1010) (by decide) (b := []) (f := fun s2 => some (.inl none, s2)) fun _ _ => PM_ret
    rw [List.append_nil, f'.1 39 (by decide)] at this
    exact this
  rw [cS_154, cF_154_0]
  simp only [h.tn, if_pos h.1.cl, h.1.ch h0 h1, h.1.kd h0 h1, h.1.kd w0 w1, h.1.pa w0 w1, cm_bi_i]
  unfold clE
  by_cases k36 : (nLb (nT T i)).1 = 36
  · rw [if_pos k36, if_pos k36, List.append_assoc]
    by_cases e1 : (nLb (nT T w)).1 = 21
    · rw [if_pos e1]
      by_cases e2 : nPa (nT T w) = i
      · rw [if_pos e2, if_pos (decide_eq_true ⟨e1, e2⟩)]
        exact PM_bv (PM_p1 (by decide)) fun s1 f1 => PM_bv (PM_put (by decide)) fun s2 f2 => B (f1.tr f2)
      · rw [if_neg e2, if_neg (by rw [decide_eq_true_iff]; exact fun q => e2 q.2)]
        exact PM_bv PM_p0 fun s1 f1 => PM_bv (PM_put (by decide)) fun s2 f2 => B (f1.tr f2)
    · rw [if_neg e1, if_neg (by rw [decide_eq_true_iff]; exact fun q => e1 q.1)]
      exact PM_bv PM_p0 fun s1 f1 => PM_bv (PM_put (by decide)) fun s2 f2 => B (f1.tr f2)
  rw [if_neg k36, if_neg k36]
  by_cases k37 : (nLb (nT T i)).1 = 37
  · rw [if_pos k37, if_pos k37]
    exact PM_bv (PM_put (by decide)) fun s1 f1 => B f1
  rw [if_neg k37, if_neg k37]
  by_cases k40 : (nLb (nT T i)).1 = 40
  · rw [if_pos k40, if_pos k40]
    exact PM_bv (PM_put (by decide)) fun s1 f1 => B f1
  rw [if_neg k40, if_neg k40]
  by_cases k41 : (nLb (nT T i)).1 = 41
  · rw [if_pos k41, if_pos k41, List.append_assoc]
    exact PM_bv (PM_put (by decide)) fun s1 f1 => PM_bv (PM_txt ht (h.fr f1) h0 h1) fun s2 f2 => B (f1.tr f2)
  rw [if_neg k41, if_neg k41]
  by_cases k42 : (nLb (nT T i)).1 = 42
  · rw [if_pos k42, if_pos k42, List.append_assoc]
    by_cases e1 : fLn (nCh (nT T i)) = 1
    · rw [if_pos e1, if_pos e1]
      exact PM_bv (PM_p1 (by decide)) fun s1 f1 => PM_bv (PM_put (by decide)) fun s2 f2 => B (f1.tr f2)
    · rw [if_neg e1, if_neg e1]
      exact PM_bv PM_p0 fun s1 f1 => PM_bv (PM_put (by decide)) fun s2 f2 => B (f1.tr f2)
  rw [if_neg k42, if_neg k42]
  by_cases k43 : (nLb (nT T i)).1 = 43
  · rw [if_pos k43, if_pos k43, List.append_assoc]
    by_cases e1 : fLn (nCh (nT T i)) = 1
    · rw [if_pos e1, if_pos e1]
      exact PM_bv (PM_p1 (by decide)) fun s1 f1 => PM_bv (PM_put (by decide)) fun s2 f2 => B (f1.tr f2)
    · rw [if_neg e1, if_neg e1]
      exact PM_bv PM_p0 fun s1 f1 => PM_bv (PM_put (by decide)) fun s2 f2 => B (f1.tr f2)
  rw [if_neg k43, if_neg k43]
  by_cases k44 : (nLb (nT T i)).1 = 44
  · rw [if_pos k44, if_pos k44]
    exact PM_bv (PM_txt ht h h0 h1) fun s1 f1 => B f1
  rw [if_neg k44, if_neg k44]
  exact B (pF_rf s)
theorem c_161 {s : cm_S} {t : Nat} {T : tT} (h : cP tx n s t T) {i : Int} (h0 : 0 ≤ i) (h1 : i < tSz T) : RB (cm_sem 161 [.inr (.inl 37), .inl i] s) s (((pL T i).1 = 9 ∨ (pL T i).1 = 10) ∧ nRk (nT T i) = 0) := by
  rw [cS_161, cF_161_0]
  simp only [h.tn, if_pos h.1.cl, h.1.pa h0 h1, h.kp h0 h1, h.rk h0 h1, cm_bi_i]
  repeat' split
  all_goals first | exact RB_1 (by omega) | exact RB_0 (by omega)
theorem c_160 {s : cm_S} {t : Nat} {T : tT} (h : cP tx n s t T) {st : oS} {i : Int} (h0 : 0 ≤ i) (h1 : i < tSz T) : PM s (cm_sem 160 [.inr (.inl 37), .inl i] s) st (clS (pL T i).1 (nRk (nT T i)) (nLb (nT T i)) (fLn (nCh (nT T i)))) := by
  rw [cS_160, cF_160_0]
  simp only [h.tn, if_pos h.1.cl, h.1.ch h0 h1, h.1.kd h0 h1, cm_bi_i]
  unfold clS
  refine PM_ite (fun _ => PM_tl (PM_put (by decide))) fun _ => ?_
  refine PM_ite (fun _ => ?_) fun _ => ?_
  · obtain ⟨z, e, ⟨rfl, hz⟩ | ⟨rfl, hz⟩⟩ := c_161 h h0 h1
    · rw [e, cm_bi_i, if_pos rfl, if_neg hz]
      exact PM_tl (PM_p1 (by decide))
    · rw [e, cm_bi_i, if_neg (by decide), if_pos hz]
      exact PM_tl PM_p0
  refine PM_ite (fun _ => PM_tl (PM_put (by decide))) fun _ => ?_
  refine PM_ite (fun _ => PM_tl (PM_put (by decide))) fun _ => ?_
  refine PM_ite (fun _ => PM_pp (by decide) (by decide)) fun _ => ?_
  refine PM_ite (fun _ => PM_tl (PM_put (by decide))) fun _ => ?_
  refine PM_ite (fun _ => PM_tl (PM_put (by decide))) fun _ => ?_
  refine PM_ite (fun _ => PM_tl (PM_put (by decide))) fun _ => ?_
  refine PM_ite (fun _ => PM_ite (fun e => ?_) fun e => ?_) fun _ => ?_
  · simp only [if_pos e]
    exact PM_bv (a := [kTok 1010]) (b := [kTok 1011, kTok 1007]) (PM_p1 (by decide)) fun s1 f1 => PM_bv (a := [kTok 1011]) (b := [kTok 1007]) (PM_p1 (by decide)) fun s2 f2 => PM_tl (PM_put (by decide))
  · simp only [if_neg e]
    exact PM_bv (a := []) (b := [kTok 1007]) PM_p0 fun s1 f1 => PM_bv (a := []) (b := [kTok 1007]) PM_p0 fun s2 f2 => PM_tl (PM_put (by decide))
  refine PM_ite (fun _ => PM_01 (by decide)) fun _ => ?_
  refine PM_ite (fun _ => PM_tl (PM_put (by decide))) fun _ => ?_
  exact PM_ite (fun _ => PM_tl (PM_put (by decide))) fun _ => PM_ret
end TX96
