/-! ===== the reference: signAt ===== -/
section TX18
variable {tx : Int → Int} {n : Int}
theorem cm_drop {l : List Int} {j : Nat} (h : j < l.length) : l.drop j = l.getD j 0 :: l.drop (j + 1) := by
  rw [List.drop_eq_getElem_cons h, List.getD_eq_getElem?_getD, List.getElem?_eq_getElem h]
  rfl
theorem rl_196b {s : cm_S} {x1 x2 i : Int} (hi : 0 ≤ i) (hi3 : i < 4) : ∀ (k j : Nat) (x3 : Int), j + k = 24 → cm_lp cm_sem cm_k196 30 [some (.inr (.inl 41)), some (.inl x1), some (.inl x2), some (.inl x3), some (.inl i), some (.inl j)] [] s = cm_lp cm_sem cm_k196 7 [some (.inr (.inl 41)), some (.inl x1), some (.inl x2), some (.inl (if x2 ∈ (cm_krT.getD (if i = 0 then 2 else 1) []).drop j then x2 else x3)), some (.inl (i + 1)), some (.inl 24)] [] s := by
  have hl1 : (cm_krT.getD 1 []).length = 24 := by decide
  have hl2 : (cm_krT.getD 2 []).length = 24 := by decide
  intro k
  induction k with
  | zero =>
    intro j x3 hj
    have hj2 : j = 24 := by omega
    subst hj2
    rw [cE_196_30, cF_196_30, if_neg (by decide), cm_w_id (by omega) (by omega)]
    by_cases h0 : i = 0
    · rw [if_pos h0, List.drop_eq_nil_of_le (by omega)]
      simp
    · rw [if_neg h0, List.drop_eq_nil_of_le (by omega)]
      simp
  | succ k ih =>
    intro j x3 hj
    have ew : cm_w ((j : Int) + 1) = ((j + 1 : Nat) : Int) := (cm_w_id (by omega) (by omega)).trans (by omega)
    have e43 : cm_kr 43 (j : Int) = (cm_krT.getD 1 []).getD j 0 := by simp [cm_kr]
    have e44 : cm_kr 44 (j : Int) = (cm_krT.getD 2 []).getD j 0 := by simp [cm_kr]
    rw [cE_196_30, cF_196_30, if_pos (by omega)]
    simp only [if_pos (show (0 : Int) ≤ (j : Int) ∧ (j : Int) < 24 by omega), ew, e43, e44, ih (j + 1) _ (by omega)]
    by_cases h0 : i = 0
    · rw [if_pos h0, if_pos h0, cm_drop (l := cm_krT.getD 2 []) (j := j) (by omega)]
      by_cases hm : (cm_krT.getD 2 []).getD j 0 = x2
      · rw [if_pos hm, hm]
        simp
      · rw [if_neg hm, if_neg (by omega)]
        have : (x2 ∈ (cm_krT.getD 2 []).getD j 0 :: (cm_krT.getD 2 []).drop (j + 1)) = (x2 ∈ (cm_krT.getD 2 []).drop (j + 1)) := by
          apply propext
          rw [List.mem_cons]
          exact ⟨fun z => z.resolve_left (fun y => hm y.symm), Or.inr⟩
        simp only [this]
    · rw [if_neg h0, if_pos (show 0 < i by omega), if_neg h0, cm_drop (l := cm_krT.getD 1 []) (j := j) (by omega)]
      by_cases hm : (cm_krT.getD 1 []).getD j 0 = x2
      · rw [if_pos hm, hm]
        simp
      · rw [if_neg hm]
        have : (x2 ∈ (cm_krT.getD 1 []).getD j 0 :: (cm_krT.getD 1 []).drop (j + 1)) = (x2 ∈ (cm_krT.getD 1 []).drop (j + 1)) := by
          apply propext
          rw [List.mem_cons]
          exact ⟨fun z => z.resolve_left (fun y => hm y.symm), Or.inr⟩
        simp only [this]
/-- one character more -/
theorem rl_196 (ht : tOk tx n) {s : cm_S} (h : rTx tx n s) {p x2 x3 i : Int} (h0 : 0 ≤ p) (hx0 : 0 ≤ x2) (hx1 : x2 < 8388608) (hi : 0 ≤ i) (hi3 : i < 4) (hn : p + i < n) (hb : i = 0 ∧ x2 = 0 ∨ i ≠ 0 ∧ 1 ≤ x2) (o5 : Option cm_V) : cm_lp cm_sem cm_k196 7 [some (.inr (.inl 41)), some (.inl p), some (.inl x2), some (.inl x3), some (.inl i), o5] [] s = cm_lp cm_sem cm_k196 7 [some (.inr (.inl 41)), some (.inl p), some (.inl (256 * x2 + tA tx n (p + i))), some (.inl (if 256 * x2 + tA tx n (p + i) ∈ sgS then 256 * x2 + tA tx n (p + i) else x3)), some (.inl (i + 1)), some (.inl 24)] [] s := by
  obtain ⟨t1, t2, -⟩ := id ht
  have hb1 := tx_b ht (show 0 ≤ p + i by omega) hn
  have e := tA_in (tx := tx) (show 0 ≤ p + i by omega) hn
  rw [cE_196_7, cF_196_7, if_pos hi3, cm_w_id (by omega) (by omega), h.1, if_pos hn, if_pos (by omega), h.2 _ (by omega) hn, ← e, cm_pack hx0 hx1 (by omega) (by omega)]
  refine (rl_196b hi hi3 24 0 x3 rfl).trans ?_
  rw [List.drop_zero]
  have : (256 * x2 + tA tx n (p + i) ∈ cm_krT.getD (if i = 0 then 2 else 1) []) = (256 * x2 + tA tx n (p + i) ∈ sgS) := by
    apply propext
    by_cases hz : i = 0
    · rw [if_pos hz]
      exact ⟨sg_one _, fun z => sg_is1 _ z (by omega)⟩
    · rw [if_neg hz]
      exact ⟨sg_two _, fun z => sg_is2 _ z (by omega)⟩
  simp only [this]
theorem rl_196e {s : cm_S} (h : rTx tx n s) {p x2 x3 i : Int} (hw : -2147483648 ≤ p + i ∧ p + i < 2147483648) (hn : i = 4 ∨ n ≤ p + i) (o5 : Option cm_V) : cm_lp cm_sem cm_k196 7 [some (.inr (.inl 41)), some (.inl p), some (.inl x2), some (.inl x3), some (.inl i), o5] [] s = some (.inl (some (.inl x3)), s) := by
  rw [cE_196_7, cF_196_7, cm_w_id hw.1 hw.2, h.1]
  by_cases h4 : i < 4
  · rw [if_pos h4, if_neg (by omega)]
  · rw [if_neg h4]
theorem sg_up {x c : Int} (hc : 0 ≤ c ∧ c < 256) (hx : 1 ≤ x) (h : 256 * x + c ∈ sgS) : x ∈ sgS := by
  have := sg_pre _ h (by omega)
  rwa [show (256 * x + c) / 256 = x by omega] at this
/-- the reference: signAt -/
theorem cs_196 (ht : tOk tx n) {s : cm_S} (h : rTx tx n s) {p : Int} (h0 : 0 ≤ p) (h1 : p < n) : cm_sem 196 [.inr (.inl 41), .inl p] s = some (.inl (some (.inl (sgE tx n p).1)), s) := by
  obtain ⟨t1, t2, -⟩ := id ht
  have hb0 := tx_b ht h0 h1
  have e0 : 256 * 0 + tA tx n (p + 0) = tA tx n p := by rw [Int.add_zero]; omega
  rw [cS_196, cF_196_0, rl_196 ht h h0 (x2 := 0) (i := 0) (by omega) (by omega) (by omega) (by omega) (by omega) (by omega), e0, show (0 : Int) + 1 = 1 by rfl]
  unfold sgE
  by_cases g1 : p + 1 < n
  · have hb1 := tx_b ht (show 0 ≤ p + 1 by omega) g1
    have f1 : pk2 tx n p ∈ sgS → tA tx n p ∈ sgS := sg_up (by omega) (by omega)
    rw [rl_196 ht h h0 (x2 := tA tx n p) (i := 1) (by omega) (by omega) (by omega) (by omega) (by omega) (by omega), show (1 : Int) + 1 = 2 by rfl]
    change cm_lp cm_sem cm_k196 7 [some (.inr (.inl 41)), some (.inl p), some (.inl (pk2 tx n p)), some (.inl (if pk2 tx n p ∈ sgS then pk2 tx n p else if tA tx n p ∈ sgS then tA tx n p else 0)), some (.inl 2), some (.inl 24)] [] s = _
    by_cases g2 : p + 2 < n
    · have hb2 := tx_b ht (show 0 ≤ p + 2 by omega) g2
      have hp2 : pk2 tx n p = 256 * tA tx n p + tA tx n (p + 1) := rfl
      have f2 : pk3 tx n p ∈ sgS → pk2 tx n p ∈ sgS := sg_up (by omega) (by omega)
      rw [rl_196 ht h h0 (x2 := pk2 tx n p) (i := 2) (by omega) (by omega) (by omega) (by omega) (by omega) (by omega), show (2 : Int) + 1 = 3 by rfl]
      change cm_lp cm_sem cm_k196 7 [some (.inr (.inl 41)), some (.inl p), some (.inl (pk3 tx n p)), some (.inl (if pk3 tx n p ∈ sgS then pk3 tx n p else if pk2 tx n p ∈ sgS then pk2 tx n p else if tA tx n p ∈ sgS then tA tx n p else 0)), some (.inl 3), some (.inl 24)] [] s = _
      by_cases g3 : p + 3 < n
      · have hb3 := tx_b ht (show 0 ≤ p + 3 by omega) g3
        have hp3 : pk3 tx n p = 256 * pk2 tx n p + tA tx n (p + 2) := rfl
        have f3 : pk4 tx n p ∈ sgS → pk3 tx n p ∈ sgS := sg_up (by omega) (by omega)
        rw [rl_196 ht h h0 (x2 := pk3 tx n p) (i := 3) (by omega) (by omega) (by omega) (by omega) (by omega) (by omega), show (3 : Int) + 1 = 4 by rfl, rl_196e h (by omega) (Or.inl rfl)]
        change (some (.inl (some (.inl (if pk4 tx n p ∈ sgS then pk4 tx n p else if pk3 tx n p ∈ sgS then pk3 tx n p else if pk2 tx n p ∈ sgS then pk2 tx n p else if tA tx n p ∈ sgS then tA tx n p else 0))), s) : Option cm_R) = _
        by_cases m4 : pk4 tx n p ∈ sgS
        · simp [m4, f3 m4, f2 (f3 m4), f1 (f2 (f3 m4)), g1, g2, g3]
        · by_cases m3 : pk3 tx n p ∈ sgS
          · simp [m4, m3, f2 m3, f1 (f2 m3), g1, g2]
          · by_cases m2 : pk2 tx n p ∈ sgS
            · simp [m4, m3, m2, f1 m2, g1]
            · by_cases m1 : tA tx n p ∈ sgS
              · simp [m4, m3, m2, m1]
              · simp [m4, m3, m2, m1]
      · rw [rl_196e h (by omega) (Or.inr (by omega))]
        by_cases m3 : pk3 tx n p ∈ sgS
        · simp [m3, f2 m3, f1 (f2 m3), g1, g2, g3]
        · by_cases m2 : pk2 tx n p ∈ sgS
          · simp [m3, m2, f1 m2, g1]
          · by_cases m1 : tA tx n p ∈ sgS
            · simp [m3, m2, m1]
            · simp [m3, m2, m1]
    · rw [rl_196e h (by omega) (Or.inr (by omega))]
      by_cases m2 : pk2 tx n p ∈ sgS
      · simp [m2, f1 m2, g1, g2]
      · by_cases m1 : tA tx n p ∈ sgS
        · simp [m2, m1]
        · simp [m2, m1]
  · rw [rl_196e h (by omega) (Or.inr (by omega))]
    by_cases m1 : tA tx n p ∈ sgS
    · simp [m1, g1]
    · simp [m1]
/-- the reference: signLengthOf -/
theorem cs_197 (ht : tOk tx n) {s : cm_S} {p : Int} (h0 : 0 ≤ p) (h1 : p < n) (hs : (sgE tx n p).2 ≠ -1) : cm_sem 197 [.inl (sgE tx n p).1] s = some (.inl (some (.inl ((sgE tx n p).2 - p))), s) := by
  obtain ⟨t1, t2, -⟩ := id ht
  have hb0 := tx_b ht h0 h1
  rw [cS_197, cF_197_0]
  unfold sgE at hs ⊢
  split at hs
  · next m1 =>
    rw [if_pos m1]
    split at hs
    · next m2 =>
      have hb1 := tx_b ht (show 0 ≤ p + 1 by omega) m2.1
      have hp2 : pk2 tx n p = 256 * tA tx n p + tA tx n (p + 1) := rfl
      rw [if_pos m2]
      split at hs
      · next m3 =>
        have hb2 := tx_b ht (show 0 ≤ p + 2 by omega) m3.1
        have hp3 : pk3 tx n p = 256 * pk2 tx n p + tA tx n (p + 2) := rfl
        rw [if_pos m3]
        split at hs
        · next m4 =>
          have hb3 := tx_b ht (show 0 ≤ p + 3 by omega) m4.1
          have hp4 : pk4 tx n p = 256 * pk3 tx n p + tA tx n (p + 3) := rfl
          rw [if_pos m4, if_pos (show 16777215 < pk4 tx n p by omega), show p + 4 - p = 4 by omega]
        · next m4 => rw [if_neg m4, if_neg (show ¬ 16777215 < pk3 tx n p by omega), if_pos (show 65535 < pk3 tx n p by omega), show p + 3 - p = 3 by omega]
      · next m3 => rw [if_neg m3, if_neg (show ¬ 16777215 < pk2 tx n p by omega), if_neg (show ¬ 65535 < pk2 tx n p by omega), if_pos (show 255 < pk2 tx n p by omega), show p + 2 - p = 2 by omega]
    · next m2 => rw [if_neg m2, if_neg (show ¬ 16777215 < tA tx n p by omega), if_neg (show ¬ 65535 < tA tx n p by omega), if_neg (show ¬ 255 < tA tx n p by omega), show p + 1 - p = 1 by omega]
  · exact absurd rfl hs
end TX18
