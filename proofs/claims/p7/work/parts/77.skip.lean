/-! ===== the reference: commentEnd and skip ===== -/
theorem cm_p_c {s : cm_S} {k j : Nat} {x y : Int} (h : k ≠ j) : cm_p (cm_p s k x) j y = cm_p (cm_p s j y) k x := by
  unfold cm_p
  congr 1
  funext i
  by_cases h1 : i = k
  · subst h1; simp [h]
  · simp [h1]
section TX4
variable {tx : Int → Int} {n : Int}
theorem rl_184a (ht : tOk tx n) {s : cm_S} (h : rTx tx n s) : ∀ (k : Nat) (p : Int) (o1 : Option cm_V), n ≤ p + k → 0 ≤ p → p ≤ n + 2 → cm_lp cm_sem cm_k184 12 [some (.inr (.inl 41)), o1, some (.inl p)] [] s = some (.inl (some (.inl (if p < n then lnE tx n p else p))), s) := by
  obtain ⟨t1, t2, -⟩ := id ht
  intro k
  induction k with
  | zero =>
    intro p o1 h1 h2 h3
    rw [cE_184_12, cF_184_12, h.1, if_neg (by omega), if_neg (by omega)]
  | succ k ih =>
    intro p o1 h1 h2 h3
    rw [cE_184_12, cF_184_12, h.1]
    by_cases hp : p < n
    · rw [if_pos hp, if_pos (by omega), if_pos hp, h.2 p h2 hp, cs_183, cm_bi_i, lnE_eq, if_pos hp]
      simp only [cm_b0]
      by_cases hc : cLe (tx p)
      · rw [if_pos hc, if_neg (fun z => z hc)]
      · rw [if_neg hc, if_pos hc, cm_w_id (by omega) (by omega), ih (p + 1) o1 (by omega) (by omega) (by omega)]
        by_cases hp2 : p + 1 < n
        · rw [if_pos hp2]
        · rw [if_neg hp2, lnE_eq, if_neg hp2]
          have : p + 1 = n := by omega
          rw [this]
    · rw [if_neg hp, if_neg hp]
theorem rl_184b (ht : tOk tx n) : ∀ (k : Nat) (p : Int) (b : Bool) (s : cm_S) (o1 : Option cm_V), rTx tx n s → s.1 4115 = cm_n b → n ≤ p + k → 0 ≤ p → p ≤ n + 2 → (∀ q, cmE tx n p b = some q → cm_lp cm_sem cm_k184 27 [some (.inr (.inl 41)), o1, some (.inl p)] [] s = some (.inl (some (.inl q.1)), cm_p s 4115 (cm_n q.2))) ∧ (cmE tx n p b = none → ∃ b', cm_lp cm_sem cm_k184 27 [some (.inr (.inl 41)), o1, some (.inl p)] [] s = some (.inl (some (.inl (n + 1))), cm_p s 4115 (cm_n b'))) := by
  obtain ⟨t1, t2, -⟩ := id ht
  intro k
  induction k with
  | zero =>
    intro p b s o1 h hb h1 h2 h3
    rw [cE_184_27, cF_184_27, h.1, if_neg (by omega), if_neg (by omega), cmE_eq, if_neg (by omega), cm_w_id (by omega) (by omega)]
    exact ⟨fun q hq => (by cases hq), fun _ => ⟨b, by rw [cm_p_same hb]⟩⟩
  | succ k ih =>
    intro p b s o1 h hb h1 h2 h3
    by_cases hp : p < n
    · have ew : cm_w (p + 1) = p + 1 := cm_w_id (by omega) (by omega)
      have ew2 : cm_w (p + 2) = p + 2 := cm_w_id (by omega) (by omega)
      by_cases hE : tx p = 42 ∧ tA tx n (p + 1) = 47
      · rw [cE_184_27, cF_184_27, h.1, if_pos hp, if_pos (by omega), h.2 p h2 hp, if_pos hE.1, ew, cs_181 ht h (by omega), cm_bi_i]
        simp only [tH_is ht (show 0 ≤ p + 1 by omega) (show (47 : Int) ≠ 0 by decide) (show (47 : Int) ≠ -1 by decide)]
        rw [if_pos hE.2, h.1, if_pos hp, ew2, cmE_eq, if_pos hp, if_pos hE]
        refine ⟨fun q hq => ?_, fun hq => by cases hq⟩
        cases hq
        rw [cm_p_same hb]
      · have e1 : cm_lp cm_sem cm_k184 27 [some (.inr (.inl 41)), o1, some (.inl p)] [] s = cm_lp cm_sem cm_k184 27 [some (.inr (.inl 41)), o1, some (.inl (p + 1))] [] (cm_p s 4115 (cm_n (b || decide (cLe (tx p))))) := by
          rw [cE_184_27, cF_184_27, h.1, if_pos hp]
          simp only [if_pos (show 0 ≤ p ∧ p < 480 by omega), h.2 p h2 hp, ew, cs_181 ht h (show 0 ≤ p + 1 by omega), cm_bi_i, cs_183, cm_b0, hb, cm_n0]
          simp only [tH_is ht (show 0 ≤ p + 1 by omega) (show (47 : Int) ≠ 0 by decide) (show (47 : Int) ≠ -1 by decide)]
          by_cases h42 : tx p = 42
          · have h47 : ¬ tA tx n (p + 1) = 47 := fun z => hE ⟨h42, z⟩
            rw [if_pos h42, if_neg h47]
            cases b <;> by_cases hl : cLe (tx p) <;> simp [hl, cm_n]
          · rw [if_neg h42]
            cases b <;> by_cases hl : cLe (tx p) <;> simp [hl, cm_n]
        have h4 := rTx_p h (k := 4115) (by decide) (z := cm_n (b || decide (cLe (tx p))))
        have := ih (p + 1) (b || decide (cLe (tx p))) _ o1 h4 cm_p_at (by omega) (by omega) (by omega)
        rw [e1, cmE_eq, if_pos hp, if_neg hE]
        simpa only [cm_p_p] using this
    · rw [cE_184_27, cF_184_27, h.1, if_neg hp, if_neg hp, cmE_eq, if_neg hp, cm_w_id (by omega) (by omega)]
      exact ⟨fun q hq => (by cases hq), fun _ => ⟨b, by rw [cm_p_same hb]⟩⟩
/-- commentEnd at a // -/
theorem cs_184a (ht : tOk tx n) {s : cm_S} (h : rTx tx n s) {p : Int} (h0 : 0 ≤ p) (h1 : p < n) (hc : tx p = 47) (hd : tA tx n (p + 1) = 47) : cm_sem 184 [.inr (.inl 41), .inl p] s = some (.inl (some (.inl (lnE tx n p))), s) := by
  obtain ⟨t1, t2, -⟩ := id ht
  have hp2 : p + 1 < n := by
    apply Int.lt_of_not_ge
    intro z
    rw [tA_out z] at hd
    omega
  have e1 : tx (p + 1) = 47 := by rw [← tA_in (tx := tx) (n := n) (by omega) hp2]; exact hd
  rw [cS_184, cF_184_0, cm_w_id (by omega) (by omega), cs_181 ht h (by omega), cm_bi_i, tH_in hp2, if_pos e1, cm_w_id (by omega) (by omega), rl_184a ht h n.toNat (p + 2) _ (by omega) (by omega) (by omega)]
  rw [lnE_step h1 (by omega), lnE_step hp2 (by omega)]
  by_cases h3 : p + 2 < n
  · rw [if_pos h3, show p + 1 + 1 = p + 2 by omega]
  · rw [if_neg h3, show p + 1 + 1 = p + 2 by omega, lnE_eq, if_neg h3]
    have : p + 2 = n := by omega
    rw [this]
/-- .. at a / * -/
theorem cs_184b (ht : tOk tx n) {s : cm_S} (h : rTx tx n s) {b : Bool} (hb : s.1 4115 = cm_n b) {p : Int} (h0 : 0 ≤ p) (h1 : p < n) (hd : tA tx n (p + 1) = 42) : (∀ q, cmE tx n (p + 2) b = some q → cm_sem 184 [.inr (.inl 41), .inl p] s = some (.inl (some (.inl q.1)), cm_p s 4115 (cm_n q.2))) ∧ (cmE tx n (p + 2) b = none → ∃ b', cm_sem 184 [.inr (.inl 41), .inl p] s = some (.inl (some (.inl (n + 1))), cm_p s 4115 (cm_n b'))) := by
  obtain ⟨t1, t2, -⟩ := id ht
  have hp2 : p + 1 < n := by
    apply Int.lt_of_not_ge
    intro z
    rw [tA_out z] at hd
    omega
  have e1 : tx (p + 1) = 42 := by rw [← tA_in (tx := tx) (n := n) (by omega) hp2]; exact hd
  rw [cS_184, cF_184_0, cm_w_id (by omega) (by omega), cs_181 ht h (by omega), cm_bi_i, tH_in hp2, if_neg (by omega), cm_w_id (by omega) (by omega)]
  exact rl_184b ht n.toNat (p + 2) b s _ h hb (by omega) (by omega) (by omega)
theorem cs_185 {s : cm_S} (h : s.1 4108 = 0) (x y : Int) : cm_sem 185 [.inr (.inl 41), .inl x, .inl y] s = some (.inl none, cm_p (cm_p s 4108 x) 4109 y) := by
  rw [cS_185, cF_185_0, if_pos h]
theorem cs_185n {s : cm_S} (h : s.1 4108 ≠ 0) (x y : Int) : cm_sem 185 [.inr (.inl 41), .inl x, .inl y] s = some (.inl none, s) := by
  rw [cS_185, cF_185_0, if_neg h]
end TX4
