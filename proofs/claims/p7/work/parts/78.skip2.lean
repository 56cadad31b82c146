theorem cm_col {s : cm_S} {j k : Nat} {a c x y : Int} (h : j ≠ k) : cm_p (cm_p (cm_p (cm_p s j a) k c) j x) k y = cm_p (cm_p s j x) k y := by
  rw [cm_p_c (s := cm_p s j a) (Ne.symm h), cm_p_p, cm_p_p]
theorem cm_col2 {s : cm_S} {j k : Nat} {c x y : Int} (h : j ≠ k) : cm_p (cm_p (cm_p s k c) j x) k y = cm_p (cm_p s j x) k y := by
  rw [cm_p_c (s := s) (Ne.symm h), cm_p_p]
section TX5
variable {tx : Int → Int} {n : Int}
theorem rl_182z {s : cm_S} {o2 : Option cm_V} : cm_lp cm_sem cm_k182 10 [some (.inr (.inl 41)), some (.inl 0), o2] [] s = some (.inl none, s) := by
  rw [cE_182_10, cF_182_10, if_pos rfl]
/-- what skip() leaves -/
def rSk (s : cm_S) (p : Int) (b : Bool) : cm_S := cm_p (cm_p s 4115 (cm_n b)) 4112 p
set_option maxHeartbeats 1000000 in
theorem rl_182 (ht : tOk tx n) : ∀ (k : Nat) (p : Int) (b : Bool) (s : cm_S) (o2 : Option cm_V), rTx tx n s → s.1 4112 = p → s.1 4115 = cm_n b → s.1 4108 = 0 → n < p + k → 0 ≤ p → p ≤ n →
    ((blE tx n k p b).2.2 = false → cm_lp cm_sem cm_k182 10 [some (.inr (.inl 41)), some (.inl 1), o2] [] s = some (.inl none, rSk s (blE tx n k p b).1 (blE tx n k p b).2.1)) ∧
    ((blE tx n k p b).2.2 = true → ∃ b', cm_lp cm_sem cm_k182 10 [some (.inr (.inl 41)), some (.inl 1), o2] [] s = some (.inl none, cm_p (cm_p (rSk s (blE tx n k p b).1 b') 4108 1) 4109 (blE tx n k p b).1)) := by
  obtain ⟨t1, t2, -⟩ := id ht
  intro k
  induction k with
  | zero => intro p b s o2 h h12 h15 h08 hk; omega
  | succ k ih =>
    intro p b s o2 h h12 h15 h08 hk h0 h1
    have hsame : rSk s p b = s := by unfold rSk; rw [cm_p_same h15, cm_p_same h12]
    have ew : cm_w (p + 1) = p + 1 := cm_w_id (by omega) (by omega)
    rw [cE_182_10, cF_182_10, if_neg (by decide), if_pos h08, h12, h.1]
    by_cases hp : p < n
    · rw [if_pos hp, if_pos (show (0 : Int) ≤ p ∧ p < 480 by omega), h.2 p h0 hp, cs_173, cm_bi_i]
      simp only [cm_b0, h12, h15, cm_n0, cs_183, cm_bi_i, h.2 p h0 hp, ew, if_pos (show (0 : Int) ≤ p ∧ p < 480 by omega)]
      have stp : ∀ b2 : Bool, (∀ o2, ((blE tx n k (p + 1) b2).2.2 = false → cm_lp cm_sem cm_k182 10 [some (.inr (.inl 41)), some (.inl 1), o2] [] (cm_p (cm_p s 4115 (cm_n b2)) 4112 (p + 1)) = some (.inl none, rSk s (blE tx n k (p + 1) b2).1 (blE tx n k (p + 1) b2).2.1)) ∧ ((blE tx n k (p + 1) b2).2.2 = true → ∃ b', cm_lp cm_sem cm_k182 10 [some (.inr (.inl 41)), some (.inl 1), o2] [] (cm_p (cm_p s 4115 (cm_n b2)) 4112 (p + 1)) = some (.inl none, cm_p (cm_p (rSk s (blE tx n k (p + 1) b2).1 b') 4108 1) 4109 (blE tx n k (p + 1) b2).1))) := by
        intro b2 o2
        have := ih (p + 1) b2 (cm_p (cm_p s 4115 (cm_n b2)) 4112 (p + 1)) o2 (rTx_p (rTx_p h (by decide)) (by decide)) cm_p_at (by rw [cm_p_ne (by decide), cm_p_at]) (by rw [cm_p_ne (by decide), cm_p_ne (by decide)]; exact h08) (by omega) (by omega) (by omega)
        simpa only [rSk, cm_col (show (4115 : Nat) ≠ 4112 by decide)] using this
      by_cases hl : cLe (tx p)
      · have hb : cBl (tx p) := by omega
        rw [show blE tx n (k + 1) p b = blE tx n k (p + 1) true by rw [blE, if_pos hp, if_pos hl]]
        simp only [hb, hl, not_true, if_false]
        cases b
        · simp only [if_true]
          exact stp true o2
        · simp only [Bool.true_eq_false, if_false]
          exact stp true o2
      · by_cases hw : tx p = 32 ∨ tx p = 9
        · have hb : cBl (tx p) := by omega
          rw [show blE tx n (k + 1) p b = blE tx n k (p + 1) b by rw [blE, if_pos hp, if_neg hl, if_pos hw]]
          simp only [hb, hl, not_true, not_false_eq_true, if_true, if_false]
          cases b
          · simp only [if_true]
            exact stp false o2
          · simp only [Bool.true_eq_false, if_false]
            exact stp true o2
        · have hb : ¬ cBl (tx p) := by omega
          simp only [hb, not_false_eq_true, if_true, cs_181 ht h h0, cm_bi_i, tH_in hp]
          by_cases h47 : tx p = 47
          · rw [if_pos h47]
            simp only [h12, ew, cs_181 ht h (show 0 ≤ p + 1 by omega), cm_bi_i]
            simp only [tH_is ht (show 0 ≤ p + 1 by omega) (show (47 : Int) ≠ 0 by decide) (show (47 : Int) ≠ -1 by decide)]
            by_cases g47 : tA tx n (p + 1) = 47
            · rw [show blE tx n (k + 1) p b = blE tx n k (lnE tx n p) b by rw [blE, if_pos hp, if_neg hl, if_neg hw, if_pos ⟨h47, g47⟩], if_pos g47, cs_184a ht h h0 hp h47 g47, cm_bi_i, h.1]
              have h2 := lnE_le (tx := tx) (n := n) (p := p) n.toNat (by omega) h1
              have h3 : p + 1 ≤ lnE tx n p := by
                rw [lnE_step hp (by omega)]
                exact (lnE_le (tx := tx) (n := n) (p := p + 1) n.toNat (by omega) (by omega)).1
              rw [if_neg (by omega)]
              have := ih (lnE tx n p) b (cm_p s 4112 (lnE tx n p)) (some (.inl (lnE tx n p))) (rTx_p h (by decide)) cm_p_at (by rw [cm_p_ne (by decide)]; exact h15) (by rw [cm_p_ne (by decide)]; exact h08) (by omega) (by omega) (by omega)
              simpa only [rSk, cm_col2 (show (4115 : Nat) ≠ 4112 by decide)] using this
            · rw [if_neg g47]
              simp only [cs_181 ht h (show 0 ≤ p + 1 by omega), cm_bi_i, tH_is ht (show 0 ≤ p + 1 by omega) (show (42 : Int) ≠ 0 by decide) (show (42 : Int) ≠ -1 by decide)]
              by_cases g42 : tA tx n (p + 1) = 42
              · rw [if_pos g42]
                obtain ⟨c1, c2⟩ := cs_184b ht h h15 h0 hp g42
                cases hq : cmE tx n (p + 2) b with
                | none =>
                  rw [show blE tx n (k + 1) p b = (p, b, true) by rw [blE, if_pos hp, if_neg hl, if_neg hw, if_neg (fun z => g47 z.2), if_pos ⟨h47, g42⟩, hq]]
                  obtain ⟨b', e⟩ := c2 hq
                  rw [e, cm_bi_i, cm_p_ne (by decide), h.1, if_pos (by omega), cm_p_ne (by decide), h12, cs_185 (by rw [cm_p_ne (by decide)]; exact h08), cm_bv_o, rl_182z]
                  refine ⟨fun z => (by cases z), fun _ => ⟨b', ?_⟩⟩
                  have : rSk s p b' = cm_p s 4115 (cm_n b') := by
                    unfold rSk
                    exact cm_p_same (by rw [cm_p_ne (by decide)]; exact h12)
                  rw [this]
                | some q =>
                  rw [show blE tx n (k + 1) p b = blE tx n k q.1 q.2 by rw [blE, if_pos hp, if_neg hl, if_neg hw, if_neg (fun z => g47 z.2), if_pos ⟨h47, g42⟩, hq]]
                  rw [c1 q hq, cm_bi_i, cm_p_ne (by decide), h.1]
                  have h2 := cmE_le (k := n.toNat) (by omega) hq
                  rw [if_neg (by omega)]
                  have := ih q.1 q.2 (cm_p (cm_p s 4115 (cm_n q.2)) 4112 q.1) (some (.inl q.1)) (rTx_p (rTx_p h (by decide)) (by decide)) cm_p_at (by rw [cm_p_ne (by decide), cm_p_at]) (by rw [cm_p_ne (by decide), cm_p_ne (by decide)]; exact h08) (by omega) (by omega) (by omega)
                  simpa only [rSk, cm_col (show (4115 : Nat) ≠ 4112 by decide)] using this
              · rw [show blE tx n (k + 1) p b = (p, b, false) by rw [blE, if_pos hp, if_neg hl, if_neg hw, if_neg (fun z => g47 z.2), if_neg (fun z => g42 z.2)], if_neg g42, rl_182z]
                exact ⟨fun _ => by rw [hsame], fun z => (by cases z)⟩
          · rw [show blE tx n (k + 1) p b = (p, b, false) by rw [blE, if_pos hp, if_neg hl, if_neg hw, if_neg (fun z => h47 z.1), if_neg (fun z => h47 z.1)], if_neg h47, rl_182z]
            exact ⟨fun _ => by rw [hsame], fun z => (by cases z)⟩
    · rw [show blE tx n (k + 1) p b = (p, b, false) by rw [blE, if_neg hp], if_neg hp, cs_181 ht h h0, cm_bi_i, tH_out (by omega), if_neg (by decide), rl_182z]
      exact ⟨fun _ => by rw [hsame], fun z => (by cases z)⟩
/-- skip() -/
theorem cs_182 (ht : tOk tx n) {s : cm_S} (h : rTx tx n s) (h08 : s.1 4108 = 0) (h0 : 0 ≤ s.1 4114) (h1 : s.1 4114 ≤ n) :
    ((blE tx n 481 (s.1 4114) false).2.2 = false → cm_sem 182 [.inr (.inl 41)] s = some (.inl none, rSk s (blE tx n 481 (s.1 4114) false).1 (blE tx n 481 (s.1 4114) false).2.1)) ∧
    ((blE tx n 481 (s.1 4114) false).2.2 = true → ∃ b', cm_sem 182 [.inr (.inl 41)] s = some (.inl none, cm_p (cm_p (rSk s (blE tx n 481 (s.1 4114) false).1 b') 4108 1) 4109 (blE tx n 481 (s.1 4114) false).1)) := by
  obtain ⟨t1, t2, -⟩ := id ht
  rw [cS_182, cF_182_0]
  have := rl_182 ht 481 (s.1 4114) false (cm_p (cm_p s 4115 0) 4112 (s.1 4114)) none (rTx_p (rTx_p h (by decide)) (by decide)) cm_p_at (by rw [cm_p_ne (by decide), cm_p_at]; rfl) (by rw [cm_p_ne (by decide), cm_p_ne (by decide)]; exact h08) (by omega) h0 h1
  simpa only [rSk, cm_col (show (4115 : Nat) ≠ 4112 by decide)] using this
end TX5
