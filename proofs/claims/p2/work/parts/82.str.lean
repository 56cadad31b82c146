/-! ===== strings, on both sides ===== -/
section TX10
variable (tx : Int → Int) (n : Int)
/-- where a string with the quote q ends, from p on; -1 if it does not -/
def stE (q p : Int) : Int := if p < n then (if tx p = q then p + 1 else if tx p = 92 then (if p + 1 < n then (if tx (p + 1) = 13 ∧ tA tx n (p + 2) = 10 then stE q (p + 3) else stE q (p + 2)) else -1) else if cLe (tx p) then -1 else stE q (p + 1)) else -1
termination_by (n - p).toNat
decreasing_by all_goals omega
end TX10
/-- a refusal at the token's begin -/
def cRz (s : cm_S) : cm_S := cm_p (cm_p s 300 1) 301 (s.1 1505)
section TX11
variable {tx : Int → Int} {n : Int}
theorem stE_le {q : Int} : ∀ (k : Nat) (p : Int), n ≤ p + k → 0 ≤ p → stE tx n q p = -1 ∨ p + 1 ≤ stE tx n q p ∧ stE tx n q p ≤ n := by
  intro k
  induction k with
  | zero => intro p hk h0; rw [stE, if_neg (by omega)]; exact Or.inl rfl
  | succ k ih =>
    intro p hk h0
    rw [stE]
    split
    · split
      · exact Or.inr (by omega)
      · split
        · split
          · split
            · have := ih (p + 3) (by omega) (by omega); omega
            · have := ih (p + 2) (by omega) (by omega); omega
          · exact Or.inl rfl
        · split
          · exact Or.inl rfl
          · have := ih (p + 1) (by omega) (by omega); omega
    · exact Or.inl rfl
set_option maxHeartbeats 1000000 in
theorem cl_42 (ht : tOk tx n) {s : cm_S} (h : cTx tx n s) {q : Int} (hq : q ≠ -1) : ∀ (k : Nat) (p x3 : Int) (o4 : Option cm_V), n ≤ p + k → 0 ≤ x3 → x3 + 1 ≤ p → p ≤ n → cm_lp cm_sem cm_k42 8 [some (.inr (.inl 15)), some (.inl q), some (.inl p), some (.inl x3), o4] [] s = if stE tx n q p = -1 then some (.inr 0, cRz s) else some (.inl none, cm_p (cm_p s 1506 (stE tx n q p)) 1503 4) := by
  obtain ⟨t1, t2, -⟩ := id ht
  intro k
  induction k with
  | zero =>
    intro p x3 o4 hk h0 h1 h2
    rw [cE_42_8, cF_42_8, if_pos (by omega), cs_28 ht h, cm_bi_i, tA_out (by omega), if_neg (Ne.symm hq), cs_28 ht h, cm_bi_i, tA_out (by omega), if_pos rfl, cE_42_30, cF_42_30, cs_33_1, cm_bv_t, show stE tx n q p = -1 by rw [stE, if_neg (show ¬ p < n by omega)], if_pos rfl]
    rfl
  | succ k ih =>
    intro p x3 o4 hk h0 h1 h2
    have ew : cm_w (p + 1) = p + 1 := cm_w_id (by omega) (by omega)
    have ew2 : cm_w (x3 + 1) = x3 + 1 := cm_w_id (by omega) (by omega)
    have ew3 : cm_w (p + 1 + 1) = p + 2 := (cm_w_id (by omega) (by omega)).trans (by omega)
    have ew4 : cm_w (p + 1 + 2) = p + 3 := (cm_w_id (by omega) (by omega)).trans (by omega)
    by_cases hp : p < n
    · have e : tA tx n p = tx p := tA_in (by omega) hp
      rw [cE_42_8, cF_42_8, if_pos (by omega), cs_28 ht h, cm_bi_i, e]
      by_cases hc : tx p = q
      · rw [if_pos hc, ew, show stE tx n q p = p + 1 by rw [stE, if_pos hp, if_pos hc], if_neg (by omega)]
      · rw [if_neg hc, cs_28 ht h, cm_bi_i, e]
        have hn1 : ¬ tx p = -1 := by
          have := ht.2.2 p (by omega) hp
          omega
        rw [if_neg hn1, cs_11, cm_bi_i]
        simp only [cm_b0]
        by_cases hl : cLe (tx p)
        · rw [if_neg (fun z => z hl), cE_42_30, cF_42_30, cs_33_1, cm_bv_t, show stE tx n q p = -1 by rw [stE, if_pos hp, if_neg hc, if_neg (by omega), if_pos hl], if_pos rfl]
          rfl
        · rw [if_pos hl, cs_33_0, cm_bv_o]
          by_cases h92 : tx p = 92
          · rw [if_pos h92, ew, cs_28 ht h, cm_bi_i, ew3, ew4, ew2]
            by_cases hp1 : p + 1 < n
            · have e1 : tA tx n (p + 1) = tx (p + 1) := tA_in (by omega) hp1
              have hn2 : ¬ tx (p + 1) = -1 := by
                have := ht.2.2 (p + 1) (by omega) hp1
                omega
              rw [e1, if_neg hn2, cs_33_0, cm_bv_o, cs_28 ht h, cm_bi_i, e1]
              by_cases h13 : tx (p + 1) = 13
              · rw [if_pos h13, cs_28 ht h, cm_bi_i]
                by_cases h10 : tA tx n (p + 2) = 10
                · have := tA_lt h10 (by decide)
                  rw [if_pos h10, show stE tx n q p = stE tx n q (p + 3) by rw [stE, if_pos hp, if_neg hc, if_pos h92, if_pos hp1, if_pos ⟨h13, h10⟩]]
                  exact ih (p + 3) (x3 + 1) _ (by omega) (by omega) (by omega) (by omega)
                · rw [if_neg h10, show stE tx n q p = stE tx n q (p + 2) by rw [stE, if_pos hp, if_neg hc, if_pos h92, if_pos hp1, if_neg (fun z => h10 z.2)]]
                  exact ih (p + 2) (x3 + 1) _ (by omega) (by omega) (by omega) (by omega)
              · rw [if_neg h13, show stE tx n q p = stE tx n q (p + 2) by rw [stE, if_pos hp, if_neg hc, if_pos h92, if_pos hp1, if_neg (fun z => h13 z.1)]]
                exact ih (p + 2) (x3 + 1) _ (by omega) (by omega) (by omega) (by omega)
            · rw [tA_out (by omega), if_pos rfl, cs_33_1, cm_bv_t, show stE tx n q p = -1 by rw [stE, if_pos hp, if_neg hc, if_pos h92, if_neg hp1], if_pos rfl]
              rfl
          · rw [if_neg h92, ew, ew2, show stE tx n q p = stE tx n q (p + 1) by rw [stE, if_pos hp, if_neg hc, if_neg h92, if_neg hl]]
            exact ih (p + 1) (x3 + 1) _ (by omega) (by omega) (by omega) (by omega)
    · rw [cE_42_8, cF_42_8, if_pos (by omega), cs_28 ht h, cm_bi_i, tA_out (by omega), if_neg (Ne.symm hq), cs_28 ht h, cm_bi_i, tA_out (by omega), if_pos rfl, cE_42_30, cF_42_30, cs_33_1, cm_bv_t, show stE tx n q p = -1 by rw [stE, if_neg (show ¬ p < n by omega)], if_pos rfl]
      rfl
/-- the class: readString -/
theorem cs_42 (ht : tOk tx n) {s : cm_S} (h : cTx tx n s) {q p : Int} (hq : q ≠ -1) (hp : s.1 1505 = p) (h0 : 0 ≤ p) (h1 : p < n) : cm_sem 42 [.inr (.inl 15), .inl q] s = if stE tx n q (p + 1) = -1 then some (.inr 0, cRz s) else some (.inl none, cm_p (cm_p s 1506 (stE tx n q (p + 1))) 1503 4) := by
  obtain ⟨t1, t2, -⟩ := id ht
  rw [cS_42, cF_42_0, hp, cm_w_id (by omega) (by omega)]
  exact cl_42 ht h hq n.toNat (p + 1) 0 none (by omega) (by omega) (by omega) (by omega)
theorem rl_193 (ht : tOk tx n) {s : cm_S} (h : rTx tx n s) {j q : Int} (hj : 0 ≤ j ∧ j < n) (hq : tx j = q) : ∀ (k : Nat) (p : Int), n ≤ p + k → 0 ≤ p → p ≤ n → cm_lp cm_sem cm_k193 5 [some (.inr (.inl 41)), some (.inl j), some (.inl p)] [] s = some (.inl (some (.inl (stE tx n q p))), s) := by
  obtain ⟨t1, t2, -⟩ := id ht
  have base : ∀ p, n ≤ p → cm_lp cm_sem cm_k193 5 [some (.inr (.inl 41)), some (.inl j), some (.inl p)] [] s = some (.inl (some (.inl (stE tx n q p))), s) := by
    intro p hp
    rw [cE_193_5, cF_193_5, h.1, if_neg (by omega), if_neg (by omega), stE, if_neg (by omega)]
  intro k
  induction k with
  | zero => intro p hk h0 h1; exact base p (by omega)
  | succ k ih =>
    intro p hk h0 h1
    by_cases hp : p < n
    · have ew : cm_w (p + 1) = p + 1 := cm_w_id (by omega) (by omega)
      have ew3 : cm_w (p + 2) = p + 2 := cm_w_id (by omega) (by omega)
      have ew4 : cm_w (p + 3) = p + 3 := cm_w_id (by omega) (by omega)
      rw [cE_193_5, cF_193_5, h.1, if_pos hp, if_pos (show (0 : Int) ≤ p ∧ p < 480 by omega), if_pos (show (0 : Int) ≤ j ∧ j < 480 by omega), h.2 p h0 hp, h.2 j hj.1 hj.2, hq, ew, ew3, ew4]
      by_cases hc : tx p = q
      · rw [if_pos hc, if_pos hp, show stE tx n q p = p + 1 by rw [stE, if_pos hp, if_pos hc]]
      · rw [if_neg hc, if_pos (show (0 : Int) ≤ p ∧ p < 480 by omega)]
        by_cases h92 : tx p = 92
        · rw [if_pos h92]
          by_cases hp1 : p + 1 < n
          · rw [if_pos hp1, if_pos (show (0 : Int) ≤ p + 1 ∧ p + 1 < 480 by omega), h.2 (p + 1) (by omega) hp1]
            by_cases h13 : tx (p + 1) = 13
            · rw [if_pos h13, cs_181 ht h (by omega), cm_bi_i]
              simp only [tH_is ht (show 0 ≤ p + 2 by omega) (show (10 : Int) ≠ 0 by decide) (show (10 : Int) ≠ -1 by decide)]
              by_cases h10 : tA tx n (p + 2) = 10
              · have := tA_lt h10 (by decide)
                rw [if_pos h10, show stE tx n q p = stE tx n q (p + 3) by rw [stE, if_pos hp, if_neg hc, if_pos h92, if_pos hp1, if_pos ⟨h13, h10⟩]]
                exact ih (p + 3) (by omega) (by omega) (by omega)
              · rw [if_neg h10, show stE tx n q p = stE tx n q (p + 2) by rw [stE, if_pos hp, if_neg hc, if_pos h92, if_pos hp1, if_neg (fun z => h10 z.2)]]
                exact ih (p + 2) (by omega) (by omega) (by omega)
            · rw [if_neg h13, show stE tx n q p = stE tx n q (p + 2) by rw [stE, if_pos hp, if_neg hc, if_pos h92, if_pos hp1, if_neg (fun z => h13 z.1)]]
              exact ih (p + 2) (by omega) (by omega) (by omega)
          · rw [if_neg hp1, show stE tx n q p = -1 by rw [stE, if_pos hp, if_neg hc, if_pos h92, if_neg hp1]]
        · rw [if_neg h92, if_pos (show (0 : Int) ≤ p ∧ p < 480 by omega), cs_183, cm_bi_i]
          simp only [cm_b0]
          by_cases hl : cLe (tx p)
          · rw [if_neg (fun z => z hl), show stE tx n q p = -1 by rw [stE, if_pos hp, if_neg hc, if_neg h92, if_pos hl]]
          · rw [if_pos hl, show stE tx n q p = stE tx n q (p + 1) by rw [stE, if_pos hp, if_neg hc, if_neg h92, if_neg hl]]
            exact ih (p + 1) (by omega) (by omega) (by omega)
    · exact base p (by omega)
/-- the reference: stringEnd -/
theorem cs_193 (ht : tOk tx n) {s : cm_S} (h : rTx tx n s) {p : Int} (h0 : 0 ≤ p) (h1 : p < n) : cm_sem 193 [.inr (.inl 41), .inl p] s = some (.inl (some (.inl (stE tx n (tx p) (p + 1)))), s) := by
  obtain ⟨t1, t2, -⟩ := id ht
  rw [cS_193, cF_193_0, cm_w_id (by omega) (by omega)]
  exact rl_193 ht h ⟨h0, h1⟩ rfl n.toNat (p + 1) (by omega) (by omega) (by omega)
end TX11
