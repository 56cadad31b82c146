section TX9
variable {tx : Int → Int} {n : Int}
theorem cRf_p {s : cm_S} {x z : Int} : cRf (cm_p s 1506 x) z = cRf s z := by
  unfold cRf
  rw [cm_p_p, cm_p_ne (by decide)]
theorem nmE_x {p : Int} (hz : tA tx n p = 48) (hx : tA tx n (p + 1) = 120 ∨ tA tx n (p + 1) = 88) : nmE tx n p = if whE tx n cHx (p + 2) = p + 2 then -1 else ckE tx n (whE tx n cHx (p + 2)) := by
  unfold nmE
  rw [if_pos ⟨hz, hx⟩]
theorem nmE_0 {p : Int} (hz : tA tx n p = 48) (hd : cD (tA tx n (p + 1))) : nmE tx n p = -1 := by
  unfold nmE
  rw [if_neg (show ¬ (tA tx n p = 48 ∧ (tA tx n (p + 1) = 120 ∨ tA tx n (p + 1) = 88)) by omega), if_pos ⟨hz, hd⟩]
theorem nmE_d {p : Int} (h1 : ¬ (tA tx n p = 48 ∧ (tA tx n (p + 1) = 120 ∨ tA tx n (p + 1) = 88))) (h2 : ¬ (tA tx n p = 48 ∧ cD (tA tx n (p + 1)))) : nmE tx n p = nuD tx n p := by
  unfold nmE
  rw [if_neg h1, if_neg h2]
theorem cl_32_63 (ht : tOk tx n) {s : cm_S} (h : cTx tx n s) {p : Int} (hp : s.1 1505 = p) (h0 : 0 ≤ p) (h1 : p ≤ n) (o1 o2 o3 : Option cm_V) : ∃ z, cm_lp cm_sem cm_k32 63 [some (.inr (.inl 15)), o1, o2, o3] [] s = if nuD tx n p = -1 then some (.inr 0, cRf s z) else some (.inl none, cm_p (cm_p s 1506 (nuD tx n p)) 1503 3) := by
  obtain ⟨t1, t2, -⟩ := id ht
  have hw := whE_le (tx := tx) (n := n) cD n.toNat p (by omega)
  rw [cE_32_63, cF_32_63, hp, cs_35d ht h h0 (by omega), cm_bi_i, cs_28 ht (cTx_p h (by decide)), cm_bi_i]
  by_cases hd : tA tx n (whE tx n cD p) = 46
  · have hl := tA_lt hd (by decide)
    have hw2 := whE_le (tx := tx) (n := n) cD n.toNat (whE tx n cD p + 1) (by omega)
    rw [if_pos hd, nuD, if_pos hd, cm_p_at, cm_w_id (by omega) (by omega), cs_35d ht (cTx_p h (by decide)) (by omega) (by omega), cm_bi_i, cm_p_p]
    obtain ⟨z, hz⟩ := tl_32 ht (cTx_p h (k := 1506) (by decide) (z := whE tx n cD (whE tx n cD p + 1))) (e := whE tx n cD (whE tx n cD p + 1)) cm_p_at (by omega) (by omega)
    refine ⟨z, ?_⟩
    rw [hz, cRf_p, cm_p_p]
  · rw [if_neg hd, nuD, if_neg hd, cm_p_at]
    obtain ⟨z, hz⟩ := tl_32 ht (cTx_p h (k := 1506) (by decide) (z := whE tx n cD p)) (e := whE tx n cD p) cm_p_at (by omega) (by omega)
    refine ⟨z, ?_⟩
    rw [hz, cRf_p, cm_p_p]
theorem tl_32x (ht : tOk tx n) {s : cm_S} (h : cTx tx n s) {p : Int} (hp : s.1 1505 = p) (h0 : 0 ≤ p) (h1 : p + 2 ≤ n) : ∃ z, (cm_bi (cm_sem 35 [.inr (.inl 15), .inl (cm_w ((s.1 1505) + 2)), .inl 1] s) fun z2 s2 =>
          if z2 = (cm_w ((s2.1 1505) + 2)) then
            cm_bv (cm_sem 33 [.inr (.inl 15), .inl 1] (cm_p s2 1506 z2)) fun s3 =>
              cm_bi (cm_sem 28 [.inr (.inl 1), .inl (s3.1 1506)] s3) fun z4 s4 =>
                cm_bi (cm_sem 37 [.inl z4] s4) fun z5 s5 =>
                  cm_bv (cm_sem 33 [.inr (.inl 15), .inl z5] s5) fun s6 =>
                    some (.inl none, (cm_p s6 1503 3))
          else
            cm_bv (cm_sem 33 [.inr (.inl 15), .inl 0] (cm_p s2 1506 z2)) fun s7 =>
              cm_bi (cm_sem 28 [.inr (.inl 1), .inl (s7.1 1506)] s7) fun z8 s8 =>
                cm_bi (cm_sem 37 [.inl z8] s8) fun z9 s9 =>
                  cm_bv (cm_sem 33 [.inr (.inl 15), .inl z9] s9) fun s10 =>
                    some (.inl none, (cm_p s10 1503 3))) = if (if whE tx n cHx (p + 2) = p + 2 then -1 else ckE tx n (whE tx n cHx (p + 2))) = -1 then some (.inr 0, cRf s z) else some (.inl none, cm_p (cm_p s 1506 (if whE tx n cHx (p + 2) = p + 2 then -1 else ckE tx n (whE tx n cHx (p + 2)))) 1503 3) := by
  obtain ⟨t1, t2, -⟩ := id ht
  have hw := whE_le (tx := tx) (n := n) cHx n.toNat (p + 2) (by omega)
  refine ⟨whE tx n cHx (p + 2), ?_⟩
  rw [hp, cm_w_id (by omega) (by omega), cs_35x ht h (by omega) (by omega), cm_bi_i, hp, cm_w_id (by omega) (by omega)]
  simp only [cs_33_1, cs_33_0, cm_bv_t, cm_bv_o, cm_p_at, cs_28 ht (cTx_p h (k := 1506) (by decide) (z := whE tx n cHx (p + 2))), cm_bi_i, cs_37, cs_33]
  by_cases he : whE tx n cHx (p + 2) = p + 2
  · rw [if_pos he, if_pos he, if_pos rfl]
    rfl
  · rw [if_neg he, if_neg he]
    simp only [ckE]
    by_cases hn : cN (tA tx n (whE tx n cHx (p + 2)))
    · simp only [hn, if_true, cm_bv_t]
      rfl
    · simp only [hn, if_false, cm_bv_o]
      rw [if_neg (by omega)]
/-- the class: readNumber -/
theorem cs_32 (ht : tOk tx n) {s : cm_S} (h : cTx tx n s) {p : Int} (hp : s.1 1505 = p) (h0 : 0 ≤ p) (h1 : p < n) : ∃ z, cm_sem 32 [.inr (.inl 15)] s = if nmE tx n p = -1 then some (.inr 0, cRf s z) else some (.inl none, cm_p (cm_p s 1506 (nmE tx n p)) 1503 3) := by
  obtain ⟨t1, t2, -⟩ := id ht
  have ew : cm_w (p + 1) = p + 1 := cm_w_id (by omega) (by omega)
  rw [cS_32, cF_32_0, hp, cs_28 ht h, cm_bi_i]
  by_cases hz : tA tx n p = 48
  · rw [if_pos hz, cE_32_11, cF_32_11, hp, ew, cs_28 ht h, cm_bi_i, if_neg (by decide), cs_31, cm_bi_i]
    simp only [cm_b0]
    by_cases hd : cD (tA tx n (p + 1))
    · rw [if_neg (fun z => z hd), cE_32_31, cF_32_31, cs_33_1, cm_bv_t]
      refine ⟨s.1 1506, ?_⟩
      rw [nmE_0 hz hd, if_pos rfl, cRf, cm_p_same rfl]
    · rw [if_pos hd, cE_32_29, cF_32_29, cE_32_31, cF_32_31, cs_33_0, cm_bv_o, if_neg (by decide)]
      by_cases hx : tA tx n (p + 1) = 120 ∨ tA tx n (p + 1) = 88
      · have hl : p + 1 < n := by
          rcases hx with z | z
          · exact tA_lt z (by decide)
          · exact tA_lt z (by decide)
        rw [nmE_x hz hx]
        have := tl_32x ht h hp h0 (by omega)
        rcases hx with z | z
        · rw [if_pos z]
          exact this
        · rw [if_neg (show ¬ tA tx n (p + 1) = 120 by omega), if_pos z]
          exact this
      · rw [nmE_d (fun z => hx z.2) (fun z => hd z.2), if_neg (show ¬ tA tx n (p + 1) = 120 by omega), if_neg (show ¬ tA tx n (p + 1) = 88 by omega)]
        exact cl_32_63 ht h hp h0 (by omega) _ _ _
  · rw [if_neg hz, cE_32_11, cF_32_11, hp, ew, cs_28 ht h, cm_bi_i, if_pos rfl, cE_32_29, cF_32_29, cE_32_31, cF_32_31, cs_33_0, cm_bv_o, if_pos rfl, nmE_d (fun z => hz z.1) (fun z => hz z.1)]
    exact cl_32_63 ht h hp h0 (by omega) _ _ _
/-! the reference: numberEnd -/
theorem tl_190 (ht : tOk tx n) {s : cm_S} (h : rTx tx n s) {e : Int} (h0 : 0 ≤ e) : (cm_bi (cm_sem 181 [.inr (.inl 41), .inl e] s) fun z3 s3 =>
            cm_bi (cm_sem 187 [.inl z3] s3) fun z4 s4 =>
              if z4 = 0 then
                some (.inl (some (.inl e)), s4)
              else
                some (.inl (some (.inl (-1))), s4)) = some (.inl (some (.inl (ckE tx n e))), s) := by
  rw [cs_181 ht h h0, cm_bi_i, cs_187, cm_bi_i, ckE]
  simp only [cm_b0, tH_N (tx := tx) (n := n) h0]
  by_cases hn : cN (tA tx n e)
  · rw [if_neg (fun z => z hn), if_pos hn]
  · rw [if_pos hn, if_neg hn]
theorem rl_190x (ht : tOk tx n) {s : cm_S} (h : rTx tx n s) : ∀ (k : Nat) (p q : Int) (o3 : Option cm_V), n ≤ q + k → 0 ≤ p → p + 2 ≤ q → q ≤ n → cm_lp cm_sem cm_k190 24 [some (.inr (.inl 41)), some (.inl p), some (.inl q), o3] [] s = some (.inl (some (.inl (if whE tx n cHx q = p + 2 then -1 else ckE tx n (whE tx n cHx q)))), s) := by
  obtain ⟨t1, t2, -⟩ := id ht
  intro k
  induction k with
  | zero =>
    intro p q o3 hk h0 h1 h2
    rw [cE_190_24, cF_190_24, cs_181 ht h (by omega), cm_bi_i, cs_191, cm_bi_i, tH_out (by omega), whE_ge cHx (by omega), cm_w_id (by omega) (by omega)]
    simp only [cm_b0]
    rw [if_pos (by decide)]
    by_cases he : q = p + 2
    · rw [if_pos he, if_pos he]
    · rw [if_neg he, if_neg he]
      exact tl_190 ht h (by omega)
  | succ k ih =>
    intro p q o3 hk h0 h1 h2
    rw [cE_190_24, cF_190_24, cs_181 ht h (by omega), cm_bi_i, cs_191, cm_bi_i, whE_eq cHx (by decide) (by omega : 0 ≤ q), cm_w_id (show -2147483648 ≤ p + 2 by omega) (by omega)]
    simp only [cm_b0, tH_X (tx := tx) (n := n) (show 0 ≤ q by omega)]
    by_cases hc : cHx (tA tx n q)
    · have hl : q < n := by
        apply Int.lt_of_not_ge
        intro z
        rw [tA_out z] at hc
        omega
      rw [if_neg (fun z => z hc), if_pos hc, cm_w_id (by omega) (by omega)]
      exact ih p (q + 1) o3 (by omega) h0 (by omega) (by omega)
    · rw [if_pos hc, if_neg hc]
      by_cases he : q = p + 2
      · rw [if_pos he, if_pos he]
      · rw [if_neg he, if_neg he]
        exact tl_190 ht h (by omega)
theorem rl_190_86 (ht : tOk tx n) {s : cm_S} (h : rTx tx n s) {e : Int} (h0 : 0 ≤ e) (hx : tA tx n e = 101 ∨ tA tx n e = 69) (o1 o3 : Option cm_V) : cm_lp cm_sem cm_k190 86 [some (.inr (.inl 41)), o1, some (.inl e), o3] [] s = some (.inl (some (.inl (nuX tx n e))), s) := by
  obtain ⟨t1, t2, -⟩ := id ht
  have hen : e < n := by
    rcases hx with z | z
    · exact tA_lt z (by decide)
    · exact tA_lt z (by decide)
  have hck : ckE tx n e = -1 := by
    unfold ckE
    rw [if_pos (by omega)]
  have hw1 := whE_le (tx := tx) (n := n) cD n.toNat (e + 1) (by omega)
  rw [cE_190_86, cF_190_86, nuX, if_pos hx, cm_w_id (show -2147483648 ≤ e + 1 by omega) (by omega), cm_w_id (show -2147483648 ≤ e + 2 by omega) (by omega), cs_181 ht h (by omega), cm_bi_i]
  simp only [tH_is ht (show 0 ≤ e + 1 by omega) (show (43 : Int) ≠ 0 by decide) (show (43 : Int) ≠ -1 by decide), cs_181 ht h (show 0 ≤ e + 1 by omega), cm_bi_i, tH_is ht (show 0 ≤ e + 1 by omega) (show (45 : Int) ≠ 0 by decide) (show (45 : Int) ≠ -1 by decide), cs_181 ht h (show 0 ≤ e + 2 by omega), cs_188, cm_b0, tl_190 ht h h0, hck]
  simp only [tH_D (tx := tx) (n := n) (show 0 ≤ e + 1 by omega), tH_D (tx := tx) (n := n) (show 0 ≤ e + 2 by omega)]
  rw [cs_192 ht h (show 0 ≤ e + 1 by omega) (by omega), cs_192 ht h (show 0 ≤ e + 2 by omega) (by omega)]
  have hw2 := whE_le (tx := tx) (n := n) cD n.toNat (e + 2) (by omega)
  simp only [cm_bi_i, tl_190 ht h (show 0 ≤ whE tx n cD (e + 1) by omega), tl_190 ht h (show 0 ≤ whE tx n cD (e + 2) by omega)]
  by_cases h43 : tA tx n (e + 1) = 43
  · rw [if_pos h43, if_pos (Or.inl h43)]
    by_cases hd : cD (tA tx n (e + 2))
    · rw [if_neg (fun z => z hd), if_pos hd]
    · rw [if_pos hd, if_neg hd]
  · by_cases h45 : tA tx n (e + 1) = 45
    · rw [if_neg h43, if_pos h45, if_pos (Or.inr h45)]
      by_cases hd : cD (tA tx n (e + 2))
      · rw [if_neg (fun z => z hd), if_pos hd]
      · rw [if_pos hd, if_neg hd]
    · rw [if_neg h43, if_neg h45, if_neg (show ¬ (tA tx n (e + 1) = 43 ∨ tA tx n (e + 1) = 45) by omega)]
      by_cases hd : cD (tA tx n (e + 1))
      · rw [if_neg (fun z => z hd), if_pos hd]
      · rw [if_pos hd, if_neg hd]
theorem rl_190_75 (ht : tOk tx n) {s : cm_S} (h : rTx tx n s) {e : Int} (h0 : 0 ≤ e) (o1 o3 : Option cm_V) : cm_lp cm_sem cm_k190 75 [some (.inr (.inl 41)), o1, some (.inl e), o3] [] s = some (.inl (some (.inl (nuX tx n e))), s) := by
  rw [cE_190_75, cF_190_75]
  simp only [cs_181 ht h h0, cm_bi_i, tH_is ht h0 (show (101 : Int) ≠ 0 by decide) (show (101 : Int) ≠ -1 by decide), tH_is ht h0 (show (69 : Int) ≠ 0 by decide) (show (69 : Int) ≠ -1 by decide)]
  by_cases h1 : tA tx n e = 101
  · rw [if_pos h1]
    exact rl_190_86 ht h h0 (Or.inl h1) _ _
  · by_cases h2 : tA tx n e = 69
    · rw [if_neg h1, if_pos h2]
      exact rl_190_86 ht h h0 (Or.inr h2) _ _
    · rw [if_neg h1, if_neg h2, nuX, if_neg (by omega), ckE, cs_187, cm_bi_i]
      simp only [cm_b0, tH_N (tx := tx) (n := n) h0]
      by_cases hn : cN (tA tx n e)
      · rw [if_neg (fun z => z hn), if_pos hn]
      · rw [if_pos hn, if_neg hn]
theorem rl_190_63 (ht : tOk tx n) {s : cm_S} (h : rTx tx n s) {p : Int} (h0 : 0 ≤ p) (h1 : p ≤ n) (o1 o3 : Option cm_V) : cm_lp cm_sem cm_k190 63 [some (.inr (.inl 41)), o1, some (.inl (whE tx n cD p)), o3] [] s = some (.inl (some (.inl (nuD tx n p))), s) := by
  obtain ⟨t1, t2, -⟩ := id ht
  have hw := whE_le (tx := tx) (n := n) cD n.toNat p (by omega)
  rw [cE_190_63, cF_190_63, cs_181 ht h (by omega), cm_bi_i, nuD]
  simp only [tH_is ht (show 0 ≤ whE tx n cD p by omega) (show (46 : Int) ≠ 0 by decide) (show (46 : Int) ≠ -1 by decide)]
  by_cases hd : tA tx n (whE tx n cD p) = 46
  · have hl := tA_lt hd (by decide)
    have hw2 := whE_le (tx := tx) (n := n) cD n.toNat (whE tx n cD p + 1) (by omega)
    rw [if_pos hd, if_pos hd, cm_w_id (by omega) (by omega), cs_192 ht h (by omega) (by omega), cm_bi_i]
    exact rl_190_75 ht h (by omega) _ _
  · rw [if_neg hd, if_neg hd]
    exact rl_190_75 ht h (by omega) _ _
/-- the reference: numberEnd -/
theorem cs_190 (ht : tOk tx n) {s : cm_S} (h : rTx tx n s) {p : Int} (h0 : 0 ≤ p) (h1 : p < n) : cm_sem 190 [.inr (.inl 41), .inl p] s = some (.inl (some (.inl (nmE tx n p))), s) := by
  obtain ⟨t1, t2, -⟩ := id ht
  have hw := whE_le (tx := tx) (n := n) cD n.toNat p (by omega)
  have g46 : ¬ (tA tx n p = 48 ∧ (tA tx n (p + 1) = 120 ∨ tA tx n (p + 1) = 88)) → ∀ o2 o3, cm_lp cm_sem cm_k190 46 [some (.inr (.inl 41)), some (.inl p), o2, o3] [] s = some (.inl (some (.inl (nmE tx n p))), s) := by
    intro hn o2 o3
    rw [cE_190_46, cF_190_46, cs_192 ht h h0 (by omega), cm_bi_i, cs_181 ht h h0, cm_bi_i]
    simp only [tH_is ht h0 (show (48 : Int) ≠ 0 by decide) (show (48 : Int) ≠ -1 by decide)]
    by_cases hz : tA tx n p = 48
    · have hcp : cD (tA tx n p) := by omega
      have e1 : whE tx n cD p = whE tx n cD (p + 1) := by rw [whE_eq cD (by decide) h0, if_pos hcp]
      have e2 := whE_same (tx := tx) (n := n) cD (by decide) t1 (show 0 ≤ p + 1 by omega)
      have hw1 := whE_le (tx := tx) (n := n) cD n.toNat (p + 1) (by omega)
      rw [if_pos hz, cm_w_id (by omega) (by omega)]
      by_cases hd : cD (tA tx n (p + 1))
      · have h3 : whE tx n cD (p + 1) ≠ p + 1 := fun z => (e2 ▸ z) hd
        rw [if_pos (by omega), nmE_0 hz hd]
      · have h3 : whE tx n cD (p + 1) = p + 1 := e2 ▸ hd
        rw [if_neg (by omega), nmE_d hn (fun z => hd z.2)]
        exact rl_190_63 ht h h0 (by omega) _ _
    · rw [if_neg hz, nmE_d hn (fun z => hz z.1)]
      exact rl_190_63 ht h h0 (by omega) _ _
  rw [cS_190, cF_190_0, cs_181 ht h h0, cm_bi_i, cm_w_id (show -2147483648 ≤ p + 1 by omega) (by omega), cm_w_id (show -2147483648 ≤ p + 2 by omega) (by omega)]
  simp only [tH_is ht h0 (show (48 : Int) ≠ 0 by decide) (show (48 : Int) ≠ -1 by decide), cs_181 ht h (show 0 ≤ p + 1 by omega), cm_bi_i, tH_is ht (show 0 ≤ p + 1 by omega) (show (120 : Int) ≠ 0 by decide) (show (120 : Int) ≠ -1 by decide), tH_is ht (show 0 ≤ p + 1 by omega) (show (88 : Int) ≠ 0 by decide) (show (88 : Int) ≠ -1 by decide)]
  by_cases hz : tA tx n p = 48
  · rw [if_pos hz]
    by_cases hx : tA tx n (p + 1) = 120 ∨ tA tx n (p + 1) = 88
    · have hl : p + 1 < n := by
        rcases hx with z | z
        · exact tA_lt z (by decide)
        · exact tA_lt z (by decide)
      have := rl_190x ht h n.toNat p (p + 2) none (by omega) h0 (by omega) (by omega)
      rw [nmE_x hz hx]
      rcases hx with z | z
      · rw [if_pos z]
        exact this
      · rw [if_neg (show ¬ tA tx n (p + 1) = 120 by omega), if_pos z]
        exact this
    · rw [if_neg (show ¬ tA tx n (p + 1) = 120 by omega), if_neg (show ¬ tA tx n (p + 1) = 88 by omega)]
      exact g46 (fun z => hx z.2) _ _
  · rw [if_neg hz]
    exact g46 (fun z => hz z.1) _ _
end TX9
