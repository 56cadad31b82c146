theorem cs_33_1 (s : cm_S) : cm_sem 33 [.inr (.inl 15), .inl 1] s = some (.inr 0, cm_p (cm_p s 300 1) 301 (s.1 1505)) := by
  rw [cS_33, cF_33_0, if_neg (by decide), cs_34]
  rfl
/-- a refusal at the token's begin: z is where the scanner stood -/
def cRf (s : cm_S) (z : Int) : cm_S := cm_p (cm_p (cm_p s 1506 z) 300 1) 301 (s.1 1505)
section TX8
variable {tx : Int → Int} {n : Int}
theorem tA_lt {p c : Int} (h : tA tx n p = c) (hc : c ≠ -1) : p < n := by
  apply Int.lt_of_not_ge
  intro z
  rw [tA_out z] at h
  exact hc h.symm
theorem cs_36 (ht : tOk tx n) {s : cm_S} (h : cTx tx n s) {e : Int} (h0 : 0 ≤ e) (h1 : e ≤ 482) : cm_sem 36 [.inr (.inl 15), .inl e] s = some (.inl (some (.inl (if tA tx n e = 101 ∨ tA tx n e = 69 then (if tA tx n (e + 1) = 43 ∨ tA tx n (e + 1) = 45 then e + 2 else e + 1) else -1))), s) := by
  rw [cS_36, cF_36_0]
  simp only [cs_28 ht h, cm_bi_i, cm_w_id (show -2147483648 ≤ e + 1 by omega) (by omega), cm_w_id (show -2147483648 ≤ e + 2 by omega) (by omega)]
  repeat' split
  all_goals first | rfl | (exfalso; omega)
/-- the end of readNumber, from the exponent on -/
theorem tl_32 (ht : tOk tx n) {S : cm_S} (h : cTx tx n S) {e : Int} (he : S.1 1506 = e) (h0 : 0 ≤ e) (h1 : e ≤ n) : ∃ z, (cm_bi (cm_sem 36 [.inr (.inl 15), .inl e] S) fun z4 s4 =>
      if z4 = (-1) then
        cm_bi (cm_sem 28 [.inr (.inl 1), .inl (s4.1 1506)] s4) fun z5 s5 =>
          cm_bi (cm_sem 37 [.inl z5] s5) fun z6 s6 =>
            cm_bv (cm_sem 33 [.inr (.inl 15), .inl z6] s6) fun s7 =>
              some (.inl none, (cm_p s7 1503 3))
      else
        cm_bi (cm_sem 35 [.inr (.inl 15), .inl z4, .inl 0] s4) fun z8 s8 =>
          if z8 = z4 then
            cm_bv (cm_sem 33 [.inr (.inl 15), .inl 1] (cm_p s8 1506 z8)) fun s9 =>
              cm_bi (cm_sem 28 [.inr (.inl 1), .inl (s9.1 1506)] s9) fun z10 s10 =>
                cm_bi (cm_sem 37 [.inl z10] s10) fun z11 s11 =>
                  cm_bv (cm_sem 33 [.inr (.inl 15), .inl z11] s11) fun s12 =>
                    some (.inl none, (cm_p s12 1503 3))
          else
            cm_bv (cm_sem 33 [.inr (.inl 15), .inl 0] (cm_p s8 1506 z8)) fun s13 =>
              cm_bi (cm_sem 28 [.inr (.inl 1), .inl (s13.1 1506)] s13) fun z14 s14 =>
                cm_bi (cm_sem 37 [.inl z14] s14) fun z15 s15 =>
                  cm_bv (cm_sem 33 [.inr (.inl 15), .inl z15] s15) fun s16 =>
                    some (.inl none, (cm_p s16 1503 3))) = if nuX tx n e = -1 then some (.inr 0, cRf S z) else some (.inl none, cm_p (cm_p S 1506 (nuX tx n e)) 1503 3) := by
  obtain ⟨t1, t2, -⟩ := id ht
  have main : ∀ q : Int, 0 ≤ q → q ≤ n → q ≠ -1 → ((tA tx n e = 101 ∨ tA tx n e = 69) → nuX tx n e = (if cD (tA tx n q) then ckE tx n (whE tx n cD q) else -1)) → (tA tx n e = 101 ∨ tA tx n e = 69) → ∃ z, (cm_bi (cm_sem 35 [.inr (.inl 15), .inl q, .inl 0] S) fun z8 s8 =>
          if z8 = q then
            cm_bv (cm_sem 33 [.inr (.inl 15), .inl 1] (cm_p s8 1506 z8)) fun s9 =>
              cm_bi (cm_sem 28 [.inr (.inl 1), .inl (s9.1 1506)] s9) fun z10 s10 =>
                cm_bi (cm_sem 37 [.inl z10] s10) fun z11 s11 =>
                  cm_bv (cm_sem 33 [.inr (.inl 15), .inl z11] s11) fun s12 =>
                    some (.inl none, (cm_p s12 1503 3))
          else
            cm_bv (cm_sem 33 [.inr (.inl 15), .inl 0] (cm_p s8 1506 z8)) fun s13 =>
              cm_bi (cm_sem 28 [.inr (.inl 1), .inl (s13.1 1506)] s13) fun z14 s14 =>
                cm_bi (cm_sem 37 [.inl z14] s14) fun z15 s15 =>
                  cm_bv (cm_sem 33 [.inr (.inl 15), .inl z15] s15) fun s16 =>
                    some (.inl none, (cm_p s16 1503 3))) = if nuX tx n e = -1 then some (.inr 0, cRf S z) else some (.inl none, cm_p (cm_p S 1506 (nuX tx n e)) 1503 3) := by
    intro q q0 q1 qn hX hx
    rw [hX hx, cs_35d ht h q0 (by omega), cm_bi_i]
    have hw := whE_le (tx := tx) (n := n) cD n.toNat q (by omega)
    refine ⟨whE tx n cD q, ?_⟩
    simp only [whE_same cD (by decide) t1 q0, cs_33_1, cs_33_0, cm_bv_t, cm_bv_o, cm_p_at, cs_28 ht (cTx_p h (k := 1506) (by decide) (z := whE tx n cD q)), cm_bi_i, cs_37, cs_33]
    by_cases hd : cD (tA tx n q)
    · rw [if_neg (fun z => z hd), if_pos hd]
      simp only [ckE]
      by_cases hn : cN (tA tx n (whE tx n cD q))
      · simp only [hn, if_true, cm_bv_t]
        rfl
      · simp only [hn, if_false, cm_bv_o]
        rw [if_neg (by omega)]
    · rw [if_pos hd, if_neg hd, if_pos rfl]
      rfl
  rw [cs_36 ht h h0 (by omega), cm_bi_i]
  by_cases hx : tA tx n e = 101 ∨ tA tx n e = 69
  · have hen : e < n := by
      rcases hx with z | z
      · exact tA_lt z (by decide)
      · exact tA_lt z (by decide)
    rw [if_pos hx]
    by_cases hs : tA tx n (e + 1) = 43 ∨ tA tx n (e + 1) = 45
    · have hen2 : e + 1 < n := by
        rcases hs with z | z
        · exact tA_lt z (by decide)
        · exact tA_lt z (by decide)
      rw [if_pos hs, if_neg (by omega)]
      exact main (e + 2) (by omega) (by omega) (by omega) (fun _ => by rw [nuX, if_pos hx, if_pos hs]) hx
    · rw [if_neg hs, if_neg (by omega)]
      exact main (e + 1) (by omega) (by omega) (by omega) (fun _ => by rw [nuX, if_pos hx, if_neg hs]) hx
  · rw [if_neg hx, if_pos rfl]
    refine ⟨e, ?_⟩
    rw [nuX, if_neg hx]
    simp only [he, cs_28 ht h, cm_bi_i, cs_37, cs_33, ckE]
    by_cases hn : cN (tA tx n e)
    · simp only [hn, if_true, cm_bv_t, cRf, cm_p_same he]
    · simp only [hn, if_false, cm_bv_o, cm_p_same he]
      rw [if_neg (by omega)]
end TX8
