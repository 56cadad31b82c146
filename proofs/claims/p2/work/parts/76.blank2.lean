theorem cm_p_p {s : cm_S} {k : Nat} {x y : Int} : cm_p (cm_p s k x) k y = cm_p s k y := by
  unfold cm_p
  congr 1
  funext i
  by_cases h : i = k <;> simp [h]
theorem cm_p_same {s : cm_S} {k : Nat} {x : Int} (h : s.1 k = x) : cm_p s k x = s := by
  unfold cm_p
  obtain ⟨f, g⟩ := s
  congr 1
  funext i
  by_cases hi : i = k
  · subst hi; simpa using h.symm
  · simp [hi]
theorem cTx_p {tx : Int → Int} {n : Int} {s : cm_S} (h : cTx tx n s) {k : Nat} (hk : 102 ≠ k) {z : Int} : cTx tx n (cm_p s k z) := ⟨by rw [cm_p_ne hk]; exact h.1, h.2⟩
theorem rTx_p {tx : Int → Int} {n : Int} {s : cm_S} (h : rTx tx n s) {k : Nat} (hk : 4107 ≠ k) {z : Int} : rTx tx n (cm_p s k z) := ⟨by rw [cm_p_ne hk]; exact h.1, h.2⟩
section TX3
variable {tx : Int → Int} {n : Int} {s : cm_S}
theorem tA_in {p : Int} (h0 : 0 ≤ p) (h1 : p < n) : tA tx n p = tx p := by unfold tA; rw [if_pos ⟨h0, h1⟩]
theorem tA_out {p : Int} (h1 : n ≤ p) : tA tx n p = -1 := by unfold tA; rw [if_neg (by omega)]
theorem tH_in {p : Int} (h1 : p < n) : tH tx n p = tx p := by unfold tH; rw [if_pos h1]
theorem tH_out {p : Int} (h1 : n ≤ p) : tH tx n p = 0 := by unfold tH; rw [if_neg (by omega)]
/-- the two sides' characters are asked for alike -/
theorem tH_is (ht : tOk tx n) {p c : Int} (h0 : 0 ≤ p) (c0 : c ≠ 0) (c1 : c ≠ -1) : (tH tx n p = c) = (tA tx n p = c) := by
  by_cases h : p < n
  · rw [tH_in h, tA_in h0 h]
  · rw [tH_out (by omega), tA_out (by omega)]
    simp only [eq_iff_iff]
    omega
theorem blE_le (ht : tOk tx n) : ∀ (k : Nat) (p : Int) (b : Bool), 0 ≤ p → p ≤ n → p ≤ (blE tx n k p b).1 ∧ (blE tx n k p b).1 ≤ n := by
  intro k
  induction k with
  | zero => intro p b h0 h1; exact ⟨Int.le_refl _, h1⟩
  | succ k ih =>
    intro p b h0 h1
    obtain ⟨t1, t2, -⟩ := id ht
    rw [blE]
    split
    · split
      · have := ih (p + 1) true (by omega) (by omega); omega
      · split
        · have := ih (p + 1) b (by omega) (by omega); omega
        · split
          · have h2 := lnE_le (tx := tx) (n := n) (p := p) n.toNat (by omega) h1
            have := ih (lnE tx n p) b (by omega) (by omega); omega
          · split
            · split
              · next q hq =>
                have h2 := cmE_le (k := n.toNat) (by omega) hq
                have := ih q.1 q.2 (by omega) (by omega); omega
              · exact ⟨Int.le_refl _, h1⟩
            · exact ⟨Int.le_refl _, h1⟩
    · exact ⟨Int.le_refl _, h1⟩
set_option maxHeartbeats 1000000 in
/-- the class: behindBlanks -/
theorem cl_27 (ht : tOk tx n) (h : cTx tx n s) : ∀ (k : Nat) (p : Int) (b : Bool) (x3 : Int) (o1 o4 o5 : Option cm_V), k ≤ 481 → x3 = 481 - k → 0 ≤ p → p ≤ n → cm_lp cm_sem cm_k27 8 [some (.inr (.inl 15)), o1, some (.inl p), some (.inl x3), o4, o5] [] (cm_p s 1502 (cm_n b)) = some (.inl (some (.inl (blE tx n k p b).1)), cm_p s 1502 (cm_n (blE tx n k p b).2.1)) := by
  obtain ⟨t1, t2, -⟩ := id ht
  intro k
  induction k with
  | zero =>
    intro p b x3 o1 o4 o5 hk hx h0 h1
    rw [cE_27_8, cF_27_8, if_pos (by omega)]
    rfl
  | succ k ih =>
    intro p b x3 o1 o4 o5 hk hx h0 h1
    have hs := cTx_p h (k := 1502) (by decide) (z := cm_n b)
    have ew : cm_w (p + 1) = p + 1 := cm_w_id (by omega) (by omega)
    have ew2 : cm_w (x3 + 1) = x3 + 1 := cm_w_id (by omega) (by omega)
    rw [cE_27_8, cF_27_8, if_neg (by omega)]
    simp only [cs_28 ht hs, cs_11, cm_bi_i, cm_b0, ew, ew2, cm_p_p]
    rw [blE]
    by_cases hp : p < n
    · rw [if_pos hp, tA_in h0 hp]
      have gA : ∀ (q : Int) (b' : Bool) (o5 : Option cm_V), 0 ≤ q → q ≤ n → cm_lp cm_sem cm_k27 8 [some (.inr (.inl 15)), o1, some (.inl q), some (.inl (x3 + 1)), some (.inl (tx p)), o5] [] (cm_p s 1502 (cm_n b')) = some (.inl (some (.inl (blE tx n k q b').1)), cm_p s 1502 (cm_n (blE tx n k q b').2.1)) := fun q b' o5 q0 q1 => ih q b' (x3 + 1) o1 _ o5 (by omega) (by omega) q0 q1
      have g1 : cm_lp cm_sem cm_k27 8 [some (.inr (.inl 15)), o1, some (.inl (p + 1)), some (.inl (x3 + 1)), some (.inl (tx p)), o5] [] (cm_p s 1502 1) = _ := gA (p + 1) true o5 (by omega) (by omega)
      by_cases hl : cLe (tx p)
      · simp only [hl, not_true, if_false, if_true]
        exact g1
      · simp only [hl, not_false_eq_true, if_true, if_false]
        by_cases h32 : tx p = 32
        · simp only [h32, if_true, true_or]
          have := gA (p + 1) b o5 (by omega) (by omega)
          rw [h32] at this
          exact this
        · by_cases h9 : tx p = 9
          · simp only [h9, or_true, if_true]
            rw [if_neg (by decide)]
            have := gA (p + 1) b o5 (by omega) (by omega)
            rw [h9] at this
            exact this
          · rw [if_neg h32, if_neg h9, if_neg (show ¬ (tx p = 32 ∨ tx p = 9) by omega)]
            by_cases h47 : tx p = 47
            · simp only [h47, if_true, true_and]
              by_cases g47 : tA tx n (p + 1) = 47
              · rw [if_pos g47, if_pos g47]
                rw [cs_29 ht hs h0 h1, cm_bi_i]
                have h2 := lnE_le (tx := tx) (n := n) (p := p) n.toNat (by omega) h1
                have := gA (lnE tx n p) b o5 (by omega) (by omega)
                rw [h47] at this
                exact this
              · rw [if_neg g47, if_neg g47]
                by_cases g42 : tA tx n (p + 1) = 42
                · rw [if_pos g42, if_pos g42, cs_30 ht hs cm_p_at h0 h1]
                  have e0 := cmE_or (tx := tx) (n := n) (p := p + 2) n.toNat false b (by omega)
                  rw [Bool.or_false] at e0
                  rw [e0]
                  cases hq : cmE tx n (p + 2) false with
                  | none => simp only [cm_bi_i, if_true, Option.map_none]
                  | some q =>
                    have h2 := cmE_le (k := n.toNat) (by omega) hq
                    simp only [cm_bi_i, Option.map_some, cm_p_p]
                    rw [if_neg (by omega)]
                    have := gA q.1 (b || q.2) (some (.inl q.1)) (by omega) (by omega)
                    rw [h47] at this
                    exact this
                · rw [if_neg g42, if_neg g42]
            · rw [if_neg h47, if_neg h47, if_neg (fun z => h47 z.1), if_neg (fun z => h47 z.1)]
    · rw [if_neg hp, tA_out (by omega)]
      rfl
theorem cs_27 (ht : tOk tx n) (h : cTx tx n s) {p : Int} (h0 : 0 ≤ p) (h1 : p ≤ n) : cm_sem 27 [.inr (.inl 15), .inl p] s = some (.inl (some (.inl (blE tx n 481 p false).1)), cm_p s 1502 (cm_n (blE tx n 481 p false).2.1)) := by
  rw [cS_27, cF_27_0]
  exact cl_27 ht h 481 p false 0 _ _ _ (Nat.le_refl _) (by omega) h0 h1
end TX3
