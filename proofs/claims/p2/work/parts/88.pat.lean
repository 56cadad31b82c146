/-! ===== patterns, on both sides ===== -/
section TX19
variable (tx : Int → Int) (n : Int)
/-- behind the flags -/
def fqE (g i m : Bool) (p : Int) : Int := if p < n then (if tx p = 103 ∧ g = false then fqE true i m (p + 1) else if tx p = 105 ∧ i = false then fqE g true m (p + 1) else if tx p = 109 ∧ m = false then fqE g i true (p + 1) else p) else p
termination_by (n - p).toNat
decreasing_by all_goals omega
/-- the / that ends a pattern; -1 if there is none -/
def ptE (p : Int) (w : Bool) : Int := if p < n then (if tx p = 47 ∧ w = false then p else if cLe (tx p) then -1 else if tx p = 92 then (if p + 1 < n ∧ ¬ cLe (tx (p + 1)) then ptE (p + 2) w else -1) else ptE (p + 1) (if tx p = 91 then true else if tx p = 93 then false else w)) else -1
termination_by (n - p).toNat
decreasing_by all_goals omega
/-- where the pattern at p ends, -1 if it is none -/
def rxE (p : Int) : Int := if ptE tx n (p + 1) false = -1 then -1 else ckE tx n (fqE tx n false false false (ptE tx n (p + 1) false + 1))
end TX19
section TX20
variable {tx : Int → Int} {n : Int}
theorem fqE_eq (g i m : Bool) (p : Int) : fqE tx n g i m p = if p < n then (if tx p = 103 ∧ g = false then fqE tx n true i m (p + 1) else if tx p = 105 ∧ i = false then fqE tx n g true m (p + 1) else if tx p = 109 ∧ m = false then fqE tx n g i true (p + 1) else p) else p := by rw [fqE]
theorem fqE_le : ∀ (k : Nat) (g i m : Bool) (p : Int), n ≤ p + k → p ≤ n → p ≤ fqE tx n g i m p ∧ fqE tx n g i m p ≤ n := by
  intro k
  induction k with
  | zero => intro g i m p h1 h2; rw [fqE, if_neg (by omega)]; omega
  | succ k ih =>
    intro g i m p h1 h2
    rw [fqE]
    split
    · split
      · have := ih true i m (p + 1) (by omega) (by omega); omega
      · split
        · have := ih g true m (p + 1) (by omega) (by omega); omega
        · split
          · have := ih g i true (p + 1) (by omega) (by omega); omega
          · omega
    · omega
theorem ptE_le : ∀ (k : Nat) (p : Int) (w : Bool), n ≤ p + k → ptE tx n p w = -1 ∨ p ≤ ptE tx n p w ∧ ptE tx n p w < n := by
  intro k
  induction k with
  | zero => intro p w h1; rw [ptE, if_neg (by omega)]; exact Or.inl rfl
  | succ k ih =>
    intro p w h1
    rw [ptE]
    split
    · split
      · exact Or.inr ⟨Int.le_refl _, by assumption⟩
      · split
        · exact Or.inl rfl
        · split
          · split
            · have := ih (p + 2) w (by omega); omega
            · exact Or.inl rfl
          · have := ih (p + 1) (if tx p = 91 then true else if tx p = 93 then false else w) (by omega); omega
    · exact Or.inl rfl
/-- the class: behindFlags -/
theorem cl_51 (ht : tOk tx n) {s : cm_S} (h : cTx tx n s) : ∀ (k : Nat) (g i m : Bool) (p : Int) (o1 o6 : Option cm_V), n ≤ p + k → 0 ≤ p → p ≤ n → cm_lp cm_sem cm_k51 9 [some (.inr (.inl 15)), o1, some (.inl (cm_n g)), some (.inl (cm_n i)), some (.inl (cm_n m)), some (.inl p), o6] [] s = some (.inl (some (.inl (fqE tx n g i m p))), s) := by
  obtain ⟨t1, t2, -⟩ := id ht
  intro k
  have base : ∀ (g i m : Bool) (o1 o6 : Option cm_V), cm_lp cm_sem cm_k51 9 [some (.inr (.inl 15)), o1, some (.inl (cm_n g)), some (.inl (cm_n i)), some (.inl (cm_n m)), some (.inl n), o6] [] s = some (.inl (some (.inl (fqE tx n g i m n))), s) := by
    intro g i m o1 o6
    rw [cE_51_9, cF_51_9, h.1, if_neg (by omega), cs_28 ht h, cm_bi_i, tA_out (Int.le_refl n), show fqE tx n g i m n = n by rw [fqE, if_neg (show ¬ n < n by omega)]]
    rfl
  induction k with
  | zero =>
    intro g i m p o1 o6 hk h0 h1
    have : p = n := by omega
    rw [this]
    exact base g i m o1 o6
  | succ k ih =>
    intro g i m p o1 o6 hk h0 h1
    by_cases hp : p < n
    · have ga := ih true i m (p + 1) o1 (some (.inl (tx p))) (by omega) (by omega) (by omega)
      have gb := ih g true m (p + 1) o1 (some (.inl (tx p))) (by omega) (by omega) (by omega)
      have gc := ih g i true (p + 1) o1 (some (.inl (tx p))) (by omega) (by omega) (by omega)
      have e1 : cm_n true = 1 := rfl
      rw [e1] at ga gb gc
      rw [cE_51_9, cF_51_9, h.1, if_neg (by omega), cs_28 ht h, cm_bi_i, tA_in h0 hp, cm_w_id (by omega) (by omega), ga, gb, gc, fqE_eq g i m p, if_pos hp]
      simp only [cm_n0]
      by_cases c1 : tx p = 103
      · have c2 : ¬ tx p = 105 := by omega
        have c3 : ¬ tx p = 109 := by omega
        cases g <;> simp [c1]
      · by_cases c2 : tx p = 105
        · cases i <;> simp [c2]
        · by_cases c3 : tx p = 109
          · cases m <;> simp [c3]
          · simp [c1, c2, c3]
    · have : p = n := by omega
      rw [this]
      exact base g i m o1 o6
theorem cs_51 (ht : tOk tx n) {s : cm_S} (h : cTx tx n s) {p : Int} (h0 : 0 ≤ p) (h1 : p ≤ n) : cm_sem 51 [.inr (.inl 15), .inl p] s = some (.inl (some (.inl (fqE tx n false false false p))), s) := by
  obtain ⟨t1, t2, -⟩ := id ht
  rw [cS_51, cF_51_0]
  exact cl_51 ht h n.toNat false false false p _ _ (by omega) h0 h1
/-- the reference: flagsEnd -/
theorem rl_195 (ht : tOk tx n) {s : cm_S} (h : rTx tx n s) : ∀ (k : Nat) (g i m : Bool) (p : Int) (o1 o4 : Option cm_V), n ≤ p + k → 0 ≤ p → p ≤ n → cm_lp cm_sem cm_k195 5 [some (.inr (.inl 41)), o1, some (.inl p), some (.inl (cm_n g + 2 * cm_n i + 4 * cm_n m)), o4] [] s = some (.inl (some (.inl (ckE tx n (fqE tx n g i m p)))), s) := by
  obtain ⟨t1, t2, -⟩ := id ht
  have a1 : ∀ g i m : Bool, (0 < cm_and (cm_n g + 2 * cm_n i + 4 * cm_n m) 1) = (g = true) := by
    intro g i m
    cases g <;> cases i <;> cases m <;> simp only [eq_iff_iff] <;> decide
  have a2 : ∀ g i m : Bool, (0 < cm_and (cm_n g + 2 * cm_n i + 4 * cm_n m) 2) = (i = true) := by
    intro g i m
    cases g <;> cases i <;> cases m <;> simp only [eq_iff_iff] <;> decide
  have a4 : ∀ g i m : Bool, (0 < cm_and (cm_n g + 2 * cm_n i + 4 * cm_n m) 4) = (m = true) := by
    intro g i m
    cases g <;> cases i <;> cases m <;> simp only [eq_iff_iff] <;> decide
  have b1 : ∀ i m : Bool, cm_or (cm_n false + 2 * cm_n i + 4 * cm_n m) 1 = cm_n true + 2 * cm_n i + 4 * cm_n m := by
    intro i m
    cases i <;> cases m <;> decide
  have b2 : ∀ g m : Bool, cm_or (cm_n g + 2 * cm_n false + 4 * cm_n m) 2 = cm_n g + 2 * cm_n true + 4 * cm_n m := by
    intro g m
    cases g <;> cases m <;> decide
  have b4 : ∀ g i : Bool, cm_or (cm_n g + 2 * cm_n i + 4 * cm_n false) 4 = cm_n g + 2 * cm_n i + 4 * cm_n true := by
    intro g i
    cases g <;> cases i <;> decide
  intro k
  have base : ∀ (g i m : Bool) (p : Int) (o1 o4 : Option cm_V), 0 ≤ p → ¬ (tA tx n p = 103) → ¬ (tA tx n p = 105) → ¬ (tA tx n p = 109) → cm_lp cm_sem cm_k195 5 [some (.inr (.inl 41)), o1, some (.inl p), some (.inl (cm_n g + 2 * cm_n i + 4 * cm_n m)), o4] [] s = some (.inl (some (.inl (ckE tx n (fqE tx n g i m p)))), s) := by
    intro g i m p o1 o4 h0 c1 c2 c3
    have e : fqE tx n g i m p = p := by
      rw [fqE]
      by_cases hp : p < n
      · rw [tA_in h0 hp] at c1 c2 c3
        rw [if_pos hp, if_neg (fun z => c1 z.1), if_neg (fun z => c2 z.1), if_neg (fun z => c3 z.1)]
      · rw [if_neg hp]
    rw [e, cE_195_5, cF_195_5]
    simp only [cs_181 ht h h0, cm_bi_i, tH_is ht h0 (show (103 : Int) ≠ 0 by decide) (show (103 : Int) ≠ -1 by decide), tH_is ht h0 (show (105 : Int) ≠ 0 by decide) (show (105 : Int) ≠ -1 by decide), tH_is ht h0 (show (109 : Int) ≠ 0 by decide) (show (109 : Int) ≠ -1 by decide), c1, c2, c3, if_false, cs_187, cm_b0, tH_N (tx := tx) (n := n) h0, ckE]
    by_cases hn : cN (tA tx n p)
    · rw [if_neg (fun z => z hn), if_pos hn]
    · rw [if_pos hn, if_neg hn]
  induction k with
  | zero =>
    intro g i m p o1 o4 hk h0 h1
    have e := tA_out (tx := tx) (show n ≤ p by omega)
    exact base g i m p o1 o4 h0 (by omega) (by omega) (by omega)
  | succ k ih =>
    intro g i m p o1 o4 hk h0 h1
    by_cases hp : p < n
    · have e := tA_in (tx := tx) h0 hp
      have eh := tH_in (tx := tx) hp
      have ew : cm_w (p + 1) = p + 1 := cm_w_id (by omega) (by omega)
      have nn : ∀ c, tx p = c → cN c → ckE tx n p = -1 := by
        intro c hc hn
        unfold ckE
        rw [e, hc, if_pos hn]
      by_cases c1 : tx p = 103
      · rw [cE_195_5, cF_195_5, fqE_eq g i m p, if_pos hp]
        simp only [cs_181 ht h h0, cm_bi_i, eh, c1, if_true, ew, a1]
        cases g
        · rw [if_neg (by decide), b1, if_pos ⟨trivial, rfl⟩]
          exact ih true i m (p + 1) o1 _ (by omega) (by omega) (by omega)
        · rw [if_pos rfl, if_neg (by simp), if_neg (by simp), if_neg (by simp), nn 103 c1 (by decide)]
      · by_cases c2 : tx p = 105
        · rw [cE_195_5, cF_195_5, fqE_eq g i m p, if_pos hp]
          simp only [cs_181 ht h h0, cm_bi_i, eh, c2, if_true, ew, a2, show ¬ ((105 : Int) = 103) by decide, if_false, false_and]
          cases i
          · rw [if_neg (by decide), b2, if_pos ⟨trivial, rfl⟩]
            exact ih g true m (p + 1) o1 _ (by omega) (by omega) (by omega)
          · rw [if_pos rfl, if_neg (by simp), if_neg (by simp), nn 105 c2 (by decide)]
        · by_cases c3 : tx p = 109
          · rw [cE_195_5, cF_195_5, fqE_eq g i m p, if_pos hp]
            simp only [cs_181 ht h h0, cm_bi_i, eh, c3, if_true, ew, a4, show ¬ ((109 : Int) = 103) by decide, show ¬ ((109 : Int) = 105) by decide, if_false, false_and]
            cases m
            · rw [if_neg (by decide), b4, if_pos ⟨trivial, rfl⟩]
              exact ih g i true (p + 1) o1 _ (by omega) (by omega) (by omega)
            · rw [if_pos rfl, if_neg (by simp), nn 109 c3 (by decide)]
          · rw [← e] at c1 c2 c3
            exact base g i m p o1 o4 h0 c1 c2 c3
    · have e := tA_out (tx := tx) (show n ≤ p by omega)
      exact base g i m p o1 o4 h0 (by omega) (by omega) (by omega)
theorem cs_195 (ht : tOk tx n) {s : cm_S} (h : rTx tx n s) {p : Int} (h0 : 0 ≤ p) (h1 : p ≤ n) : cm_sem 195 [.inr (.inl 41), .inl p] s = some (.inl (some (.inl (ckE tx n (fqE tx n false false false p)))), s) := by
  obtain ⟨t1, t2, -⟩ := id ht
  rw [cS_195, cF_195_0]
  exact rl_195 ht h n.toNat false false false p _ _ (by omega) h0 h1
end TX20
