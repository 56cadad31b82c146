/-! ===== blanks and comments, on both sides ===== -/
theorem cm_w_id {z : Int} (h1 : -2147483648 ≤ z) (h2 : z < 2147483648) : cm_w z = z := Int32.toInt_ofInt_of_le h1 h2
/-- a flag's number -/
def cm_n (b : Bool) : Int := if b = true then 1 else 0
theorem cm_n0 {b : Bool} : (cm_n b = 0) = (b = false) := by cases b <;> simp [cm_n]
theorem cm_n01 {b : Bool} : 0 ≤ cm_n b ∧ cm_n b < 2 := by cases b <;> decide
theorem cm_n_dec {p : Prop} [Decidable p] : cm_n (decide p) = cm_b p := by by_cases h : p <;> simp [cm_n, cm_b, h]
section TX1
variable (tx : Int → Int) (n : Int)
/-- where the line ends -/
def lnE (p : Int) : Int := if p < n then (if cLe (tx p) then p else lnE (p + 1)) else n
termination_by (n - p).toNat
decreasing_by omega
/-- behind a comment's end, and whether a line end was met -/
def cmE (p : Int) (b : Bool) : Option (Int × Bool) := if p < n then (if tx p = 42 ∧ tA tx n (p + 1) = 47 then some (p + 2, b) else cmE (p + 1) (b || decide (cLe (tx p)))) else none
termination_by (n - p).toNat
decreasing_by omega
/-- behind blanks: where, whether a line end was met, whether a comment has no end -/
def blE : Nat → Int → Bool → Int × Bool × Bool
  | 0, p, b => (p, b, false)
  | k + 1, p, b => if p < n then
      (if cLe (tx p) then blE k (p + 1) true
      else if tx p = 32 ∨ tx p = 9 then blE k (p + 1) b
      else if tx p = 47 ∧ tA tx n (p + 1) = 47 then blE k (lnE tx n p) b
      else if tx p = 47 ∧ tA tx n (p + 1) = 42 then (match cmE tx n (p + 2) b with
        | some q => blE k q.1 q.2
        | none => (p, b, true))
      else (p, b, false))
    else (p, b, false)
end TX1
section TX2
variable {tx : Int → Int} {n : Int}
theorem lnE_le {p : Int} : ∀ k : Nat, n ≤ p + k → p ≤ n → p ≤ lnE tx n p ∧ lnE tx n p ≤ n := by
  intro k
  induction k generalizing p with
  | zero =>
    intro h1 h2
    rw [lnE, if_neg (by omega)]
    omega
  | succ k ih =>
    intro h1 h2
    rw [lnE]
    split
    · split
      · omega
      · have := ih (p := p + 1) (by omega) (by omega)
        omega
    · omega
theorem lnE_step {p : Int} (hp : p < n) (h : ¬ cLe (tx p)) : lnE tx n p = lnE tx n (p + 1) := by
  rw [lnE, if_pos hp, if_neg h]
theorem cmE_eq (p : Int) (b : Bool) : cmE tx n p b = if p < n then (if tx p = 42 ∧ tA tx n (p + 1) = 47 then some (p + 2, b) else cmE tx n (p + 1) (b || decide (cLe (tx p)))) else none := by rw [cmE]
theorem lnE_eq (p : Int) : lnE tx n p = if p < n then (if cLe (tx p) then p else lnE tx n (p + 1)) else n := by rw [lnE]
theorem cmE_le {p : Int} {b : Bool} {q : Int × Bool} : ∀ k : Nat, n ≤ p + k → cmE tx n p b = some q → p + 2 ≤ q.1 ∧ q.1 ≤ n := by
  intro k
  induction k generalizing p b with
  | zero =>
    intro h1 h2
    rw [cmE, if_neg (by omega)] at h2
    cases h2
  | succ k ih =>
    intro h1 h2
    rw [cmE] at h2
    split at h2
    · split at h2
      · next hp hc =>
        cases h2
        have h3 := hc.2
        unfold tA at h3
        split at h3
        · exact ⟨Int.le_refl _, by show p + 2 ≤ n; omega⟩
        · omega
      · have := ih (by omega) h2
        omega
    · cases h2
theorem cmE_or {p : Int} : ∀ (k : Nat) (b c : Bool), n ≤ p + k → cmE tx n p (c || b) = (cmE tx n p b).map (fun q => (q.1, c || q.2)) := by
  intro k
  induction k generalizing p with
  | zero =>
    intro b c h1
    rw [cmE_eq p (c || b), cmE_eq p b, if_neg (by omega), if_neg (by omega)]
    rfl
  | succ k ih =>
    intro b c h1
    rw [cmE_eq p (c || b), cmE_eq p b]
    split
    · split
      · rfl
      · rw [Bool.or_assoc]
        exact ih _ _ (by omega)
    · rfl
variable {s : cm_S}
/-- the class: behindLine -/
theorem cl_29 (ht : tOk tx n) (h : cTx tx n s) : ∀ (k : Nat) (p : Int) (o1 : Option cm_V), n ≤ p + k → 0 ≤ p → p ≤ n → cm_lp cm_sem cm_k29 3 [some (.inr (.inl 15)), o1, some (.inl p)] [] s = some (.inl (some (.inl (lnE tx n p))), s) := by
  obtain ⟨t1, t2, -⟩ := id ht
  intro k
  induction k with
  | zero =>
    intro p o1 h1 h2 h3
    rw [cE_29_3, cF_29_3, h.1, if_neg (by omega), lnE, if_neg (by omega)]
  | succ k ih =>
    intro p o1 h1 h2 h3
    rw [cE_29_3, cF_29_3, h.1, lnE]
    by_cases hp : p < n
    · rw [if_pos hp, if_pos hp]
      simp only [cs_28 ht h, cs_11, cm_bi_i, cm_b0]
      have e : tA tx n p = tx p := by unfold tA; rw [if_pos ⟨h2, hp⟩]
      rw [e]
      by_cases hc : cLe (tx p)
      · rw [if_pos hc, if_neg (fun z => z hc)]
      · rw [if_neg hc, if_pos hc, cm_w_id (by omega) (by omega)]
        exact ih (p + 1) o1 (by omega) (by omega) (by omega)
    · rw [if_neg hp, if_neg hp]
theorem cs_29 (ht : tOk tx n) (h : cTx tx n s) {p : Int} (h2 : 0 ≤ p) (h3 : p ≤ n) : cm_sem 29 [.inr (.inl 15), .inl p] s = some (.inl (some (.inl (lnE tx n p))), s) := by
  obtain ⟨t1, t2, -⟩ := id ht
  rw [cS_29, cF_29_0]
  exact cl_29 ht h n.toNat p _ (by omega) h2 h3
/-- the class: behindComment -/
theorem cl_30 (ht : tOk tx n) (h : cTx tx n s) {c : Bool} (hc : s.1 1502 = cm_n c) : ∀ (k : Nat) (p : Int) (b : Bool) (o1 o4 : Option cm_V), n ≤ p + k → 0 ≤ p → p ≤ n + 2 → cm_lp cm_sem cm_k30 7 [some (.inr (.inl 15)), o1, some (.inl (cm_n b)), some (.inl p), o4] [] s = (match cmE tx n p b with
    | some q => some (.inl (some (.inl q.1)), cm_p s 1502 (cm_n (c || q.2)))
    | none => some (.inl (some (.inl (-1))), s)) := by
  obtain ⟨t1, t2, -⟩ := id ht
  intro k
  induction k with
  | zero =>
    intro p b o1 o4 h1 h2 h3
    rw [cE_30_7, cF_30_7, h.1, if_neg (by omega), cmE, if_neg (by omega)]
  | succ k ih =>
    intro p b o1 o4 h1 h2 h3
    rw [cE_30_7, cF_30_7, h.1, cmE]
    by_cases hp : p < n
    · rw [if_pos hp, if_pos hp]
      simp only [cs_28 ht h, cs_11, cm_bi_i, cm_b0]
      have e : tA tx n p = tx p := by unfold tA; rw [if_pos ⟨h2, hp⟩]
      have ew : cm_w (p + 1) = p + 1 := cm_w_id (by omega) (by omega)
      have ew2 : cm_w (p + 2) = p + 2 := cm_w_id (by omega) (by omega)
      have go : ∀ b', cm_lp cm_sem cm_k30 7 [some (.inr (.inl 15)), o1, some (.inl (cm_n b')), some (.inl (p + 1)), some (.inl (tx p))] [] s = (match cmE tx n (p + 1) b' with
          | some q => some (.inl (some (.inl q.1)), cm_p s 1502 (cm_n (c || q.2)))
          | none => some (.inl (some (.inl (-1))), s)) := fun b' => ih (p + 1) b' o1 _ (by omega) (by omega) (by omega)
      have g0 : cm_lp cm_sem cm_k30 7 [some (.inr (.inl 15)), o1, some (.inl 0), some (.inl (p + 1)), some (.inl (tx p))] [] s = _ := go false
      have g1 : cm_lp cm_sem cm_k30 7 [some (.inr (.inl 15)), o1, some (.inl 1), some (.inl (p + 1)), some (.inl (tx p))] [] s = _ := go true
      simp only [e, ew, ew2, hc, cm_n0, g0, g1]
      by_cases h42 : tx p = 42 <;> by_cases h47 : tA tx n (p + 1) = 47 <;> by_cases hl : cLe (tx p) <;> cases b <;> cases c <;> first | (exfalso; omega) | simp [h42, h47, hl, cm_n]
    · rw [if_neg hp, if_neg hp]
theorem cs_30 (ht : tOk tx n) (h : cTx tx n s) {c : Bool} (hc : s.1 1502 = cm_n c) {p : Int} (h2 : 0 ≤ p) (h3 : p ≤ n) : cm_sem 30 [.inr (.inl 15), .inl p] s = (match cmE tx n (p + 2) false with
    | some q => some (.inl (some (.inl q.1)), cm_p s 1502 (cm_n (c || q.2)))
    | none => some (.inl (some (.inl (-1))), s)) := by
  obtain ⟨t1, t2, -⟩ := id ht
  rw [cS_30, cF_30_0, cm_w_id (by omega) (by omega)]
  exact cl_30 ht h hc n.toNat (p + 2) false _ _ (by omega) (by omega) (by omega)
end TX2
