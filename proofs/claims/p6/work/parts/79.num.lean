/-! ===== numbers, on both sides ===== -/
section TX6
variable (tx : Int → Int) (n : Int)
/-- behind what is P -/
def whE (P : Int → Prop) [DecidablePred P] (p : Int) : Int := if p < n ∧ P (tx p) then whE P (p + 1) else p
termination_by (n - p).toNat
decreasing_by omega
def ckE (e : Int) : Int := if cN (tA tx n e) then -1 else e
/-- from the exponent on -/
def nuX (e : Int) : Int := if tA tx n e = 101 ∨ tA tx n e = 69 then
    (if tA tx n (e + 1) = 43 ∨ tA tx n (e + 1) = 45 then (if cD (tA tx n (e + 2)) then ckE tx n (whE tx n cD (e + 2)) else -1)
    else (if cD (tA tx n (e + 1)) then ckE tx n (whE tx n cD (e + 1)) else -1))
  else ckE tx n e
def nuD (p : Int) : Int := if tA tx n (whE tx n cD p) = 46 then nuX tx n (whE tx n cD (whE tx n cD p + 1)) else nuX tx n (whE tx n cD p)
/-- where a number ends, -1 if it is none -/
def nmE (p : Int) : Int := if tA tx n p = 48 ∧ (tA tx n (p + 1) = 120 ∨ tA tx n (p + 1) = 88) then (if whE tx n cHx (p + 2) = p + 2 then -1 else ckE tx n (whE tx n cHx (p + 2)))
  else if tA tx n p = 48 ∧ cD (tA tx n (p + 1)) then -1 else nuD tx n p
end TX6
section TX7
variable {tx : Int → Int} {n : Int}
theorem tH_P (P : Int → Prop) (h0 : ¬ P 0) (h1 : ¬ P (-1)) {p : Int} (hp : 0 ≤ p) : P (tH tx n p) = P (tA tx n p) := by
  by_cases h : p < n
  · rw [tH_in h, tA_in hp h]
  · rw [tH_out (by omega), tA_out (by omega)]
    exact propext ⟨fun z => absurd z h0, fun z => absurd z h1⟩
theorem tH_D {p : Int} (hp : 0 ≤ p) : cD (tH tx n p) = cD (tA tx n p) := tH_P cD (by decide) (by decide) hp
theorem tH_N {p : Int} (hp : 0 ≤ p) : cN (tH tx n p) = cN (tA tx n p) := tH_P cN (by decide) (by decide) hp
theorem tH_X {p : Int} (hp : 0 ≤ p) : cHx (tH tx n p) = cHx (tA tx n p) := tH_P cHx (by decide) (by decide) hp
theorem whE_eq (P : Int → Prop) [DecidablePred P] (h1 : ¬ P (-1)) {p : Int} (hp : 0 ≤ p) : whE tx n P p = if P (tA tx n p) then whE tx n P (p + 1) else p := by
  rw [whE]
  by_cases h : p < n
  · rw [tA_in hp h]
    by_cases hc : P (tx p)
    · rw [if_pos ⟨h, hc⟩, if_pos hc]
    · rw [if_neg (fun z => hc z.2), if_neg hc]
  · rw [tA_out (by omega), if_neg (fun z => h z.1), if_neg h1]
theorem whE_le (P : Int → Prop) [DecidablePred P] : ∀ (k : Nat) (p : Int), n ≤ p + k → p ≤ whE tx n P p ∧ (p ≤ n → whE tx n P p ≤ n) := by
  intro k
  induction k with
  | zero => intro p hk; rw [whE, if_neg (by omega)]; omega
  | succ k ih =>
    intro p hk
    rw [whE]
    split
    · have := ih (p + 1) (by omega); omega
    · omega
theorem whE_ge (P : Int → Prop) [DecidablePred P] {p : Int} (h : n ≤ p) : whE tx n P p = p := by rw [whE, if_neg (by omega)]
theorem whE_out (P : Int → Prop) [DecidablePred P] (h1 : ¬ P (-1)) : ∀ (k : Nat) (p : Int), n ≤ p + k → 0 ≤ p → ¬ P (tA tx n (whE tx n P p)) := by
  intro k
  induction k with
  | zero => intro p hk hp; rw [whE_ge P (by omega), tA_out (by omega)]; exact h1
  | succ k ih =>
    intro p hk hp
    rw [whE_eq P h1 hp]
    split
    · exact ih (p + 1) (by omega) (by omega)
    · next h => exact h
theorem whE_same (P : Int → Prop) [DecidablePred P] (h1 : ¬ P (-1)) (t1 : 0 ≤ n) {p : Int} (hp : 0 ≤ p) : (whE tx n P p = p) = ¬ P (tA tx n p) := by
  rw [whE_eq P h1 hp]
  split
  · next h =>
    have := whE_le (tx := tx) (n := n) P n.toNat (p + 1) (by omega)
    exact propext ⟨fun z => by omega, fun z => absurd h z⟩
  · next h => exact propext ⟨fun _ => h, fun _ => rfl⟩
/-- the class: behindDigits -/
theorem cl_35 (ht : tOk tx n) {s : cm_S} (h : cTx tx n s) : ∀ (k : Nat) (p x4 : Int) (o1 o5 o6 : Option cm_V), x4 + k = 480 → 0 ≤ x4 → x4 ≤ p → p ≤ x4 + 482 →
    cm_lp cm_sem cm_k35 5 [some (.inr (.inl 15)), o1, some (.inl 0), some (.inl p), some (.inl x4), o5, o6] [] s = some (.inl (some (.inl (whE tx n cD p))), s) ∧
    cm_lp cm_sem cm_k35 5 [some (.inr (.inl 15)), o1, some (.inl 1), some (.inl p), some (.inl x4), o5, o6] [] s = some (.inl (some (.inl (whE tx n cHx p))), s) := by
  obtain ⟨t1, t2, -⟩ := id ht
  intro k
  induction k with
  | zero =>
    intro p x4 o1 o5 o6 hk h0 h1 h2
    rw [cE_35_5, cF_35_5, cE_35_5, cF_35_5, if_neg (by omega), if_neg (by omega), whE_ge cD (by omega), whE_ge cHx (by omega)]
    exact ⟨rfl, rfl⟩
  | succ k ih =>
    intro p x4 o1 o5 o6 hk h0 h1 h2
    have ew : cm_w (p + 1) = p + 1 := cm_w_id (by omega) (by omega)
    have ew2 : cm_w (x4 + 1) = x4 + 1 := cm_w_id (by omega) (by omega)
    have ga : ∀ o5 o6, cm_lp cm_sem cm_k35 5 [some (.inr (.inl 15)), o1, some (.inl 0), some (.inl (p + 1)), some (.inl (x4 + 1)), o5, o6] [] s = some (.inl (some (.inl (whE tx n cD (p + 1)))), s) := fun o5 o6 => (ih (p + 1) (x4 + 1) o1 o5 o6 (by omega) (by omega) (by omega) (by omega)).1
    have gb : ∀ o5 o6, cm_lp cm_sem cm_k35 5 [some (.inr (.inl 15)), o1, some (.inl 1), some (.inl (p + 1)), some (.inl (x4 + 1)), o5, o6] [] s = some (.inl (some (.inl (whE tx n cHx (p + 1)))), s) := fun o5 o6 => (ih (p + 1) (x4 + 1) o1 o5 o6 (by omega) (by omega) (by omega) (by omega)).2
    rw [whE_eq cD (by decide) (by omega : 0 ≤ p), whE_eq cHx (by decide) (by omega : 0 ≤ p)]
    constructor
    · rw [cE_35_5, cF_35_5, if_pos (by omega)]
      simp only [cs_28 ht h, cs_31, cm_bi_i, cm_b0, ew, ew2, ga, if_true]
      generalize tA tx n p = c
      repeat' split
      all_goals first | rfl | (exfalso; omega)
    · rw [cE_35_5, cF_35_5, if_pos (by omega)]
      simp only [cs_28 ht h, cs_31, cm_bi_i, cm_b0, ew, ew2, gb]
      generalize tA tx n p = c
      repeat' split
      all_goals first | rfl | (exfalso; omega)
theorem cs_35d (ht : tOk tx n) {s : cm_S} (h : cTx tx n s) {p : Int} (h0 : 0 ≤ p) (h1 : p ≤ 482) : cm_sem 35 [.inr (.inl 15), .inl p, .inl 0] s = some (.inl (some (.inl (whE tx n cD p))), s) := by
  rw [cS_35, cF_35_0]
  exact (cl_35 ht h 480 p 0 _ _ _ (by omega) (by omega) h0 (by omega)).1
theorem cs_35x (ht : tOk tx n) {s : cm_S} (h : cTx tx n s) {p : Int} (h0 : 0 ≤ p) (h1 : p ≤ 482) : cm_sem 35 [.inr (.inl 15), .inl p, .inl 1] s = some (.inl (some (.inl (whE tx n cHx p))), s) := by
  rw [cS_35, cF_35_0]
  exact (cl_35 ht h 480 p 0 _ _ _ (by omega) (by omega) h0 (by omega)).2
/-- the reference: digits -/
theorem rl_192 (ht : tOk tx n) {s : cm_S} (h : rTx tx n s) : ∀ (k : Nat) (p : Int) (o1 : Option cm_V), n ≤ p + k → 0 ≤ p → p ≤ 482 → cm_lp cm_sem cm_k192 3 [some (.inr (.inl 41)), o1, some (.inl p)] [] s = some (.inl (some (.inl (whE tx n cD p))), s) := by
  obtain ⟨t1, t2, -⟩ := id ht
  intro k
  induction k with
  | zero =>
    intro p o1 hk h0 h1
    rw [cE_192_3, cF_192_3, cs_181 ht h h0, cm_bi_i, cs_188, cm_bi_i, tH_out (by omega), whE_ge cD (by omega)]
    rfl
  | succ k ih =>
    intro p o1 hk h0 h1
    rw [cE_192_3, cF_192_3, cs_181 ht h h0, cm_bi_i, cs_188, cm_bi_i, whE_eq cD (by decide) h0]
    simp only [cm_b0, tH_D h0]
    by_cases hc : cD (tA tx n p)
    · have hp : p < n := by
        apply Int.lt_of_not_ge
        intro z
        rw [tA_out z] at hc
        omega
      rw [if_pos hc, if_neg (fun z => z hc), cm_w_id (by omega) (by omega)]
      exact ih (p + 1) o1 (by omega) (by omega) (by omega)
    · rw [if_neg hc, if_pos hc]
theorem cs_192 (ht : tOk tx n) {s : cm_S} (h : rTx tx n s) {p : Int} (h0 : 0 ≤ p) (h1 : p ≤ 482) : cm_sem 192 [.inr (.inl 41), .inl p] s = some (.inl (some (.inl (whE tx n cD p))), s) := by
  obtain ⟨t1, t2, -⟩ := id ht
  rw [cS_192, cF_192_0]
  exact rl_192 ht h n.toNat p _ (by omega) h0 h1
end TX7
