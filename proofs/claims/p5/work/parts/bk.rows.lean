/-! ===== the reference's printer: rows ===== -/
section TXa6
variable {tx : Int → Int} {n : Int}
theorem fAt_in {T : tT} {k : Int} {x : Nat} {l : tLb} {u : Unit} {ch re : tF} (h : fAt T k (.inner x l u ch re)) : nLb (nT T k) = l ∧ nCh (nT T k) = ch ∧ nRe (nT T k) = re := h
theorem rJ.nf {r : cm_S} {T : tT} (h : rJ tx n r T) {k : Int} {x : Nat} {l : tLb} {u : Unit} {ch re : tF} (hA : fAt T k (.inner x l u ch re)) (h0 : 0 ≤ k) (h1 : k < tSz T) : r.2 51 (nO T k) = nNum T (k + 1 + fSz ch) re ∧ r.2 50 (nO T k) = nNum T (k + 1) ch ∧ r.2 47 (nO T k) = l.1 ∧ r.2 53 (nO T k) = fLn ch ∧ r.2 49 (nO T k) = lbN l := by
  obtain ⟨hl, hch, hre⟩ := hA
  have a := h.nn h0 h1
  have b := h.fn h0 h1
  have c := h.kd h0 h1
  have d := h.mn h0 h1
  have e := h.ln h0 h1
  rw [hch] at a b d
  rw [hre] at a
  rw [hl] at c e
  exact ⟨a, b, c, d, e⟩
/-- printRow() on a node, behind its comma -/
noncomputable def rw29 (T : tT) (k a w : Int) (ni fc : Bool) (s : cm_S) : Option cm_R := cm_lp cm_sem cm_k295 29 [some (.inr (.inl 41)), some (.inl a), some (.inl (nO T k)), some (.inl (asW w ni fc)), some (.inl (if fc = true then 1 else 0)), some (.inl (asW w ni true))] [] s
theorem r_295 {r : cm_S} {T : tT} (h : rJ tx n r T) {k : Int} {x : Nat} {l : tLb} {u : Unit} {ch re : tF} (hA : fAt T k (.inner x l u ch re)) (h0 : 0 ≤ k) (h1 : k < tSz T) (h23 : l.1 ≠ 23) {a w : Int} {ni fc : Bool} (w0 : 0 ≤ w) (w1 : w < 16) : cm_sem 295 [.inr (.inl 41), .inl a, .inl (nO T k), .inl (asW w ni fc)] r = if fc = true then cm_bv (cm_sem 272 [.inr (.inl 41), .inl 44] r) (rw29 T k a w ni fc) else rw29 T k a w ni fc r := by
  have o := h.no h0 h1
  obtain ⟨w', rfl⟩ := Int.eq_ofNat_of_zero_le w0
  obtain ⟨a1, a2, a3, a4, a5, a6⟩ := asW_f w' (by omega) ni fc
  obtain ⟨q1, q2, q3, q4, q5⟩ := h.nf hA h0 h1
  rw [cS_295, cF_295_0, if_neg (by omega), if_pos o, q3, if_neg h23]
  cases fc with
  | true =>
    rw [if_pos (a2.mpr rfl), cE_295_18, cF_295_18, if_neg (by decide), a5, if_pos rfl]
    rfl
  | false =>
    rw [if_neg (fun z => by have := a2.mp z; cases this), cE_295_18, cF_295_18, if_pos rfl, a5, if_neg (by decide)]
    rfl
/-- the comma ahead, where there is one -/
theorem QM_cm {T : tT} {K K1 : List pE} {fc : Bool} {y : cm_S → Option cm_R} {b : List tok} (h : QM tx n T y K b K1) : QM tx n T (fun r => if fc = true then cm_bv (cm_sem 272 [.inr (.inl 41), .inl 44] r) y else y r) K ((if fc = true then [kTok 1005] else []) ++ b) K1 := by
  cases fc with
  | true =>
    rw [if_pos rfl, k1005]
    refine QM_eq (fun r _ => ?_) (QM_bv (QM_sign (show (44 : Int) ∈ sgC by decide)) h)
    rw [if_pos rfl]
  | false =>
    rw [if_neg (by decide)]
    refine QM_eq (fun r _ => ?_) h
    rw [if_neg (by decide)]
theorem PT_rn {T : tT} {o1 : Option cm_V} {K : List pE} {a c : Int} (ha : a = 6 ∨ a = 7 ∨ a = 9 ∨ a = 10 ∨ a = 11) (hK : K.length < 1000) : PT tx n T o1 ((a, -1, c) :: K) [] K := PT_ro ha hK (QM_eq (fun r _ => by
  show cm_sem 295 [.inr (.inl 41), .inl a, .inl (-1), .inl c] r = _
  rw [cS_295, cF_295_0, if_pos rfl]) QM_ret)
/-- ROW -/
def rwT (tx : Int → Int) (n : Int) (ni : Bool) : Bool → tF → List tok
  | _, .leaf => []
  | fc, .inner _ l _ ch re => (if fc = true then [kTok 1005] else []) ++ (vT tx n l ch ni (vBr l 1 ni false) ++ rwT tx n ni true re)
theorem PT_6 (ht : tOk tx n) {T : tT} {o1 : Option cm_V} {pk c : Int} (ni : Bool) : ∀ (f : tF) (k i : Int) (K : List pE) (fc : Bool), fAt T k f → SVd tx n T o1 k f → gF tx n f → (∀ x ∈ fK f, isE x) → 0 ≤ k → k + fSz f ≤ tSz T → (∀ j, i ≤ j → tWn pk c j = 1) → (pk ≠ 42 ∨ 1 ≤ i) → (K.length : Int) + 1 + fWt pk c i f ≤ 1000 → PT tx n T o1 ((6, nNum T k f, asW 1 ni fc) :: K) (rwT tx n ni fc f) K := by
  intro f
  induction f with
  | leaf =>
    intro k i K fc _ _ _ _ _ _ _ _ hr
    have e : fWt pk c i .leaf = 0 := rfl
    exact PT_rn (by omega) (by omega)
  | inner x l u ch re i1 i2 =>
    intro k i K fc hA hS hF hk k0 k9 hw hp hr
    have e : fSz (.inner x l u ch re) = 1 + fSz ch + fSz re := rfl
    have c0 := fSz_0 ch
    have r0 := fSz_0 re
    have k1 : k < tSz T := by omega
    obtain ⟨hl, hch, hre⟩ := fAt_in hA
    obtain ⟨f1, f2, f3, f4, f5⟩ := hF
    obtain ⟨s1, s2, s3, s4⟩ := hS
    have lE : isE l.1 := hk l.1 (List.mem_cons_self ..)
    have fr := fAt_re (T := T) k0 k1
    rw [hch, hre] at fr
    have fw : fWt pk c i (.inner x l u ch re) = tWt (l, ch) + (if tB l < tWn pk c i ∨ pk = 42 ∧ i = 0 ∧ tCa (l, ch) = true then 2 else 0) + fWt pk c (i + 1) re := rfl
    have f0 := fWt_0 re pk c (i + 1) f5
    have tw := tWs ht lE f1 f2 f4
    have sl := slF_01 l ch
    rw [fw, hw i (Int.le_refl _)] at hr
    have bt : (if vBr l 1 ni false = true then (1 : Int) else 0) ≤ (if tB l < 1 ∨ pk = 42 ∧ i = 0 ∧ tCa (l, ch) = true then 2 else 0) + slF l ch := by
      by_cases q : vBr l 1 ni false = true
      · rw [if_pos q]
        unfold vBr at q
        rw [Bool.false_or, Bool.or_eq_true, decide_eq_true_iff, Bool.and_eq_true, decide_eq_true_iff] at q
        rcases q with q | q
        · rw [if_pos (Or.inl q)]; omega
        · have : slF l ch = 2 := if_pos ⟨q.2.2, q.2.1⟩
          split <;> omega
      · rw [if_neg q]
        split <;> omega
    have b0 : 0 ≤ (if tB l < 1 ∨ pk = 42 ∧ i = 0 ∧ tCa (l, ch) = true then (2 : Int) else 0) := by split <;> omega
    generalize (if tB l < 1 ∨ pk = 42 ∧ i = 0 ∧ tCa (l, ch) = true then (2 : Int) else 0) = B at *
    have en : nNum T k (.inner x l u ch re) = nO T k := rfl
    have et : rwT tx n ni fc (.inner x l u ch re) = ((if fc = true then [kTok 1005] else []) ++ []) ++ (vT tx n l ch ni (vBr l 1 ni false) ++ rwT tx n ni true re) := by rw [List.append_nil]; rfl
    rw [en, et]
    have tz : 1 ≤ tWt (l, ch) := by omega
    refine PT_tr (K1 := (3, nO T k, asW 1 ni false) :: (6, nNum T (k + 1 + fSz ch) re, asW 1 ni true) :: K) (PT_ro (by omega) (by omega) (QM_eq (fun r h => r_295 h hA k0 k1 (by unfold isE at lE; omega) (by decide) (by decide)) (QM_cm (QM_eq (y := fun s => cm_bv (cm_sem 271 [.inr (.inl 41), .inl 6, .inl (nNum T (k + 1 + fSz ch) re), .inl (asW 1 ni true)] s) fun s1 => cm_bv (cm_sem 271 [.inr (.inl 41), .inl 3, .inl (nO T k), .inl (asW 1 ni false)] s1) fun s2 => some (.inl none, s2)) (fun r h => ?_) ?_)))) (PT_tr (s1 lE ((6, nNum T (k + 1 + fSz ch) re, asW 1 ni true) :: K) 1 ni false (by decide) (by decide) (by rw [List.length_cons]; omega)) (i2 (k + 1 + fSz ch) (i + 1) K true fr s4 f5 (fun y hy => hk y (List.mem_cons_of_mem _ hy)) (by omega) (by omega) (fun j hj => hw j (by omega)) (by omega) (by omega)))
    · obtain ⟨a1, a2, a3, a4, a5, a6⟩ := asW_f 1 (by decide) ni fc
      have a4' : cm_and (asW 1 ni fc) 256 = if ni = true then 256 else 0 := a4
      have a6' : cm_or 1 (if ni = true then 256 else 0) = asW 1 ni false := a6
      show rw29 T k 6 1 ni fc r = _
      unfold rw29
      rw [cE_295_29, cF_295_29, if_neg (by decide), cE_295_48, cF_295_48, if_pos (h.no k0 k1), (h.nf hA k0 k1).1]
      simp only [if_true, a4', a6']
    · exact QM_bv (a := []) (b := []) (QM_plan (by omega) _ _ _) (QM_tl (QM_plan (by rw [List.length_cons]; omega) _ _ _))
end TXa6
