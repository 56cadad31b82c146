/-! ===== the reference's judge: brothers, strict code ===== -/
/-- the last brother's part ends where the parent's does -/
theorem nd_lst : ∀ (f : tF) (k p r lo : Int), p < k → ∀ i, k ≤ i → i < k + fSz f → nRe (nd f k p r lo i) = .leaf → (nPa (nd f k p r lo i) = p ∧ i + 1 + fSz (nCh (nd f k p r lo i)) = k + fSz f) ∨ (k ≤ nPa (nd f k p r lo i) ∧ i + 1 + fSz (nCh (nd f k p r lo i)) = nPa (nd f k p r lo i) + 1 + fSz (nCh (nd f k p r lo (nPa (nd f k p r lo i))))) := by
  intro f
  induction f with
  | leaf =>
    intro k p r lo _ i h1 h2
    have z0 : fSz (.leaf : tF) = 0 := rfl
    omega
  | inner x l u ch re i1 i2 =>
    intro k p r lo hp i h1 h2 hl
    have e : fSz (.inner x l u ch re) = 1 + fSz ch + fSz re := rfl
    have c0 := fSz_0 ch
    have r0 := fSz_0 re
    have en0 : nd (.inner x l u ch re) k p r lo k = (l, p, r, ch, re, lo) := by
      show (if k = k then _ else _) = _
      rw [if_pos rfl]
    by_cases hi : i = k
    · rw [hi, en0] at hl
      rw [hi, en0]
      have hl' : re = .leaf := hl
      have z0 : fSz re = 0 := by rw [hl']; rfl
      refine Or.inl ⟨rfl, ?_⟩
      show k + 1 + fSz ch = _
      omega
    · by_cases hc : i < k + 1 + fSz ch
      · have en : nd (.inner x l u ch re) k p r lo i = nd ch (k + 1) k 0 lo i := by
          show (if i = k then _ else _) = _
          rw [if_neg hi, if_pos hc]
        rw [en] at hl ⊢
        right
        have g := (nd_p ch (k + 1) k 0 lo (by omega) i (by omega) (by omega)).2
        rcases i1 (k + 1) k 0 lo (by omega) i (by omega) (by omega) hl with ⟨a1, a2⟩ | ⟨a1, a2⟩
        · rw [a1, en0]
          refine ⟨Int.le_refl _, ?_⟩
          rw [a2]
        · have en2 : nd (.inner x l u ch re) k p r lo (nPa (nd ch (k + 1) k 0 lo i)) = nd ch (k + 1) k 0 lo (nPa (nd ch (k + 1) k 0 lo i)) := by
            show (if _ = k then _ else _) = _
            rw [if_neg (by omega), if_pos (by omega)]
          rw [en2]
          exact ⟨by omega, a2⟩
      · have en : nd (.inner x l u ch re) k p r lo i = nd re (k + 1 + fSz ch) p (r + 1) (lo + fSz ch + 1) i := by
          show (if i = k then _ else _) = _
          rw [if_neg hi, if_neg hc]
        rw [en] at hl ⊢
        have g := (nd_p re (k + 1 + fSz ch) p (r + 1) (lo + fSz ch + 1) (by omega) i (by omega) (by omega)).2
        rcases i2 (k + 1 + fSz ch) p (r + 1) (lo + fSz ch + 1) (by omega) i (by omega) (by omega) hl with ⟨a1, a2⟩ | ⟨a1, a2⟩
        · exact Or.inl ⟨a1, by omega⟩
        · have en2 : nd (.inner x l u ch re) k p r lo (nPa (nd re (k + 1 + fSz ch) p (r + 1) (lo + fSz ch + 1) i)) = nd re (k + 1 + fSz ch) p (r + 1) (lo + fSz ch + 1) (nPa (nd re (k + 1 + fSz ch) p (r + 1) (lo + fSz ch + 1) i)) := by
            show (if _ = k then _ else _) = _
            rw [if_neg (by omega), if_neg (by omega)]
          rw [en2]
          exact Or.inr ⟨by omega, a2⟩
theorem nT_lst {T : tT} {i : Int} (h0 : 0 < i) (h1 : i < tSz T) (hl : nRe (nT T i) = .leaf) : i + 1 + fSz (nCh (nT T i)) = nPa (nT T i) + 1 + fSz (nCh (nT T (nPa (nT T i)))) := by
  have m := nT_mem h0 h1
  rcases nd_lst (fo [T]) 0 (-1) 0 0 (by decide) i (by omega) (by rw [fSz_T]; omega) hl with ⟨a1, a2⟩ | ⟨a1, a2⟩
  · have a1' : nPa (nT T i) = -1 := a1
    omega
  · exact a2
section TX90
variable {tx : Int → Int} {n : Int}
theorem sib_step {T : tT} {k i : Int} (P : Int → Prop) (k0 : 0 ≤ k) (k1 : k < tSz T) (hi : k < i) (i1 : i < tSz T) (hp : nPa (nT T k) = nPa (nT T i)) (hk : nPa (nT T k) < k) : k + 1 + fSz (nCh (nT T k)) ≤ i ∧ ((∃ q, k ≤ q ∧ q < i ∧ nPa (nT T q) = nPa (nT T i) ∧ P q) ↔ P k ∨ ∃ q, k + 1 + fSz (nCh (nT T k)) ≤ q ∧ q < i ∧ nPa (nT T q) = nPa (nT T i) ∧ P q) := by
  have c0 := fSz_0 (nCh (nT T k))
  have out : ∀ q, k < q → nPa (nT T q) = nPa (nT T i) → k + 1 + fSz (nCh (nT T k)) ≤ q := fun q a b => by
    by_cases hq : q < k + 1 + fSz (nCh (nT T k))
    · have := nT_in k0 k1 a hq
      omega
    · omega
  refine ⟨out i hi rfl, ⟨fun ⟨q, a, b, c, d⟩ => ?_, fun q => ?_⟩⟩
  · by_cases hq : q = k
    · subst hq; exact Or.inl d
    · exact Or.inr ⟨q, out q (by omega) c, b, c, d⟩
  · rcases q with q | ⟨q, a, b, c, d⟩
    · exact ⟨k, Int.le_refl _, hi, hp, q⟩
    · exact ⟨q, by omega, b, c, d⟩
/-- a walk over the brothers of i -/
theorem rl_265 (ht : tOk tx n) {r : cm_S} {T : tT} (h : rJ tx n r T) {i : Int} (h0 : 0 < i) (h1 : i < tSz T) : ∀ (d : Nat) (k z : Int), i - k ≤ d → 0 < k → k ≤ i → nPa (nT T k) = nPa (nT T i) → (z = 0 ∨ z = 1) → RB (cm_lp cm_sem cm_k265 11 [some (.inr (.inl 41)), some (.inl (nO T i)), some (.inl z), some (.inl (nO T k))] [] r) r (z = 1 ∨ rep tx n T i k) := by
  have o := h.no (Int.le_of_lt h0) h1
  intro d
  induction d with
  | zero =>
    intro k z hd k0 hk hp hz
    have e : k = i := by omega
    subst e
    rw [cE_265_11, cF_265_11, if_pos rfl, if_pos (by omega)]
    rcases hz with rfl | rfl
    · exact RB_0 fun q => by
        rcases q with q | ⟨q, a, b, -⟩ <;> omega
    · exact RB_1 (Or.inl rfl)
  | succ d ih =>
    intro k z hd k0 hk hp hz
    by_cases e : k = i
    · subst e
      rw [cE_265_11, cF_265_11, if_pos rfl, if_pos (by omega)]
      rcases hz with rfl | rfl
      · exact RB_0 fun q => by
          rcases q with q | ⟨q, a, b, -⟩ <;> omega
      · exact RB_1 (Or.inl rfl)
    · have k1 : k < tSz T := by omega
      have ok := h.no (Int.le_of_lt k0) k1
      have mk := nT_mem k0 k1
      have c0 := fSz_0 (nCh (nT T k))
      obtain ⟨s1, s2⟩ := sib_step (T := T) (fun q => (nLb (nT T q)).1 = (nLb (nT T i)).1 ∧ alk tx n (nLb (nT T q)) (nLb (nT T i))) (Int.le_of_lt k0) k1 (by omega) h1 hp (by omega)
      have re : nRe (nT T k) ≠ .leaf := by
        intro hl
        have pp := (nT_p (T := T) (i := i) (Int.le_of_lt h0) h1).2
        have e2 : k + 1 + fSz (nCh (nT T k)) = nPa (nT T k) + 1 + fSz (nCh (nT T (nPa (nT T k)))) := nT_lst k0 k1 hl
        rw [hp] at e2
        omega
      have n2 := nT_2 (Int.le_of_lt k0) k1 re
      have go : ∀ z', (z' = 0 ∨ z' = 1) → ((z' = 1 ∨ rep tx n T i (k + 1 + fSz (nCh (nT T k)))) ↔ (z = 1 ∨ rep tx n T i k)) → RB (cm_lp cm_sem cm_k265 11 [some (.inr (.inl 41)), some (.inl (nO T i)), some (.inl z'), some (.inl (r.2 51 (nO T k)))] [] r) r (z = 1 ∨ rep tx n T i k) := fun z' hz' hq => by
        rw [h.nx (Int.le_of_lt k0) k1 re]
        exact RB_iff (ih (k + 1 + fSz (nCh (nT T k))) z' (by omega) (by omega) s1 (n2.2.1.trans hp) hz') hq
      rw [cE_265_11, cF_265_11, if_neg (fun q => e (h.inj (Int.le_of_lt k0) k1 (Int.le_of_lt h0) h1 q))]
      simp only [if_pos o, if_pos ok, h.kd (Int.le_of_lt k0) k1, h.kd (Int.le_of_lt h0) h1]
      have s2' : rep tx n T i k ↔ ((nLb (nT T k)).1 = (nLb (nT T i)).1 ∧ alk tx n (nLb (nT T k)) (nLb (nT T i))) ∨ rep tx n T i (k + 1 + fSz (nCh (nT T k))) := s2
      rcases hz with rfl | rfl
      · rw [if_pos rfl]
        split
        · next e1 =>
          refine RB_if (r_266 ht h (Int.le_of_lt k0) k1 (Int.le_of_lt h0) h1) (fun p => ?_) (fun p => ?_)
          · exact go 1 (Or.inr rfl) ⟨fun _ => Or.inr (s2'.mpr (Or.inl ⟨e1, p⟩)), fun _ => Or.inl rfl⟩
          · refine go 0 (Or.inl rfl) ⟨fun q => q.imp id fun q => s2'.mpr (Or.inr q), fun q => q.imp id fun q => ?_⟩
            exact (s2'.mp q).resolve_left fun z => p z.2
        · next e1 =>
          refine go 0 (Or.inl rfl) ⟨fun q => q.imp id fun q => s2'.mpr (Or.inr q), fun q => q.imp id fun q => ?_⟩
          exact (s2'.mp q).resolve_left fun z => e1 z.1
      · rw [if_neg (by decide)]
        exact go 1 (Or.inr rfl) ⟨fun _ => Or.inl rfl, fun _ => Or.inl rfl⟩
theorem r_265 (ht : tOk tx n) {r : cm_S} {T : tT} (h : rJ tx n r T) {i : Int} (h0 : 0 < i) (h1 : i < tSz T) : RB (cm_sem 265 [.inr (.inl 41), .inl (nO T i)] r) r (rep tx n T i (nPa (nT T i) + 1)) := by
  have o := h.no (Int.le_of_lt h0) h1
  have m := nT_mem h0 h1
  have op := h.no m.1 (show nPa (nT T i) < tSz T by omega)
  have hc : nCh (nT T (nPa (nT T i))) ≠ .leaf := by
    intro e
    have := m.2.2
    rw [e] at this
    cases this
  have n1 := nT_1 m.1 (show nPa (nT T i) < tSz T by omega) hc
  rw [cS_265, cF_265_0, if_pos o, h.pa h0 h1, if_pos op, h.fi m.1 (by omega) hc]
  exact RB_iff (rl_265 ht h h0 h1 (i - (nPa (nT T i) + 1)).toNat (nPa (nT T i) + 1) 0 (by omega) (by omega) (by omega) n1.2.2 (Or.inl rfl)) ⟨fun q => q.resolve_left (by decide), fun q => Or.inr q⟩
end TX90
