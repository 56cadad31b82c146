/-! ===== a token's code and its text ===== -/
section TX81
variable {tx : Int → Int} {n : Int}
theorem lx_all (ht : tOk tx n) {g : Bool} {e : Int} (h0 : 0 ≤ e) (h1 : e ≤ n) {t : tTk} (h : lxG tx n g e = some t) : t.1 = 0 ∨ t.1 = 3 ∧ (cD (tA tx n t.2.2.1) ∨ tA tx n t.2.2.1 = 46) ∨ (t.1 = 1 ∧ t.2.1 = 0 ∨ t.1 = 2) ∧ cN (tA tx n t.2.2.1) ∧ ¬ cD (tA tx n t.2.2.1) ∧ t.2.1 = wdI (tkL tx n t.2.2.1 (t.2.2.2.1 - t.2.2.1).toNat) ∨ t.1 = 4 ∧ (tA tx n t.2.2.1 = 39 ∨ tA tx n t.2.2.1 = 34) ∨ t.1 = 5 ∧ tA tx n t.2.2.1 = 47 ∨ t.1 = 6 ∧ t.2.2.1 < n ∧ (sgE tx n t.2.2.1).1 = t.2.1 ∧ (sgE tx n t.2.2.1).2 = t.2.2.2.1 ∧ ¬ (sgE tx n t.2.2.1).2 = -1 := by
  have hle := blE_le ht 481 e false h0 h1
  unfold lxG lxT at h
  generalize blE tx n 481 e false = r at h hle
  obtain ⟨p, b, bad⟩ := r
  simp only at h hle
  split at h
  · next hr =>
    split at h
    · cases h
    · cases h
      exact Or.inr (Or.inr (Or.inr (Or.inr (Or.inl ⟨rfl, hr.2.2.2⟩))))
  · split at h
    · cases h
    · split at h
      · next hp =>
        split at h
        · next hC =>
          split at h
          · cases h
          · cases h
            right
            left
            refine ⟨rfl, ?_⟩
            simp only
            omega
        · next hC =>
          split at h
          · next hN =>
            cases h
            right
            right
            left
            refine ⟨?_, hN, fun z => hC (Or.inl z), rfl⟩
            simp only
            split
            · next hz => exact Or.inl ⟨rfl, hz⟩
            · exact Or.inr rfl
          · split at h
            · next hq =>
              split at h
              · cases h
              · cases h
                exact Or.inr (Or.inr (Or.inr (Or.inl ⟨rfl, hq⟩)))
            · split at h
              · cases h
              · next hm =>
                cases h
                exact Or.inr (Or.inr (Or.inr (Or.inr (Or.inr ⟨rfl, hp, rfl, rfl, hm⟩))))
      · cases h
        exact Or.inl rfl
/-- a sign's code is its text, packed -/
theorem tkA6 (ht : tOk tx n) {l : tLb} (h : tkA tx n l 6) : 0 ≤ lbP l ∧ lbP l + lbN l ≤ n ∧ lbC l ∈ sgS ∧ (lbN l = 1 ∧ lbC l = tA tx n (lbP l) ∨ lbN l = 2 ∧ lbC l = pk2 tx n (lbP l) ∨ lbN l = 3 ∧ lbC l = pk3 tx n (lbP l) ∨ lbN l = 4 ∧ lbC l = pk4 tx n (lbP l)) := by
  obtain ⟨g, e, b, h0, h1, hT⟩ := h
  have r4 := lxG_r4 ht h0 h1 hT
  have := lx_all ht h0 h1 hT
  simp only at this r4
  have a : lbP l < n ∧ (sgE tx n (lbP l)).1 = lbC l ∧ (sgE tx n (lbP l)).2 = lbP l + lbN l ∧ ¬ (sgE tx n (lbP l)).2 = -1 := by
    rcases this with h | ⟨h, -⟩ | ⟨h, -⟩ | ⟨h, -⟩ | ⟨h, -⟩ | h
    · omega
    · omega
    · omega
    · omega
    · omega
    · exact h.2
  clear this
  obtain ⟨a1, a2, a3, a4⟩ := a
  have sb := sgE_b a1 a4
  refine ⟨by omega, by omega, by rw [← a2]; exact sb.2.2, ?_⟩
  unfold sgE at a2 a3 a4
  repeat' split at a2
  all_goals simp_all
  all_goals omega
theorem wdF_nth {tk : List Int} : ∀ (l : List (List Int)) (w c : Int), 1 ≤ w → wdF tk l w = c → c ≠ 0 → w ≤ c ∧ l.getD (c - w).toNat [] = tk := by
  intro l
  induction l with
  | nil => intro w c _ h hc; exact absurd h.symm hc
  | cons u l ih =>
    intro w c hw h hc
    simp only [wdF] at h
    split at h
    · next e =>
      subst h
      refine ⟨Int.le_refl _, ?_⟩
      rw [Int.sub_self]
      exact e.symm
    · obtain ⟨a, b⟩ := ih (w + 1) c (by omega) h hc
      refine ⟨by omega, ?_⟩
      rw [show (c - w).toNat = (c - (w + 1)).toNat + 1 by omega]
      exact b
/-- a word's text -/
theorem tkA2 (ht : tOk tx n) {l : tLb} (h : tkA tx n l 2) : 0 ≤ lbP l ∧ lbP l + lbN l ≤ n ∧ 1 ≤ lbC l ∧ lbC l ≤ 27 ∧ tkL tx n (lbP l) (lbN l).toNat = wdS.getD (lbC l - 1).toNat [] := by
  obtain ⟨g, e, b, h0, h1, hT⟩ := h
  have r4 := lxG_r4 ht h0 h1 hT
  have tn := tk_num (lxG_ok ht h0 h1 hT).1
  have := lx_all ht h0 h1 hT
  simp only at this r4 tn
  have a : lbC l = wdI (tkL tx n (lbP l) (lbP l + lbN l - lbP l).toNat) := by
    rcases this with h | ⟨h, -⟩ | h | ⟨h, -⟩ | ⟨h, -⟩ | ⟨h, -⟩
    · omega
    · omega
    · exact h.2.2.2
    · omega
    · omega
    · omega
  clear this
  rw [show lbP l + lbN l - lbP l = lbN l by omega] at a
  have c1 : 1 ≤ lbC l ∧ lbC l ≤ 27 := by omega
  clear tn
  obtain ⟨w1, w2⟩ := wdF_nth wdS 1 (lbC l) (by omega) a.symm (by omega)
  exact ⟨by omega, by omega, c1.1, c1.2, w2.symm⟩
theorem tkL_hd {p : Int} {k : Nat} {c : Int} {r : List Int} (h : tkL tx n p k = c :: r) : tA tx n p = c ∧ (k : Int) = r.length + 1 := by
  have hl := tkL_len (tx := tx) (n := n) (p := p) k
  rw [h] at hl
  cases k with
  | zero => cases h
  | succ k =>
    simp only [tkL, List.cons.injEq] at h
    simp only [List.length_cons] at hl
    exact ⟨h.1, by omega⟩
theorem sg_chr : ∀ x ∈ sgS, x < 256 → ¬ (97 ≤ x ∧ x ≤ 122) := by
  intro x hx
  rw [sgS_eq] at hx
  revert x
  decide
end TX81
