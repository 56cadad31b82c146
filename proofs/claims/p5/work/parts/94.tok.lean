/-! ===== what a token is, and operandDue() ===== -/
/-- a token's kind and code go together -/
def tkOk (t : tTk) : Prop := (t.1 = 0 ∨ t.1 = 1 ∨ t.1 = 3 ∨ t.1 = 4 ∨ t.1 = 5) ∧ t.2.1 = 0 ∨ t.1 = 2 ∧ 1 ≤ t.2.1 ∧ t.2.1 ≤ 27 ∨ t.1 = 6 ∧ t.2.1 ∈ sgS
theorem sg_gap : ∀ x ∈ sgS, x < 1000 ∨ 1026 < x := by decide +kernel
theorem tk_sg {t : tTk} (h : tkOk t) {c : Int} (hc : 33 ≤ c) (hg : c < 1000 ∨ 1026 < c) : (t.2.1 = c) = (rNo t = c) := by
  apply propext
  unfold rNo
  rcases h with ⟨h1, h2⟩ | ⟨h1, h2, h3⟩ | ⟨h1, h2⟩
  · rw [if_neg (by omega), if_neg (by omega)]
    repeat' split
    all_goals omega
  · rw [if_pos h1]; omega
  · rw [if_neg (by omega), if_pos h1]
theorem tk_wd {t : tTk} (h : tkOk t) {w : Int} (h0 : 1 ≤ w) (h9 : w ≤ 27) : (t.2.1 = w) = (rNo t = 999 + w) := by
  apply propext
  unfold rNo
  rcases h with ⟨h1, h2⟩ | ⟨h1, h2, h3⟩ | ⟨h1, h2⟩
  · rw [if_neg (by omega), if_neg (by omega)]
    repeat' split
    all_goals omega
  · rw [if_pos h1]; omega
  · have := sg_pos _ h2
    have := sg_gap _ h2
    rw [if_neg (by omega), if_pos h1]; omega
theorem tk_kind {t : tTk} (h : tkOk t) : ((t.1 = 0) = (rNo t = 0)) ∧ ((t.1 = 1) = (rNo t = 1)) ∧ ((t.1 = 3) = (rNo t = 2)) ∧ ((t.1 = 4) = (rNo t = 3)) ∧ ((t.1 = 5) = (rNo t = 4)) ∧ ((t.1 = 2) = (1000 ≤ rNo t ∧ rNo t ≤ 1026)) := by
  unfold rNo
  simp only [eq_iff_iff]
  rcases h with ⟨h1, h2⟩ | ⟨h1, h2, h3⟩ | ⟨h1, h2⟩
  · rw [if_neg (by omega), if_neg (by omega)]
    repeat' split
    all_goals omega
  · rw [if_pos h1]; omega
  · have := sg_pos _ h2
    have := sg_gap _ h2
    rw [if_neg (by omega), if_pos h1]; omega
section TX28
variable {tx : Int → Int} {n : Int}
theorem ckE_or {e : Int} : ckE tx n e = -1 ∨ ckE tx n e = e := by
  unfold ckE
  split
  · exact Or.inl rfl
  · exact Or.inr rfl
theorem nuX_b (ht : tOk tx n) {e : Int} (h0 : 0 ≤ e) (h1 : e ≤ n) : nuX tx n e = -1 ∨ e ≤ nuX tx n e ∧ nuX tx n e ≤ n := by
  obtain ⟨t1, t2, -⟩ := id ht
  unfold nuX
  split
  · next hx =>
    have hen : e < n := by
      rcases hx with z | z
      · exact tA_lt z (by decide)
      · exact tA_lt z (by decide)
    split
    · next hs =>
      have hen2 : e + 1 < n := by
        rcases hs with z | z
        · exact tA_lt z (by decide)
        · exact tA_lt z (by decide)
      split
      · have := whE_le (tx := tx) (n := n) cD n.toNat (e + 2) (by omega)
        have := ckE_or (tx := tx) (n := n) (e := whE tx n cD (e + 2))
        omega
      · exact Or.inl rfl
    · split
      · have := whE_le (tx := tx) (n := n) cD n.toNat (e + 1) (by omega)
        have := ckE_or (tx := tx) (n := n) (e := whE tx n cD (e + 1))
        omega
      · exact Or.inl rfl
  · have := ckE_or (tx := tx) (n := n) (e := e)
    omega
theorem nmE_b (ht : tOk tx n) {p : Int} (h0 : 0 ≤ p) (h1 : p < n) (hc : cD (tA tx n p) ∨ tA tx n p = 46 ∧ cD (tA tx n (p + 1))) : nmE tx n p = -1 ∨ p < nmE tx n p ∧ nmE tx n p ≤ n := by
  obtain ⟨t1, t2, -⟩ := id ht
  unfold nmE
  split
  · next hx =>
    have hl : p + 1 < n := by
      rcases hx.2 with z | z
      · exact tA_lt z (by decide)
      · exact tA_lt z (by decide)
    have := whE_le (tx := tx) (n := n) cHx n.toNat (p + 2) (by omega)
    have := ckE_or (tx := tx) (n := n) (e := whE tx n cHx (p + 2))
    split
    · exact Or.inl rfl
    · omega
  · split
    · exact Or.inl rfl
    · have hw := whE_le (tx := tx) (n := n) cD n.toNat p (by omega)
      have hw1 : cD (tA tx n p) → p + 1 ≤ whE tx n cD p := by
        intro z
        rw [whE_eq cD (by decide) h0, if_pos z]
        exact (whE_le (tx := tx) (n := n) cD n.toNat (p + 1) (by omega)).1
      unfold nuD
      split
      · next hd =>
        have hl := tA_lt hd (by decide)
        have hw2 := whE_le (tx := tx) (n := n) cD n.toNat (whE tx n cD p + 1) (by omega)
        have := nuX_b ht (show 0 ≤ whE tx n cD (whE tx n cD p + 1) by omega) (by omega)
        omega
      · next hd =>
        have hdg : cD (tA tx n p) := by
          rcases hc with z | z
          · exact z
          · exfalso
            apply hd
            rw [show whE tx n cD p = p by rw [whE_eq cD (by decide) h0, if_neg (by omega)]]
            exact z.1
        have := hw1 hdg
        have := nuX_b ht (show 0 ≤ whE tx n cD p by omega) (by omega)
        omega
theorem sgE_b {p : Int} (h1 : p < n) (hm : (sgE tx n p).2 ≠ -1) : p < (sgE tx n p).2 ∧ (sgE tx n p).2 ≤ n ∧ (sgE tx n p).1 ∈ sgS := by
  unfold sgE at hm ⊢
  by_cases hs : tA tx n p ∈ sgS
  · rw [if_pos hs] at hm ⊢
    repeat' split
    all_goals (simp only; first | exact ⟨by omega, by omega, by first | assumption | (rename_i a; exact a.2) | (rename_i a b; exact b.2) | (rename_i a b; exact a.2) | (rename_i a b c; exact b.2) | (rename_i a b c; exact c.2) | (rename_i a b c; exact a.2)⟩)
  · rw [if_neg hs] at hm
    exact absurd rfl hm
theorem rxE_b {p : Int} (h1 : p < n) (h0 : 0 ≤ n) (hp : 0 ≤ p) : rxE tx n p = -1 ∨ p < rxE tx n p ∧ rxE tx n p ≤ n := by
  unfold rxE
  have h2 := ptE_le (tx := tx) (n := n) n.toNat (p + 1) false (by omega)
  split
  · exact Or.inl rfl
  · have := fqE_le (tx := tx) (n := n) n.toNat false false false (ptE tx n (p + 1) false + 1) (by omega) (by omega)
    have := ckE_or (tx := tx) (n := n) (e := fqE tx n false false false (ptE tx n (p + 1) false + 1))
    omega
/-- what a token is, and where it lies -/
theorem lxG_ok (ht : tOk tx n) {g : Bool} {e : Int} (h0 : 0 ≤ e) (h1 : e ≤ n) {t : tTk} (h : lxG tx n g e = some t) : tkOk t ∧ e ≤ t.2.2.1 ∧ t.2.2.1 ≤ t.2.2.2.1 ∧ t.2.2.2.1 ≤ n ∧ (t.1 ≠ 0 → t.2.2.1 < t.2.2.2.1) ∧ (t.1 = 0 → t.2.2.1 = n) := by
  obtain ⟨t1, t2, -⟩ := id ht
  have hle := blE_le ht 481 e false h0 h1
  unfold lxG lxT at h
  generalize blE tx n 481 e false = r at h hle
  obtain ⟨p, b, bad⟩ := r
  simp only at h hle
  split at h
  · next hg =>
    have := rxE_b (tx := tx) hg.2.2.1 t1 (by omega)
    split at h
    · cases h
    · cases h
      refine ⟨Or.inl ⟨Or.inr (Or.inr (Or.inr (Or.inr rfl))), rfl⟩, ?_⟩
      simp only
      omega
  · split at h
    · cases h
    · split at h
      · next hp =>
        split at h
        · next hC =>
          have := nmE_b ht (by omega) hp hC
          split at h
          · cases h
          · cases h
            refine ⟨Or.inl ⟨Or.inr (Or.inr (Or.inl rfl)), rfl⟩, ?_⟩
            simp only
            omega
        · split at h
          · next hN =>
            have hw : p + 1 ≤ whE tx n cN p := by
              rw [whE_eq cN (by decide) (by omega), if_pos hN]
              exact (whE_le (tx := tx) (n := n) cN n.toNat (p + 1) (by omega)).1
            have hw2 := whE_le (tx := tx) (n := n) cN n.toNat p (by omega)
            have hi := wdI_le (tkL tx n p (whE tx n cN p - p).toNat)
            cases h
            constructor
            · by_cases hz : wdI (tkL tx n p (whE tx n cN p - p).toNat) = 0
              · exact Or.inl ⟨Or.inr (Or.inl (if_pos hz)), hz⟩
              · exact Or.inr (Or.inl ⟨if_neg hz, by simp only; omega, hi.2⟩)
            · simp only
              refine ⟨hle.1, by omega, by omega, fun _ => by omega, fun z => ?_⟩
              split at z <;> omega
          · split at h
            · have := stE_le (tx := tx) (n := n) (q := tA tx n p) n.toNat (p + 1) (by omega) (by omega)
              split at h
              · cases h
              · cases h
                refine ⟨Or.inl ⟨Or.inr (Or.inr (Or.inr (Or.inl rfl))), rfl⟩, ?_⟩
                simp only
                omega
            · split at h
              · cases h
              · next hm =>
                have := sgE_b hp hm
                cases h
                refine ⟨Or.inr (Or.inr ⟨rfl, this.2.2⟩), ?_⟩
                simp only
                omega
      · cases h
        refine ⟨Or.inl ⟨Or.inl rfl, rfl⟩, ?_⟩
        simp only
        omega
end TX28
