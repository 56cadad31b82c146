/-! ===== a token: the reference's look() ===== -/
section TX24
variable (tx : Int → Int) (n : Int)
/-- the token behind e; where g is true, a / begins a pattern -/
def lxG (g : Bool) (e : Int) : Option tTk :=
  if g = true ∧ (blE tx n 481 e false).2.2 = false ∧ (blE tx n 481 e false).1 < n ∧ tA tx n (blE tx n 481 e false).1 = 47 then
    (if rxE tx n (blE tx n 481 e false).1 = -1 then none else some (5, 0, (blE tx n 481 e false).1, rxE tx n (blE tx n 481 e false).1, (blE tx n 481 e false).2.1))
  else lxT tx n e
end TX24
/-- the reference's number of a token -/
def rNo (t : tTk) : Int := if t.1 = 2 then 999 + t.2.1 else if t.1 = 6 then t.2.1 else if t.1 = 0 then 0 else if t.1 = 1 then 1 else t.1 - 1
def rSlt (j : Nat) : Prop := 4108 ≤ j ∧ j ≤ 4117 ∧ j ≠ 4110 ∧ j ≠ 4114
/-- nothing but the reference's token (and its fault) has changed -/
def rFr (s s' : cm_S) : Prop := s'.2 = s.2 ∧ ∀ j, ¬ rSlt j → s'.1 j = s.1 j
theorem rFr_p {s s' : cm_S} (h : rFr s s') {k : Nat} (hk : rSlt k) {z : Int} : rFr s (cm_p s' k z) := by
  refine ⟨h.1, fun j hj => ?_⟩
  rw [cm_p_ne (by rintro rfl; exact hj hk)]
  exact h.2 j hj
theorem rFr_rf (s : cm_S) : rFr s s := ⟨rfl, fun _ _ => rfl⟩
def rTk (s : cm_S) (t : tTk) : Prop := s.1 4111 = rNo t ∧ s.1 4112 = t.2.2.1 ∧ s.1 4113 = t.2.2.2.1 ∧ s.1 4115 = cm_n t.2.2.2.2
section TX25
variable {tx : Int → Int} {n : Int}
/-- what look() leaves: token and end -/
def rLk (s : cm_S) (k e : Int) : cm_S := cm_p (cm_p s 4111 k) 4113 e
theorem rl_180_51 (ht : tOk tx n) {s : cm_S} (h : rTx tx n s) {p : Int} (hp : s.1 4112 = p) (h0 : 0 ≤ p) : ∀ (k : Nat) (q : Int) (o1 o2 : Option cm_V), n ≤ q + k → p ≤ q → q ≤ n → cm_lp cm_sem cm_k180 51 [some (.inr (.inl 41)), o1, o2, some (.inl q)] [] s = some (.inl none, rLk s (if wdI (tkL tx n p (whE tx n cN q - p).toNat) = 0 then 1 else 999 + wdI (tkL tx n p (whE tx n cN q - p).toNat)) (whE tx n cN q)) := by
  obtain ⟨t1, t2, -⟩ := id ht
  intro k
  have base : ∀ (q : Int) (o1 o2 : Option cm_V), p ≤ q → q ≤ n → ¬ cN (tA tx n q) → cm_lp cm_sem cm_k180 51 [some (.inr (.inl 41)), o1, o2, some (.inl q)] [] s = some (.inl none, rLk s (if wdI (tkL tx n p (whE tx n cN q - p).toNat) = 0 then 1 else 999 + wdI (tkL tx n p (whE tx n cN q - p).toNat)) (whE tx n cN q)) := by
    intro q o1 o2 g1 g2 hc
    rw [cE_180_51, cF_180_51, cs_181 ht h (by omega), cm_bi_i, cs_187, cm_bi_i, show whE tx n cN q = q by rw [whE_eq cN (by decide) (show 0 ≤ q by omega), if_neg hc]]
    simp only [cm_b0, tH_N (tx := tx) (n := n) (show 0 ≤ q by omega)]
    rw [if_pos hc, hp, cs_189 ht h h0 g1 g2, cm_bi_i, if_neg (by omega)]
    rfl
  induction k with
  | zero =>
    intro q o1 o2 hk g1 g2
    exact base q o1 o2 g1 g2 (by rw [tA_out (by omega)]; decide)
  | succ k ih =>
    intro q o1 o2 hk g1 g2
    by_cases hc : cN (tA tx n q)
    · have hl : q < n := by
        apply Int.lt_of_not_ge
        intro z
        rw [tA_out z] at hc
        omega
      rw [cE_180_51, cF_180_51, cs_181 ht h (by omega), cm_bi_i, cs_187, cm_bi_i]
      simp only [cm_b0, tH_N (tx := tx) (n := n) (show 0 ≤ q by omega)]
      rw [if_neg (fun z => z hc), cm_w_id (by omega) (by omega), show whE tx n cN q = whE tx n cN (q + 1) by rw [whE_eq cN (by decide) (show 0 ≤ q by omega), if_pos hc]]
      exact ih (q + 1) o1 o2 (by omega) (by omega) (by omega)
    · exact base q o1 o2 g1 g2 hc
/-- an end e that is -1 is a fault -/
theorem rl_180w {s : cm_S} (h8 : s.1 4108 = 0) {p : Int} (hp : s.1 4112 = p) (k e : Int) : ∃ s', (if e = -1 then (cm_bv (cm_sem 185 [.inr (.inl 41), .inl 1, .inl ((cm_p s 4111 k).1 4112)] (cm_p (cm_p s 4111 k) 4113 e)) fun s2 => some (.inl none, s2)) else some (.inl none, cm_p (cm_p s 4111 k) 4113 e)) = some (.inl none, s') ∧ rFr s s' ∧ (e = -1 → s'.1 4108 = 1 ∧ s'.1 4112 = p) ∧ (e ≠ -1 → s' = rLk s k e) := by
  have hF : rFr s (cm_p (cm_p s 4111 k) 4113 e) := rFr_p (rFr_p (rFr_rf s) (by unfold rSlt; omega)) (by unfold rSlt; omega)
  by_cases he : e = -1
  · rw [if_pos he, cs_185 (by simpa [cm_p] using h8), cm_bv_o]
    exact ⟨_, rfl, rFr_p (rFr_p hF (by unfold rSlt; omega)) (by unfold rSlt; omega), fun _ => ⟨by simp [cm_p], by simpa [cm_p] using hp⟩, fun z => absurd he z⟩
  · rw [if_neg he]
    exact ⟨_, rfl, hF, fun z => absurd z he, fun _ => rfl⟩
theorem rl_180_90 (ht : tOk tx n) {s : cm_S} (h : rTx tx n s) (h8 : s.1 4108 = 0) {p : Int} (hp : s.1 4112 = p) (h0 : 0 ≤ p) (h1 : p < n) (g : Bool) (o3 : Option cm_V) : ∃ s', cm_lp cm_sem cm_k180 90 [some (.inr (.inl 41)), some (.inl (cm_n g)), some (.inl (tA tx n p)), o3] [] s = some (.inl none, s') ∧ rFr s s' ∧
    (let k := if tA tx n p = 39 ∨ tA tx n p = 34 then 3 else if tA tx n p = 47 ∧ g = true then 4 else (sgE tx n p).1
     let e := if tA tx n p = 39 ∨ tA tx n p = 34 then stE tx n (tA tx n p) (p + 1) else if tA tx n p = 47 ∧ g = true then rxE tx n p else (sgE tx n p).2
     (e = -1 → s'.1 4108 = 1 ∧ s'.1 4112 = p) ∧ (e ≠ -1 → s' = rLk s k e)) := by
  obtain ⟨t1, t2, -⟩ := id ht
  have e := tA_in (tx := tx) h0 h1
  have sg : ∃ s', (cm_bi (cm_sem 196 [.inr (.inl 41), .inl (s.1 4112)] s) fun z11 s11 =>
          if z11 = 0 then
            cm_bv (cm_sem 185 [.inr (.inl 41), .inl 1, .inl (s11.1 4112)] (cm_p (cm_p s11 4111 z11) 4113 (-1))) fun s12 =>
              some (.inl none, s12)
          else
            cm_bi (cm_sem 197 [.inl z11] (cm_p s11 4111 z11)) fun z13 s13 =>
              if (cm_w ((s11.1 4112) + z13)) = (-1) then
                cm_bv (cm_sem 185 [.inr (.inl 41), .inl 1, .inl (s13.1 4112)] (cm_p s13 4113 (cm_w ((s11.1 4112) + z13)))) fun s14 =>
                  some (.inl none, s14)
              else
                some (.inl none, (cm_p s13 4113 (cm_w ((s11.1 4112) + z13))))) = some (.inl none, s') ∧ rFr s s' ∧ ((sgE tx n p).2 = -1 → s'.1 4108 = 1 ∧ s'.1 4112 = p) ∧ ((sgE tx n p).2 ≠ -1 → s' = rLk s (sgE tx n p).1 (sgE tx n p).2) := by
    rw [hp, cs_196 ht h h0 h1, cm_bi_i, hp]
    by_cases hm : (sgE tx n p).2 = -1
    · have hz : (sgE tx n p).1 = 0 := by
        unfold sgE at hm ⊢
        split at hm
        · exfalso
          repeat' split at hm
          all_goals (simp only at hm; omega)
        · next hs => rw [if_neg hs]
      have := rl_180w h8 hp 0 (-1)
      rw [if_pos rfl, cm_p_ne (by decide), hp] at this
      rw [hz, if_pos rfl]
      obtain ⟨s', a1, a2, a3, -⟩ := this
      exact ⟨s', a1, a2, fun _ => a3 rfl, fun z => absurd hm z⟩
    · have hz : (sgE tx n p).1 ≠ 0 := by
        have hs : tA tx n p ∈ sgS := by
          apply Decidable.byContradiction
          intro z
          exact hm (by unfold sgE; rw [if_neg z])
        intro hz0
        unfold sgE at hz0
        rw [if_pos hs] at hz0
        have hb := tx_b ht h0 h1
        repeat' split at hz0
        · next a b c => have := sg_pos _ c.2; simp only at hz0; omega
        · next a b c => have := sg_pos _ b.2; simp only at hz0; omega
        · next a b => have := sg_pos _ a.2; simp only at hz0; omega
        · simp only at hz0; omega
      have hl : p < (sgE tx n p).2 ∧ (sgE tx n p).2 ≤ p + 4 := by
        unfold sgE at hm ⊢
        repeat' split
        all_goals first | (simp only; omega) | exact absurd (by rw [if_neg (by assumption)]) hm
      rw [if_neg hz, cs_197 ht h0 h1 hm, cm_bi_i, show p + ((sgE tx n p).2 - p) = (sgE tx n p).2 by omega, cm_w_id (by omega) (by omega), if_neg hm]
      exact ⟨_, rfl, rFr_p (rFr_p (rFr_rf s) (by unfold rSlt; omega)) (by unfold rSlt; omega), fun z => absurd z hm, fun _ => rfl⟩
  rw [cE_180_90, cF_180_90]
  by_cases hq : tA tx n p = 39 ∨ tA tx n p = 34
  · simp only [if_pos hq]
    have := rl_180w h8 hp 3 (stE tx n (tA tx n p) (p + 1))
    have hr := rTx_p h (k := 4111) (by decide) (z := 3)
    rcases hq with z | z
    · rw [if_pos z, hp, cs_193 ht hr h0 h1, cm_bi_i, ← e]
      exact this
    · rw [if_neg (by omega), if_pos z, hp, cs_193 ht hr h0 h1, cm_bi_i, ← e]
      exact this
  · simp only [if_neg hq]
    rw [if_neg (by omega), if_neg (by omega)]
    by_cases h47 : tA tx n p = 47
    · rw [if_pos h47]
      cases g
      · rw [if_pos (show cm_n false = 0 from rfl)]
        simpa [h47] using sg
      · rw [if_neg (show ¬ cm_n true = 0 by decide)]
        have := rl_180w h8 hp 4 (rxE tx n p)
        have hr := rTx_p h (k := 4111) (by decide) (z := 4)
        rw [hp, cs_194 ht hr h0 h1, cm_bi_i]
        simpa [h47] using this
    · rw [if_neg h47]
      simpa [h47] using sg
end TX25
