/-! ===== where the two sides stand in the text ===== -/
section TX27
variable {tx : Int → Int} {n : Int}
/-- the token behind e is the class's current one (g: it has been read as an operand's begin) -/
def cAt (tx : Int → Int) (n : Int) (s : cm_S) (e : Int) (g : Bool) (t : tTk) : Prop := cTx tx n s ∧ 0 ≤ e ∧ e ≤ n ∧ lxG tx n g e = some t ∧ cTk s t
/-- the reference stands behind e; what it has looked at is right -/
def rAt (tx : Int → Int) (n : Int) (s : cm_S) (e : Int) : Prop := rTx tx n s ∧ 0 ≤ e ∧ e ≤ n ∧ s.1 4114 = e ∧ s.1 4108 = 0 ∧ (s.1 4116 = 0 ∨ ∃ g t, s.1 4116 = 1 ∧ s.1 4117 = cm_n g ∧ lxG tx n g e = some t ∧ rTk s t)
theorem lxG_f (e : Int) : lxG tx n false e = lxT tx n e := by
  unfold lxG
  rw [if_neg (fun z => by cases z.1)]
/-- a token that does not begin with / is the same for both goals -/
theorem lxG_same {g g' : Bool} {e : Int} (h : ¬ ((blE tx n 481 e false).2.2 = false ∧ (blE tx n 481 e false).1 < n ∧ tA tx n (blE tx n 481 e false).1 = 47)) : lxG tx n g e = lxG tx n g' e := by
  unfold lxG
  rw [if_neg (fun z => h z.2), if_neg (fun z => h z.2)]
/-- a token begins where the blanks end -/
theorem lxG_start {g : Bool} {e : Int} {t : tTk} (h : lxG tx n g e = some t) : t.2.2.1 = (blE tx n 481 e false).1 ∧ (blE tx n 481 e false).2.2 = false ∧ t.2.2.2.2 = (blE tx n 481 e false).2.1 := by
  unfold lxG lxT at h
  generalize blE tx n 481 e false = r at h ⊢
  obtain ⟨p, b, bad⟩ := r
  simp only at h ⊢
  cases bad
  · split at h
    · split at h
      · cases h
      · cases h; exact ⟨rfl, rfl, rfl⟩
    · rw [if_neg (by decide)] at h
      split at h
      · split at h
        · split at h
          · cases h
          · cases h; exact ⟨rfl, rfl, rfl⟩
        · split at h
          · cases h; exact ⟨rfl, rfl, rfl⟩
          · split at h
            · split at h
              · cases h
              · cases h; exact ⟨rfl, rfl, rfl⟩
            · split at h
              · cases h
              · cases h; exact ⟨rfl, rfl, rfl⟩
      · cases h; exact ⟨rfl, rfl, rfl⟩
  · rw [if_neg (fun z => by cases z.2.1), if_pos rfl] at h
    cases h
/-- look() -/
theorem cs_180 (ht : tOk tx n) {s : cm_S} {e : Int} (h : rAt tx n s e) (g : Bool) :
    (∀ t, lxG tx n g e = some t → ∃ s', cm_sem 180 [.inr (.inl 41), .inl (cm_n g)] s = some (.inl none, s') ∧ rFr s s' ∧ s'.1 4109 = s.1 4109 ∧ rAt tx n s' e ∧ rTk s' t ∧ s'.1 4116 = 1) ∧
    (lxG tx n g e = none → ∃ s', cm_sem 180 [.inr (.inl 41), .inl (cm_n g)] s = some (.inl none, s') ∧ rFr s s' ∧ s'.1 4108 = 1 ∧ 0 ≤ s'.1 4112) := by
  obtain ⟨hx, h0, h1, h14, h8, hr⟩ := h
  have core := rl_180_14 ht hx h8 h14 h0 h1 g none none
  have fin : ∀ t, lxG tx n g e = some t → ∀ s', rSee s s' g t → rFr s s' ∧ s'.1 4109 = s.1 4109 ∧ rAt tx n s' e ∧ rTk s' t ∧ s'.1 4116 = 1 := by
    intro t hT s' ⟨a1, a2, a3, a4, a5, a6⟩
    refine ⟨a1, a3, ⟨⟨by rw [a1.2 4107 (by unfold rSlt; omega)]; exact hx.1, fun j j0 j1 => by rw [a1.1]; exact hx.2 j j0 j1⟩, h0, h1, by rw [a1.2 4114 (by unfold rSlt; omega)]; exact h14, a2, Or.inr ⟨g, t, a5, a6, hT, a4⟩⟩, a4, a5⟩
  have go : cm_sem 180 [.inr (.inl 41), .inl (cm_n g)] s = cm_lp cm_sem cm_k180 14 [some (.inr (.inl 41)), some (.inl (cm_n g)), none, none] [] s → (∀ t, lxG tx n g e = some t → ∃ s', cm_sem 180 [.inr (.inl 41), .inl (cm_n g)] s = some (.inl none, s') ∧ rFr s s' ∧ s'.1 4109 = s.1 4109 ∧ rAt tx n s' e ∧ rTk s' t ∧ s'.1 4116 = 1) ∧ (lxG tx n g e = none → ∃ s', cm_sem 180 [.inr (.inl 41), .inl (cm_n g)] s = some (.inl none, s') ∧ rFr s s' ∧ s'.1 4108 = 1 ∧ 0 ≤ s'.1 4112) := by
    intro eq
    rw [eq]
    refine ⟨fun t hT => ?_, core.2⟩
    obtain ⟨s', b1, b2⟩ := core.1 t hT
    exact ⟨s', b1, fin t hT s' b2⟩
  rcases hr with hr | ⟨g', t', hr, hg, hT', hk⟩
  · apply go
    rw [cS_180, cF_180_0, if_pos hr]
  · by_cases hgg : g' = g
    · subst hgg
      refine ⟨fun t hT => ?_, fun hN => by rw [hN] at hT'; cases hT'⟩
      rw [hT'] at hT
      cases hT
      rw [cS_180, cF_180_0, if_neg (by omega), if_pos hg]
      exact ⟨s, rfl, rFr_rf s, rfl, ⟨hx, h0, h1, h14, h8, Or.inr ⟨g', t', hr, hg, hT', hk⟩⟩, hk, hr⟩
    · have hst := lxG_start hT'
      have hbl := blE_le ht 481 e false h0 h1
      have hne : ¬ s.1 4117 = cm_n g := by
        rw [hg]
        cases g <;> cases g' <;> first | (exact absurd rfl hgg) | decide
      have e12 : s.1 4112 = (blE tx n 481 e false).1 := by rw [hk.2.1, hst.1]
      have eq : cm_sem 180 [.inr (.inl 41), .inl (cm_n g)] s = if tA tx n (blE tx n 481 e false).1 = 47 then cm_lp cm_sem cm_k180 14 [some (.inr (.inl 41)), some (.inl (cm_n g)), none, none] [] s else some (.inl none, s) := by
        rw [cS_180, cF_180_0, if_neg (by omega), if_neg hne, e12, cs_181 ht hx (by omega), cm_bi_i]
        simp only [tH_is ht (show 0 ≤ (blE tx n 481 e false).1 by omega) (show (47 : Int) ≠ 0 by decide) (show (47 : Int) ≠ -1 by decide)]
      by_cases h47 : tA tx n (blE tx n 481 e false).1 = 47
      · exact go (by rw [eq, if_pos h47])
      · rw [eq, if_neg h47]
        have hsm : lxG tx n g e = lxG tx n g' e := lxG_same (fun z => h47 z.2.2)
        rw [hsm]
        refine ⟨fun t hT => ?_, fun hN => by rw [hN] at hT'; cases hT'⟩
        rw [hT'] at hT
        cases hT
        exact ⟨s, rfl, rFr_rf s, rfl, ⟨hx, h0, h1, h14, h8, Or.inr ⟨g', t', hr, hg, hT', hk⟩⟩, hk, hr⟩
/-- take(): behind the token that was looked at -/
theorem cs_198 {s : cm_S} : cm_sem 198 [.inr (.inl 41)] s = some (.inl none, cm_p (cm_p s 4114 (s.1 4113)) 4116 0) := cS_198 s
/-- bad(): a fault, if there is none yet -/
theorem cs_205 {s : cm_S} (h : s.1 4108 = 0) : cm_sem 205 [.inr (.inl 41)] s = some (.inl none, cm_p (cm_p s 4108 2) 4109 (s.1 4112)) := by
  rw [cS_205, cF_205_0, cs_185 h, cm_bv_o]
end TX27
