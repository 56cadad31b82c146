/-! ===== runs without a number of steps: the limit; all methods at once ===== -/
noncomputable def cm_lim (f : Nat → Option cm_R) : Option cm_R := @dite _ (∃ r, ∃ K, ∀ kk, K ≤ kk → f kk = some r) (Classical.propDecidable _) (fun h => some h.choose) (fun _ => none)
theorem cm_lim_iff {f : Nat → Option cm_R} {r : cm_R} : cm_lim f = some r ↔ ∃ K, ∀ kk, K ≤ kk → f kk = some r := by
  unfold cm_lim
  split
  · next h =>
    obtain ⟨K, hK⟩ := h.choose_spec
    constructor
    · intro e
      have e2 := Option.some.inj e
      exact ⟨K, fun kk hk => by rw [hK kk hk, e2]⟩
    · rintro ⟨K2, h2⟩
      have h3 := hK (max K K2) (Nat.le_max_left _ _)
      rw [h2 _ (Nat.le_max_right _ _)] at h3
      exact h3.symm
  · next h =>
    constructor
    · intro e; cases e
    · intro e; exact absurd ⟨r, e⟩ h
theorem cm_ext {a b : Option cm_R} (h : ∀ r, a = some r ↔ b = some r) : a = b := by
  cases a with
  | some x => exact ((h x).mp rfl).symm
  | none =>
    cases b with
    | none => rfl
    | some x => exact (h x).mpr rfl
noncomputable def cm_lp (run : cm_RN) (code : List Instr) : cm_X := fun t lv st s => cm_lim fun kk => cm_go run code kk t lv st s
