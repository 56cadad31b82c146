/-! ===== how long words are ===== -/
theorem wdF_get (tk : List Int) : ∀ (l : List (List Int)) (w v : Int), 1 ≤ w → wdF tk l w = v → v ≠ 0 → w ≤ v ∧ l.getD (v - w).toNat [] = tk := by
  intro l
  induction l with
  | nil => intro w v _ h hv; exact absurd h.symm hv
  | cons u r ih =>
    intro w v hw h hv
    simp only [wdF] at h
    split at h
    · next hu =>
      subst h
      refine ⟨Int.le_refl _, ?_⟩
      rw [show (w - w).toNat = 0 by omega]
      exact hu.symm
    · obtain ⟨h1, h2⟩ := ih (w + 1) v (by omega) h hv
      refine ⟨by omega, ?_⟩
      rw [show (v - w).toNat = (v - (w + 1)).toNat + 1 by omega]
      exact h2
def wl (w : Int) : Int := ((wdS.getD (w - 1).toNat []).length : Nat)
section TX48
variable {tx : Int → Int} {n : Int}
theorem lxG_word (ht : tOk tx n) {g : Bool} {e : Int} (h0 : 0 ≤ e) (h1 : e ≤ n) {t : tTk} (h : lxG tx n g e = some t) (hk : t.1 = 2) : tkL tx n t.2.2.1 (t.2.2.2.1 - t.2.2.1).toNat = wdS.getD (t.2.1 - 1).toNat [] := by
  have key : t.1 = 2 → t.2.1 ≠ 0 → wdI (tkL tx n t.2.2.1 (t.2.2.2.1 - t.2.2.1).toNat) = t.2.1 → tkL tx n t.2.2.1 (t.2.2.2.1 - t.2.2.1).toNat = wdS.getD (t.2.1 - 1).toNat [] := fun _ hz hw => (wdF_get _ wdS 1 t.2.1 (by omega) hw hz).2.symm
  have ok := (lxG_ok ht h0 h1 h).1
  have hz : t.2.1 ≠ 0 := by
    have := tk_num ok
    omega
  refine key hk hz ?_
  unfold lxG lxT at h
  generalize blE tx n 481 e false = r at h
  obtain ⟨p, b, bad⟩ := r
  simp only at h
  split at h
  · split at h
    · cases h
    · cases h; simp at hk
  · split at h
    · cases h
    · split at h
      · split at h
        · split at h
          · cases h
          · cases h; simp at hk
        · split at h
          · cases h; rfl
          · split at h
            · split at h
              · cases h
              · cases h; simp at hk
            · split at h
              · cases h
              · cases h; simp at hk
      · cases h; simp at hk
theorem tok_l (ht : tOk tx n) {g : Bool} {e : Int} (h0 : 0 ≤ e) (h1 : e ≤ n) {t : tTk} (h : lxG tx n g e = some t) {w : Int} (hc : 1 ≤ w) (hg : w ≤ 27) (hw : t.2.1 = w) : rNo t = 999 + w ∧ t.2.2.2.1 = t.2.2.1 + wl w := by
  obtain ⟨a1, a2, a3⟩ := (tok_w ht h0 h1 h hc hg).1 hw
  have := congrArg List.length (lxG_word ht h0 h1 h a2)
  rw [tkL_len, hw] at this
  have e1 : wl w = ((wdS.getD (w - 1).toNat []).length : Nat) := rfl
  exact ⟨a1, by omega⟩
end TX48
