/-- WHAT A METHOD OF THE SECOND MACHINE ANSWERS, IT ANSWERS IN THE FIRST, no deeper than its rank -/
theorem j_sem {lo hi : Nat} {h0 : List va_E} (hh : hi ≤ h0.length) (hhi : hi ≤ 72) (hpt : cm_ptck lo hi = true) {y : Nat} {as : List cm_V} {s : cm_S} {r : cm_R} (h : cm_sem y as s = some r) (hA : jA lo hi y as) (hd : dok y as) (hs : cm_cs lo hi s) {E : Nat} (hE : drk y as + 6 ≤ E) : jRun E y (as.map cm_v) (cm_mix lo hi s h0) (jR lo hi h0 r) ∧ jRk lo hi r := by
  obtain ⟨K, hK⟩ := cm_lim_iff.mp h
  have h1 := d_all K y as s r (drk y as + 1) (hK K (Nat.le_refl _)) hd (Nat.lt_succ_self _)
  obtain ⟨⟨N, hN⟩, g2⟩ := j_all hh hhi hpt K (drk y as + 1) y as s r h1 hA hs
  exact ⟨⟨N, fun F d k1 k2 => hN F d k1 (by omega)⟩, g2⟩
