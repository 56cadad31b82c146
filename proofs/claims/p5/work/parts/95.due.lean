/-! ===== the scanners' moves ===== -/
theorem cTx_fr {tx : Int → Int} {n : Int} {s s' : cm_S} (h : cTx tx n s) (hf : cFr s s') : cTx tx n s' := ⟨by rw [hf.2 102 (by omega)]; exact h.1, fun j j0 j1 => by rw [hf.1]; exact h.2 j j0 j1⟩
theorem sg_sl : ∀ x ∈ sgS, 12032 ≤ x → x < 12288 → x = 12093 := by decide +kernel
theorem sg_sl3 : ∀ x ∈ sgS, 3095808 ≤ x → x < 3096064 → False := by decide +kernel
section TX29
variable {tx : Int → Int} {n : Int}
/-- a sign that begins with / -/
theorem sgE_sl (ht : tOk tx n) {p : Int} (h0 : 0 ≤ p) (h1 : p < n) (hm : (sgE tx n p).2 ≠ -1) : (tA tx n p = 47) = ((sgE tx n p).1 = 47 ∨ (sgE tx n p).1 = 12093) := by
  have hb0 := tx_b ht h0 h1
  apply propext
  unfold sgE at hm ⊢
  by_cases hs : tA tx n p ∈ sgS
  · rw [if_pos hs] at hm ⊢
    by_cases g2 : p + 1 < n ∧ pk2 tx n p ∈ sgS
    · have hb1 := tx_b ht (show 0 ≤ p + 1 by omega) g2.1
      have e2 : pk2 tx n p = 256 * tA tx n p + tA tx n (p + 1) := rfl
      have s2 := sg_sl _ g2.2
      rw [if_pos g2]
      by_cases g3 : p + 2 < n ∧ pk3 tx n p ∈ sgS
      · have hb2 := tx_b ht (show 0 ≤ p + 2 by omega) g3.1
        have e3 : pk3 tx n p = 256 * pk2 tx n p + tA tx n (p + 2) := rfl
        have s3 := sg_sl3 _ g3.2
        rw [if_pos g3]
        have n47 : ¬ tA tx n p = 47 := fun z => by
          have := s2 (by omega) (by omega)
          exact s3 (by omega) (by omega)
        by_cases g4 : p + 3 < n ∧ pk4 tx n p ∈ sgS
        · have hb3 := tx_b ht (show 0 ≤ p + 3 by omega) g4.1
          have e4 : pk4 tx n p = 256 * pk3 tx n p + tA tx n (p + 3) := rfl
          rw [if_pos g4]
          simp only
          omega
        · rw [if_neg g4]
          simp only
          omega
      · rw [if_neg g3]
        simp only
        constructor
        · intro z; exact Or.inr (s2 (by omega) (by omega))
        · intro z; omega
    · rw [if_neg g2]
      simp only
      omega
  · rw [if_neg hs] at hm
    exact absurd rfl hm
/-- the class's code tells whether a / begins the token -/
theorem lxG_sl (ht : tOk tx n) {e : Int} (h0 : 0 ≤ e) (h1 : e ≤ n) {t : tTk} (h : lxG tx n false e = some t) : ((blE tx n 481 e false).2.2 = false ∧ (blE tx n 481 e false).1 < n ∧ tA tx n (blE tx n 481 e false).1 = 47) = (t.2.1 = 47 ∨ t.2.1 = 12093) := by
  have hle := blE_le ht 481 e false h0 h1
  apply propext
  rw [lxG_f] at h
  unfold lxT at h
  generalize blE tx n 481 e false = r at h hle ⊢
  obtain ⟨p, b, bad⟩ := r
  simp only at h hle ⊢
  split at h
  · cases h
  · next hbad =>
    split at h
    · next hp =>
      split at h
      · next hC =>
        split at h
        · cases h
        · cases h
          simp only
          omega
      · split at h
        · next hN =>
          have hi := wdI_le (tkL tx n p (whE tx n cN p - p).toNat)
          cases h
          simp only
          omega
        · split at h
          · split at h
            · cases h
            · cases h
              simp only
              omega
          · split at h
            · cases h
            · next hm =>
              have := sgE_sl ht (by omega) hp hm
              cases h
              simp only
              rw [← this]
              exact ⟨fun z => z.2.2, fun z => ⟨by simpa using hbad, hp, z⟩⟩
    · next hp =>
      cases h
      simp only
      omega
/-- .. once it has been read as an operand's begin, it begins with none -/
theorem lxG_sl2 (ht : tOk tx n) {e : Int} (h0 : 0 ≤ e) (h1 : e ≤ n) {t : tTk} (h : lxG tx n true e = some t) : ¬ (t.2.1 = 47 ∨ t.2.1 = 12093) := by
  by_cases hs : (blE tx n 481 e false).2.2 = false ∧ (blE tx n 481 e false).1 < n ∧ tA tx n (blE tx n 481 e false).1 = 47
  · unfold lxG at h
    rw [if_pos ⟨rfl, hs⟩] at h
    split at h
    · cases h
    · cases h
      simp only
      omega
  · rw [lxG_same (g' := false) hs] at h
    rw [← lxG_sl ht h0 h1 h]
    exact hs
/-- next() -/
theorem c_next (ht : tOk tx n) {s : cm_S} {e : Int} {g : Bool} {t : tTk} (h : cAt tx n s e g t) :
    (∀ t', lxG tx n false t.2.2.2.1 = some t' → ∃ s', cm_sem 26 [.inr (.inl 15)] s = some (.inl none, s') ∧ cFr s s' ∧ cAt tx n s' t.2.2.2.1 false t') ∧
    (lxG tx n false t.2.2.2.1 = none → ∃ s', cm_sem 26 [.inr (.inl 15)] s = some (.inr 0, s') ∧ cFx s s') := by
  obtain ⟨hx, h0, h1, hT, hk⟩ := h
  have ok := lxG_ok ht h0 h1 hT
  obtain ⟨a, b⟩ := cs_26 ht hx hk.2.2.2.1 (by omega) (by omega)
  rw [lxG_f]
  refine ⟨fun t' hT' => ?_, b⟩
  obtain ⟨s', e1, e2, e3⟩ := a t' hT'
  exact ⟨s', e1, e2, cTx_fr hx e2, by omega, by omega, by rw [lxG_f]; exact hT', e3⟩
/-- operandDue() -/
theorem c_due (ht : tOk tx n) {s : cm_S} {e : Int} {g : Bool} {t : tTk} (h : cAt tx n s e g t) :
    (∀ t', lxG tx n true e = some t' → ∃ s', cm_sem 49 [.inr (.inl 15)] s = some (.inl none, s') ∧ cFr s s' ∧ cAt tx n s' e true t') ∧
    (lxG tx n true e = none → ∃ s', cm_sem 49 [.inr (.inl 15)] s = some (.inr 0, s') ∧ cFx s s') := by
  obtain ⟨hx, h0, h1, hT, hk⟩ := id h
  have same : ¬ (t.2.1 = 47 ∨ t.2.1 = 12093) → cm_sem 49 [.inr (.inl 15)] s = some (.inl none, s) := by
    intro z
    rw [cS_49, cF_49_0, hk.2.1, if_neg (fun y => z (Or.inl y)), if_neg (fun y => z (Or.inr y))]
  cases g
  · by_cases hs : t.2.1 = 47 ∨ t.2.1 = 12093
    · have hs2 := hs
      rw [← lxG_sl ht h0 h1 hT] at hs2
      have hst := lxG_start hT
      obtain ⟨z, hz⟩ := cs_50 ht hx (p := (blE tx n 481 e false).1) (by rw [hk.2.2.1, hst.1]) (by have := blE_le ht 481 e false h0 h1; omega) hs2.2.1
      have eq : cm_sem 49 [.inr (.inl 15)] s = (cm_bv (cm_sem 50 [.inr (.inl 15)] s) fun s1 => some (.inl none, s1)) := by
        rw [cS_49, cF_49_0, hk.2.1]
        rcases hs with y | y
        · rw [if_pos y]
        · rw [if_neg (by omega), if_pos y]
      have eG : lxG tx n true e = if rxE tx n (blE tx n 481 e false).1 = -1 then none else some (5, 0, (blE tx n 481 e false).1, rxE tx n (blE tx n 481 e false).1, (blE tx n 481 e false).2.1) := by
        unfold lxG
        rw [if_pos ⟨rfl, hs2⟩]
      rw [eq, hz]
      by_cases hm : rxE tx n (blE tx n 481 e false).1 = -1
      · rw [if_pos hm] at eG ⊢
        rw [cm_bv_t]
        exact ⟨fun t' hT' => (by rw [eG] at hT'; cases hT'), fun _ => ⟨_, rfl, cFx_rf (cFr_rf s)⟩⟩
      · rw [if_neg hm] at eG ⊢
        rw [cm_bv_o]
        refine ⟨fun t' hT' => ?_, fun hN => (by rw [eG] at hN; cases hN)⟩
        have hT2 := hT'
        rw [eG] at hT2
        cases hT2
        have hF : cFr s (cPt s (rxE tx n (blE tx n 481 e false).1)) := cFr_p (cFr_p (cFr_p (cFr_rf s) (by omega)) (by omega)) (by omega)
        refine ⟨_, rfl, hF, cTx_fr hx hF, h0, h1, hT', by simp [cPt, cm_p], by simp [cPt, cm_p], ?_, by simp [cPt, cm_p], ?_⟩
        · have := hk.2.2.1
          rw [hst.1] at this
          simpa [cPt, cm_p] using this
        · have := hk.2.2.2.2
          rw [hst.2.2] at this
          simpa [cPt, cm_p] using this
    · have hns : ¬ ((blE tx n 481 e false).2.2 = false ∧ (blE tx n 481 e false).1 < n ∧ tA tx n (blE tx n 481 e false).1 = 47) := by rw [lxG_sl ht h0 h1 hT]; exact hs
      have eG := lxG_same (g := true) (g' := false) hns
      rw [same hs, eG]
      refine ⟨fun t' hT' => ?_, fun hN => (by rw [hT] at hN; cases hN)⟩
      rw [hT] at hT'
      cases hT'
      exact ⟨s, rfl, cFr_rf s, hx, h0, h1, by rw [eG]; exact hT, hk⟩
  · rw [same (lxG_sl2 ht h0 h1 hT), hT]
    refine ⟨fun t' hT' => ?_, fun hN => (by cases hN)⟩
    cases hT'
    exact ⟨s, rfl, cFr_rf s, h⟩
/-- take() -/
theorem r_take (ht : tOk tx n) {s : cm_S} {e : Int} (h : rAt tx n s e) {g : Bool} {t : tTk} (hT : lxG tx n g e = some t) (hk : rTk s t) : rAt tx n (cm_p (cm_p s 4114 (s.1 4113)) 4116 0) t.2.2.2.1 := by
  obtain ⟨hx, h0, h1, h14, h8, -⟩ := h
  have ok := lxG_ok ht h0 h1 hT
  refine ⟨rTx_p (rTx_p hx (by decide)) (by decide), by omega, by omega, ?_, by simpa [cm_p] using h8, Or.inl cm_p_at⟩
  rw [cm_p_ne (by decide), cm_p_at]
  exact hk.2.2.1
end TX29
