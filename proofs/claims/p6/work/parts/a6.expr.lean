/-! ===== break, continue; what begins with an expression ===== -/
section TX62
variable {tx : Int → Int} {n : Int}
theorem sg_co : ∀ x ∈ sgS, x < 14848 ∨ 15104 ≤ x := by decide +kernel
theorem sgE_co (ht : tOk tx n) {p : Int} (h0 : 0 ≤ p) (h1 : p < n) (hm : ¬ (sgE tx n p).2 = -1) : tA tx n p = 58 ↔ (sgE tx n p).1 = 58 := by
  have hb := tx_b ht h0 h1
  have e2 : pk2 tx n p = 256 * tA tx n p + tA tx n (p + 1) := rfl
  have e3 : pk3 tx n p = 256 * pk2 tx n p + tA tx n (p + 2) := rfl
  have e4 : pk4 tx n p = 256 * pk3 tx n p + tA tx n (p + 3) := rfl
  unfold sgE at hm ⊢
  by_cases hs : tA tx n p ∈ sgS
  · rw [if_pos hs]
    by_cases g2 : p + 1 < n ∧ pk2 tx n p ∈ sgS
    · have hb1 := tx_b ht (show 0 ≤ p + 1 by omega) g2.1
      have := sg_co _ g2.2
      rw [if_pos g2]
      by_cases g3 : p + 2 < n ∧ pk3 tx n p ∈ sgS
      · have hb2 := tx_b ht (show 0 ≤ p + 2 by omega) g3.1
        rw [if_pos g3]
        by_cases g4 : p + 3 < n ∧ pk4 tx n p ∈ sgS
        · have hb3 := tx_b ht (show 0 ≤ p + 3 by omega) g4.1
          rw [if_pos g4]
          simp only
          omega
        · rw [if_neg g4]
          simp only
          omega
      · rw [if_neg g3]
        simp only
        omega
    · rw [if_neg g2]
  · rw [if_neg hs] at hm
    exact absurd rfl hm
/-- : stands behind -/
theorem lxG_co (ht : tOk tx n) {e : Int} (h0 : 0 ≤ e) (h1 : e ≤ n) {t : tTk} (h : lxG tx n false e = some t) : tA tx n (blE tx n 481 e false).1 = 58 ↔ t.2.1 = 58 := by
  have hle := blE_le ht 481 e false h0 h1
  rw [lxG_f] at h
  unfold lxT at h
  generalize blE tx n 481 e false = r at h hle ⊢
  obtain ⟨p, b, bad⟩ := r
  simp only at h hle ⊢
  split at h
  · cases h
  · next hbad =>
    split at h
    · next hp =>
      split at h
      · next hC =>
        split at h
        · cases h
        · cases h
          simp only
          omega
      · split at h
        · next hN =>
          have hi := wdI_le (tkL tx n p (whE tx n cN p - p).toNat)
          cases h
          simp only
          omega
        · split at h
          · split at h
            · cases h
            · cases h
              simp only
              omega
          · split at h
            · cases h
            · next hm =>
              have := sgE_co ht (by omega) hp hm
              cases h
              exact this
    · next hp =>
      cases h
      simp only
      unfold tA
      rw [if_neg (by omega)]
      omega
theorem cs_107 (ht : tOk tx n) {s : cm_S} {e : Int} {g : Bool} {t : tTk} {cn sc : Int} {W : List (Int × Int)} (h : cSt tx n s e g t cn sc W) : cm_sem 107 [.inr (.inl 15)] s = some (.inl (some (.inl (cm_b (tA tx n (blE tx n 481 t.2.2.2.1 false).1 = 58)))), cm_p s 1502 (cm_n (blE tx n 481 t.2.2.2.1 false).2.1)) := by
  have e0 := h.e0
  have num := lxG_r4 ht e0.1 e0.2 h.lx
  have hx : cTx tx n s := h.1.1
  rw [cS_107, cF_107_0, h.fi, cs_27 ht hx (by omega) (by omega), cm_bi_i, cs_28 ht ⟨(cm_p_ne (by decide)).trans hx.1, hx.2⟩, cm_bi_i]
  by_cases h58 : tA tx n (blE tx n 481 t.2.2.2.1 false).1 = 58
  · rw [if_pos h58]; simp [cm_b, h58]
  · rw [if_neg h58]; simp [cm_b, h58]
theorem cSt_q {s : cm_S} {e : Int} {g : Bool} {t : tTk} {cn sc : Int} {W : List (Int × Int)} (h : cSt tx n s e g t cn sc W) {z : Int} : cSt tx n (cm_p s 1502 z) e g t cn sc W := ⟨cAt_fr h.1 rfl (cm_p_ne (by decide)) fun j j1 j2 => cm_p_ne (by omega), (cm_p_ne (by decide)).trans h.2.1, (cm_p_ne (by decide)).trans h.2.2.1, (cm_p_ne (by decide)).trans h.2.2.2.1, cWaA_fr (s := s) _ (fun a i _ _ _ => rfl) h.2.2.2.2⟩
/-- a name, and what follows it is no token: no expression -/
theorem nm_78 (ht : tOk tx n) {s : cm_S} {e : Int} {g : Bool} {t : tTk} {cn sc : Int} {W : List (Int × Int)} {c0 : rC} (h : cSt tx n s e g t cn sc W) (h0 : 0 ≤ cn) (h9 : cn < 512) (hk : t.1 = 1) (hN : lxG tx n false t.2.2.2.1 = none) (bd : rBd tx n c0) (d : Int) : OI tx n s cn (cm_sem 78 [.inr (.inl 14), .inl d] s) c0 fun _ _ _ => False := by
  unfold OI
  rw [cS_78, cF_78_0, h.kd, if_pos hk]
  refine X_of ht h h0 h9 (Int.le_refl _) (fun _ => bd) fun t' s' hT => ?_
  rw [hN] at hT
  cases hT
theorem nm_71 (ht : tOk tx n) {s : cm_S} {e : Int} {g : Bool} {t : tTk} {cn sc : Int} {W : List (Int × Int)} {c0 : rC} (h : cSt tx n s e g t cn sc W) (h0 : 0 ≤ cn) (h9 : cn < 512) (hk : t.1 = 1) (hN : lxG tx n false t.2.2.2.1 = none) (bd : rBd tx n c0) (d : Int) : OI tx n s cn (cm_sem 71 [.inr (.inl 14), .inl d] s) c0 fun _ _ _ => False := by
  have e0 := h.e0
  have hc := tk_1 ht e0.1 e0.2 h.lx hk
  unfold OI
  rw [cS_71, cF_71_0, h.cd, if_neg (by omega)]
  exact OX_bi (nm_78 ht h h0 h9 hk hN bd d) (Int.le_refl _) fun _ _ _ _ _ q => q.elim
theorem nm_68 (ht : tOk tx n) {s : cm_S} {e : Int} {t : tTk} {cn sc : Int} {W : List (Int × Int)} {c0 : rC} (h : cSt tx n s e true t cn sc W) (h0 : 0 ≤ cn) (h9 : cn < 512) (hk : t.1 = 1) (hN : lxG tx n false t.2.2.2.1 = none) (bd : rBd tx n c0) (d : Int) : OI tx n s cn (cm_sem 68 [.inr (.inl 14), .inl d] s) c0 fun _ _ _ => False := by
  have e0 := h.e0
  have hc := tk_1 ht e0.1 e0.2 h.lx hk
  unfold OI
  rw [cS_68, cF_68_0]
  refine X_due ht h (fun _ => bd) fun t' s' hT e1 b1 st1 => ?_
  rw [h.lx] at hT
  cases hT
  rw [st1.cd, hc, cS_69, cF_69_0]
  simp only [show ¬ ((0 : Int) = 6) by decide, show ¬ ((0 : Int) = 24) by decide, show ¬ ((0 : Int) = 26) by decide, show ¬ ((0 : Int) = 33) by decide, show ¬ ((0 : Int) = 43) by decide, show ¬ ((0 : Int) = 45) by decide, show ¬ ((0 : Int) = 126) by decide, show ¬ ((0 : Int) = 11051) by decide, show ¬ ((0 : Int) = 11565) by decide, if_false, cm_bi_i, if_true]
  refine OX_bi (lo1 := cn) (Q1 := fun _ _ _ => False) ?_ (Int.le_refl _) fun _ _ _ _ _ q => q.elim
  unfold OI
  rw [cS_70, cF_70_0]
  exact OX_bi (nm_71 ht st1 h0 h9 hk hN bd d) (Int.le_refl _) fun _ _ _ _ _ q => q.elim
theorem nm_76 (ht : tOk tx n) {s : cm_S} {e : Int} {t : tTk} {cn sc : Int} {W : List (Int × Int)} {c0 : rC} (h : cSt tx n s e true t cn sc W) (h0 : 0 ≤ cn) (h9 : cn < 512) (hk : t.1 = 1) (hN : lxG tx n false t.2.2.2.1 = none) (bd : rBd tx n c0) (d i : Int) : OI tx n s cn (cm_sem 76 [.inr (.inl 14), .inl d, .inl i] s) c0 fun _ _ _ => False := by
  have e0 := h.e0
  unfold OI
  rw [cS_76, cF_76_0]
  refine OX_bi (lo1 := cn) (Q1 := fun _ _ _ => False) ?_ (Int.le_refl _) fun _ _ _ _ _ q => q.elim
  unfold OI
  rw [cS_65, cF_65_0]
  refine X_within ht h (fun _ => bd) (fun _ _ _ => bd) (fun _ _ _ _ => bd) fun t' s' hT hz hd e1 b1 st1 => ?_
  rw [h.lx] at hT
  cases hT
  refine OX_bi (lo1 := cn) (Q1 := fun _ _ _ => False) ?_ (Int.le_refl _) fun _ _ _ _ _ q => q.elim
  unfold OI
  rw [cS_66, cF_66_0]
  refine OX_bi (lo1 := cn) (Q1 := fun _ _ _ => False) ?_ (Int.le_refl _) fun _ _ _ _ _ q => q.elim
  unfold OI
  rw [cS_67, cF_67_0]
  exact OX_bi (nm_68 ht st1 h0 h9 hk hN bd _) (Int.le_refl _) fun _ _ _ _ _ q => q.elim
theorem gW_st {b : Int} {T : tT} (h : stO b T) : gW (5, b, 0, 0, false) (fo [T]) := fun _ h34 => (h h34).2
end TX62
