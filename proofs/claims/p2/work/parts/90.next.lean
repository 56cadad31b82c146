/-! ===== a token: the class's next() ===== -/
abbrev tTk : Type := Int × Int × Int × Int × Bool
section TX22
variable (tx : Int → Int) (n : Int)
/-- the token behind e, a / being a sign: kind, code, begin, end, whether a line end lies ahead of it -/
def lxT (e : Int) : Option tTk :=
  if (blE tx n 481 e false).2.2 = true then none
  else if (blE tx n 481 e false).1 < n then
    (if cD (tA tx n (blE tx n 481 e false).1) ∨ tA tx n (blE tx n 481 e false).1 = 46 ∧ cD (tA tx n ((blE tx n 481 e false).1 + 1)) then
      (if nmE tx n (blE tx n 481 e false).1 = -1 then none else some (3, 0, (blE tx n 481 e false).1, nmE tx n (blE tx n 481 e false).1, (blE tx n 481 e false).2.1))
    else if cN (tA tx n (blE tx n 481 e false).1) then
      some (if wdI (tkL tx n (blE tx n 481 e false).1 (whE tx n cN (blE tx n 481 e false).1 - (blE tx n 481 e false).1).toNat) = 0 then 1 else 2, wdI (tkL tx n (blE tx n 481 e false).1 (whE tx n cN (blE tx n 481 e false).1 - (blE tx n 481 e false).1).toNat), (blE tx n 481 e false).1, whE tx n cN (blE tx n 481 e false).1, (blE tx n 481 e false).2.1)
    else if tA tx n (blE tx n 481 e false).1 = 39 ∨ tA tx n (blE tx n 481 e false).1 = 34 then
      (if stE tx n (tA tx n (blE tx n 481 e false).1) ((blE tx n 481 e false).1 + 1) = -1 then none else some (4, 0, (blE tx n 481 e false).1, stE tx n (tA tx n (blE tx n 481 e false).1) ((blE tx n 481 e false).1 + 1), (blE tx n 481 e false).2.1))
    else
      (if (sgE tx n (blE tx n 481 e false).1).2 = -1 then none else some (6, (sgE tx n (blE tx n 481 e false).1).1, (blE tx n 481 e false).1, (sgE tx n (blE tx n 481 e false).1).2, (blE tx n 481 e false).2.1)))
  else some (0, 0, (blE tx n 481 e false).1, (blE tx n 481 e false).1, (blE tx n 481 e false).2.1)
end TX22
/-- nothing but the scanner's numbers has changed -/
def cFr (s s' : cm_S) : Prop := s'.2 = s.2 ∧ ∀ j, ¬ (1502 ≤ j ∧ j ≤ 1507) → s'.1 j = s.1 j
theorem cFr_p {s s' : cm_S} (h : cFr s s') {k : Nat} (hk : 1502 ≤ k ∧ k ≤ 1507) {z : Int} : cFr s (cm_p s' k z) := by
  refine ⟨h.1, fun j hj => ?_⟩
  rw [cm_p_ne (by rintro rfl; exact hj hk)]
  exact h.2 j hj
theorem cFr_rf (s : cm_S) : cFr s s := ⟨rfl, fun _ _ => rfl⟩
/-- .. and the flaw's -/
def cFx (s s' : cm_S) : Prop := s'.2 = s.2 ∧ ∀ j, ¬ (1502 ≤ j ∧ j ≤ 1507) → j ≠ 300 → j ≠ 301 → s'.1 j = s.1 j
theorem cFx_p {s s' : cm_S} (h : cFx s s') {k : Nat} (hk : 1502 ≤ k ∧ k ≤ 1507 ∨ k = 300 ∨ k = 301) {z : Int} : cFx s (cm_p s' k z) := by
  refine ⟨h.1, fun j hj h3 h4 => ?_⟩
  rw [cm_p_ne (by rintro rfl; omega)]
  exact h.2 j hj h3 h4
theorem cFr.x {s s' : cm_S} (h : cFr s s') : cFx s s' := ⟨h.1, fun j hj _ _ => h.2 j hj⟩
theorem cFx_rf {s s' : cm_S} (h : cFr s s') {z : Int} : cFx s (cRf s' z) := cFx_p (cFx_p (cFx_p h.x (by omega)) (by omega)) (by omega)
theorem cFx_rz {s s' : cm_S} (h : cFr s s') : cFx s (cRz s') := cFx_p (cFx_p h.x (by omega)) (by omega)
/-- the scanner holds the token t -/
def cTk (s : cm_S) (t : tTk) : Prop := s.1 1503 = t.1 ∧ s.1 1504 = t.2.1 ∧ s.1 1505 = t.2.2.1 ∧ s.1 1506 = t.2.2.2.1 ∧ s.1 1507 = cm_n t.2.2.2.2
section TX23
variable {tx : Int → Int} {n : Int}
theorem blE_bad : ∀ (k : Nat) (p : Int) (b : Bool), 0 ≤ p → (blE tx n k p b).2.2 = true → tA tx n (blE tx n k p b).1 = 47 ∧ tA tx n ((blE tx n k p b).1 + 1) = 42 ∧ (blE tx n k p b).1 < n := by
  intro k
  induction k with
  | zero => intro p b h0 h; cases h
  | succ k ih =>
    intro p b h0 h
    rw [blE] at h ⊢
    split at h
    · next hp =>
      rw [if_pos hp]
      split at h
      · next hl => rw [if_pos hl]; exact ih _ _ (by omega) h
      · next hl =>
        rw [if_neg hl]
        split at h
        · next hw => rw [if_pos hw]; exact ih _ _ (by omega) h
        · next hw =>
          rw [if_neg hw]
          split at h
          · next hc =>
            rw [if_pos hc]
            have : 0 ≤ lnE tx n p := by
              have := lnE_le (tx := tx) (n := n) (p := p) (n - p).toNat (by omega) (by omega)
              omega
            exact ih _ _ this h
          · next hc =>
            rw [if_neg hc]
            split at h
            · next hd =>
              rw [if_pos hd]
              split at h
              · next q hq =>
                have := cmE_le (k := (n - (p + 2)).toNat) (by omega) hq
                exact ih _ _ (by omega) h
              · next hq => exact ⟨(tA_in h0 hp).trans hd.1, hd.2, hp⟩
            · cases h
    · cases h
theorem blE_stop (ht : tOk tx n) : ∀ (k : Nat) (p : Int) (b : Bool), 0 ≤ p → p ≤ n → n < p + k → (blE tx n k p b).2.2 = false → (blE tx n k p b).1 < n → ¬ cBl (tA tx n (blE tx n k p b).1) ∧ ¬ (tA tx n (blE tx n k p b).1 = 47 ∧ (tA tx n ((blE tx n k p b).1 + 1) = 42 ∨ tA tx n ((blE tx n k p b).1 + 1) = 47)) := by
  intro k
  induction k with
  | zero => intro p b h0 h1 hk; omega
  | succ k ih =>
    intro p b h0 h1 hk h hn
    rw [blE] at h hn ⊢
    split at h
    · next hp =>
      rw [if_pos hp] at hn ⊢
      split at h
      · next hl => rw [if_pos hl] at hn ⊢; exact ih _ _ (by omega) (by omega) (by omega) h hn
      · next hl =>
        rw [if_neg hl] at hn ⊢
        split at h
        · next hw => rw [if_pos hw] at hn ⊢; exact ih _ _ (by omega) (by omega) (by omega) h hn
        · next hw =>
          rw [if_neg hw] at hn ⊢
          split at h
          · next hc =>
            rw [if_pos hc] at hn ⊢
            have h2 := lnE_le (tx := tx) (n := n) (p := p + 1) (n - p).toNat (by omega) (by omega)
            rw [← lnE_step hp hl] at h2
            exact ih _ _ (by omega) (by omega) (by omega) h hn
          · next hc =>
            rw [if_neg hc] at hn ⊢
            split at h
            · next hd =>
              rw [if_pos hd] at hn ⊢
              split at h
              · next q hq =>
                have := cmE_le (k := (n - (p + 2)).toNat) (by omega) hq
                rw [hq] at hn
                exact ih _ _ (by omega) (by omega) (by omega) h hn
              · cases h
            · next hd =>
              rw [if_neg hd] at hn ⊢
              have e := tA_in (tx := tx) h0 hp
              show ¬ cBl (tA tx n p) ∧ ¬ (tA tx n p = 47 ∧ (tA tx n (p + 1) = 42 ∨ tA tx n (p + 1) = 47))
              rw [e]
              exact ⟨by omega, fun z => z.2.elim (fun y => hd ⟨z.1, y⟩) (fun y => hc ⟨z.1, y⟩)⟩
    · next hp =>
      rw [if_neg hp] at hn
      exact absurd hn hp
set_option maxHeartbeats 1000000 in
/-- the class: next() -/
theorem cs_26 (ht : tOk tx n) {s : cm_S} (h : cTx tx n s) {e : Int} (he : s.1 1506 = e) (h0 : 0 ≤ e) (h1 : e ≤ n) :
    (∀ t, lxT tx n e = some t → ∃ s', cm_sem 26 [.inr (.inl 15)] s = some (.inl none, s') ∧ cFr s s' ∧ cTk s' t) ∧
    (lxT tx n e = none → ∃ s', cm_sem 26 [.inr (.inl 15)] s = some (.inr 0, s') ∧ cFx s s') := by
  obtain ⟨t1, t2, -⟩ := id ht
  have hle := blE_le ht 481 e false h0 h1
  have hbad := blE_bad (tx := tx) (n := n) 481 e false h0
  have hstop := blE_stop ht 481 e false h0 h1 (by omega)
  rw [cS_26, cF_26_0, he, cs_27 ht h h0 h1, cm_bi_i]
  rw [cm_p_at, if_pos cm_n01]
  unfold lxT
  generalize blE tx n 481 e false = r at hle hbad hstop
  obtain ⟨p, b, bad⟩ := r
  simp only at hle hbad hstop ⊢
  have hS : cTx tx n (cm_p (cm_p (cm_p (cm_p s 1502 (cm_n b)) 1505 p) 1507 (cm_n b)) 1504 0) := cTx_p (cTx_p (cTx_p (cTx_p h (by decide)) (by decide)) (by decide)) (by decide)
  have hF : cFr s (cm_p (cm_p (cm_p (cm_p s 1502 (cm_n b)) 1505 p) 1507 (cm_n b)) 1504 0) := cFr_p (cFr_p (cFr_p (cFr_p (cFr_rf s) (by omega)) (by omega)) (by omega)) (by omega)
  have hs5 : (cm_p (cm_p (cm_p (cm_p s 1502 (cm_n b)) 1505 p) 1507 (cm_n b)) 1504 0).1 1505 = p := by simp [cm_p]
  have hs4 : (cm_p (cm_p (cm_p (cm_p s 1502 (cm_n b)) 1505 p) 1507 (cm_n b)) 1504 0).1 1504 = 0 := by simp [cm_p]
  have hs7 : (cm_p (cm_p (cm_p (cm_p s 1502 (cm_n b)) 1505 p) 1507 (cm_n b)) 1504 0).1 1507 = cm_n b := by simp [cm_p]
  generalize cm_p (cm_p (cm_p (cm_p s 1502 (cm_n b)) 1505 p) 1507 (cm_n b)) 1504 0 = S at hS hF hs5 hs4 hs7
  rw [cs_28 ht hS, cm_bi_i]
  by_cases hp : p < n
  · have hb := tx_b ht (show 0 ≤ p by omega) hp
    rw [if_neg (show ¬ tA tx n p = -1 by omega), cs_31, cm_bi_i, hs5]
    simp only [cm_b0]
    have hw1 : cm_w (p + 1) = p + 1 := cm_w_id (by omega) (by omega)
    simp only [hw1, cs_28 ht hS, cm_bi_i, cs_31, cs_37, cm_b0]
    have eL : (if ¬ cD (tA tx n p) then
              if tA tx n p = 46 then
                    if ¬ cD (tA tx n (p + 1)) then
                        if ¬ cN (tA tx n p) then
                          if tA tx n p = 39 then
                            cm_bv (cm_sem 42 [.inr (.inl 15), .inl (tA tx n p)] S) fun s7 =>
                              some (.inl none, s7)
                          else
                            if tA tx n p = 34 then
                              cm_bv (cm_sem 42 [.inr (.inl 15), .inl (tA tx n p)] S) fun s8 =>
                                some (.inl none, s8)
                            else
                              cm_bv (cm_sem 43 [.inr (.inl 15)] S) fun s9 =>
                                some (.inl none, s9)
                        else
                          cm_bv (cm_sem 38 [.inr (.inl 15)] S) fun s10 =>
                            some (.inl none, s10)
                    else
                      cm_bv (cm_sem 32 [.inr (.inl 15)] S) fun s11 =>
                        some (.inl none, s11)
              else
                  if ¬ cN (tA tx n p) then
                    if tA tx n p = 39 then
                      cm_bv (cm_sem 42 [.inr (.inl 15), .inl (tA tx n p)] S) fun s13 =>
                        some (.inl none, s13)
                    else
                      if tA tx n p = 34 then
                        cm_bv (cm_sem 42 [.inr (.inl 15), .inl (tA tx n p)] S) fun s14 =>
                          some (.inl none, s14)
                      else
                        cm_bv (cm_sem 43 [.inr (.inl 15)] S) fun s15 =>
                          some (.inl none, s15)
                  else
                    cm_bv (cm_sem 38 [.inr (.inl 15)] S) fun s16 =>
                      some (.inl none, s16)
            else
              cm_bv (cm_sem 32 [.inr (.inl 15)] S) fun s17 =>
                some (.inl none, s17)) = (if cD (tA tx n p) ∨ tA tx n p = 46 ∧ cD (tA tx n (p + 1)) then (cm_bv (cm_sem 32 [.inr (.inl 15)] S) fun s => some (.inl none, s)) else if cN (tA tx n p) then (cm_bv (cm_sem 38 [.inr (.inl 15)] S) fun s => some (.inl none, s)) else if tA tx n p = 39 ∨ tA tx n p = 34 then (cm_bv (cm_sem 42 [.inr (.inl 15), .inl (tA tx n p)] S) fun s => some (.inl none, s)) else (cm_bv (cm_sem 43 [.inr (.inl 15)] S) fun s => some (.inl none, s))) := by
      repeat' split
      all_goals first | rfl | (exfalso; omega)
    rw [eL, if_pos hp]
    by_cases hC : cD (tA tx n p) ∨ tA tx n p = 46 ∧ cD (tA tx n (p + 1))
    · have hnb : ¬ bad = true := fun z => by
        have := (hbad z).1
        omega
      rw [if_pos hC, if_pos hC, if_neg hnb]
      obtain ⟨z, hz⟩ := cs_32 ht hS hs5 (by omega) hp
      rw [hz]
      by_cases hm : nmE tx n p = -1
      · rw [if_pos hm, if_pos hm, cm_bv_t]
        exact ⟨fun t hT => (by cases hT), fun _ => ⟨_, rfl, cFx_rf hF⟩⟩
      · rw [if_neg hm, if_neg hm, cm_bv_o]
        refine ⟨fun t hT => ?_, fun hT => (by cases hT)⟩
        cases hT
        exact ⟨_, rfl, cFr_p (cFr_p hF (by omega)) (by omega), by simp [cm_p], by simpa [cm_p] using hs4, by simpa [cm_p] using hs5, by simp [cm_p], by simpa [cm_p] using hs7⟩
    · rw [if_neg hC, if_neg hC]
      by_cases hN : cN (tA tx n p)
      · have hnb : ¬ bad = true := fun z => by
          have := (hbad z).1
          omega
        rw [if_pos hN, if_pos hN, if_neg hnb, cs_38 ht hS hs5 (by omega) (by omega), cm_bv_o]
        refine ⟨fun t hT => ?_, fun hT => (by cases hT)⟩
        cases hT
        exact ⟨_, rfl, cFr_p (cFr_p (cFr_p hF (by omega)) (by omega)) (by omega), by simp [cNm, cm_p], by simp [cNm, cm_p], by simpa [cNm, cm_p] using hs5, by simp [cNm, cm_p], by simpa [cNm, cm_p] using hs7⟩
      · rw [if_neg hN, if_neg hN]
        by_cases hQ : tA tx n p = 39 ∨ tA tx n p = 34
        · have hnb : ¬ bad = true := fun z => by
            have := (hbad z).1
            omega
          rw [if_pos hQ, if_pos hQ, if_neg hnb, cs_42 ht hS (show tA tx n p ≠ -1 by omega) hs5 (by omega) hp]
          by_cases hm : stE tx n (tA tx n p) (p + 1) = -1
          · rw [if_pos hm, if_pos hm, cm_bv_t]
            exact ⟨fun t hT => (by cases hT), fun _ => ⟨_, rfl, cFx_rz hF⟩⟩
          · rw [if_neg hm, if_neg hm, cm_bv_o]
            refine ⟨fun t hT => ?_, fun hT => (by cases hT)⟩
            cases hT
            exact ⟨_, rfl, cFr_p (cFr_p hF (by omega)) (by omega), by simp [cm_p], by simpa [cm_p] using hs4, by simpa [cm_p] using hs5, by simp [cm_p], by simpa [cm_p] using hs7⟩
        · rw [if_neg hQ, if_neg hQ]
          cases bad
          · have h42 : ¬ (tA tx n p = 47 ∧ tA tx n (p + 1) = 42) := fun z => (hstop rfl hp).2 ⟨z.1, Or.inl z.2⟩
            rw [if_neg (by decide), cs_43 ht hS hs5 (by omega) hp h42]
            by_cases hm : (sgE tx n p).2 = -1
            · rw [if_pos hm, if_pos hm, cm_bv_t]
              exact ⟨fun t hT => (by cases hT), fun _ => ⟨_, rfl, cFx_rz hF⟩⟩
            · rw [if_neg hm, if_neg hm, cm_bv_o]
              refine ⟨fun t hT => ?_, fun hT => (by cases hT)⟩
              cases hT
              exact ⟨_, rfl, cFr_p (cFr_p (cFr_p hF (by omega)) (by omega)) (by omega), by simp [cSg, cm_p], by simp [cSg, cm_p], by simpa [cSg, cm_p] using hs5, by simp [cSg, cm_p], by simpa [cSg, cm_p] using hs7⟩
          · have hb3 := hbad rfl
            rw [if_pos rfl, cs_43c ht hS hs5 (by omega) hp ⟨hb3.1, hb3.2.1⟩, cm_bv_t]
            exact ⟨fun t hT => (by cases hT), fun _ => ⟨_, rfl, cFx_rz hF⟩⟩
  · have hnb : ¬ bad = true := fun z => hp (hbad z).2.2
    rw [tA_out (by omega), if_pos rfl, if_neg hnb, if_neg hp, hs5]
    refine ⟨fun t hT => ?_, fun hT => (by cases hT)⟩
    cases hT
    exact ⟨_, rfl, cFr_p (cFr_p hF (by omega)) (by omega), by simp [cm_p], by simpa [cm_p] using hs4, by simpa [cm_p] using hs5, by simp [cm_p], by simpa [cm_p] using hs7⟩
end TX23
