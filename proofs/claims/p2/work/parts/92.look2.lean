section TX26
variable {tx : Int → Int} {n : Int}
theorem rFr.tr {a b c : cm_S} (h : rFr a b) (h2 : rFr b c) : rFr a c := ⟨h2.1.trans h.1, fun j hj => (h2.2 j hj).trans (h.2 j hj)⟩
/-- the token t has been looked at, the goal being g -/
def rSee (s s' : cm_S) (g : Bool) (t : tTk) : Prop := rFr s s' ∧ s'.1 4108 = 0 ∧ s'.1 4109 = s.1 4109 ∧ rTk s' t ∧ s'.1 4116 = 1 ∧ s'.1 4117 = cm_n g
set_option maxHeartbeats 1000000 in
theorem rl_180_14 (ht : tOk tx n) {s : cm_S} (h : rTx tx n s) (h8 : s.1 4108 = 0) {e : Int} (he : s.1 4114 = e) (h0 : 0 ≤ e) (h1 : e ≤ n) (g : Bool) (o2 o3 : Option cm_V) :
    (∀ t, lxG tx n g e = some t → ∃ s', cm_lp cm_sem cm_k180 14 [some (.inr (.inl 41)), some (.inl (cm_n g)), o2, o3] [] s = some (.inl none, s') ∧ rSee s s' g t) ∧
    (lxG tx n g e = none → ∃ s', cm_lp cm_sem cm_k180 14 [some (.inr (.inl 41)), some (.inl (cm_n g)), o2, o3] [] s = some (.inl none, s') ∧ rFr s s' ∧ s'.1 4108 = 1 ∧ 0 ≤ s'.1 4112) := by
  obtain ⟨t1, t2, -⟩ := id ht
  have hle := blE_le ht 481 e false h0 h1
  have hbad := blE_bad (tx := tx) (n := n) 481 e false h0
  have hstop := blE_stop ht 481 e false h0 h1 (by omega)
  have hS0 : rTx tx n (cm_p (cm_p s 4116 1) 4117 (cm_n g)) := rTx_p (rTx_p h (by decide)) (by decide)
  have hF0 : rFr s (cm_p (cm_p s 4116 1) 4117 (cm_n g)) := rFr_p (rFr_p (rFr_rf s) (by unfold rSlt; omega)) (by unfold rSlt; omega)
  have e14 : (cm_p (cm_p s 4116 1) 4117 (cm_n g)).1 4114 = e := by simpa [cm_p] using he
  have e8 : (cm_p (cm_p s 4116 1) 4117 (cm_n g)).1 4108 = 0 := by simpa [cm_p] using h8
  obtain ⟨k1, k2⟩ := cs_182 ht hS0 e8 (by omega) (by omega)
  rw [e14] at k1 k2
  rw [cE_180_14, cF_180_14, if_neg (show ¬ 0 < s.1 4108 by omega), if_pos cm_n01]
  generalize hL : lxG tx n g e = L
  unfold lxG lxT at hL
  generalize blE tx n 481 e false = r at hle hbad hstop k1 k2 hL
  obtain ⟨p, b, bad⟩ := r
  simp only at hle hbad hstop k1 k2 hL
  cases bad
  · rw [k1 rfl, cm_bv_o]
    have hS : rTx tx n (rSk (cm_p (cm_p s 4116 1) 4117 (cm_n g)) p b) := rTx_p (rTx_p hS0 (by decide)) (by decide)
    have hF : rFr s (rSk (cm_p (cm_p s 4116 1) 4117 (cm_n g)) p b) := rFr_p (rFr_p hF0 (by unfold rSlt; omega)) (by unfold rSlt; omega)
    have f8 : (rSk (cm_p (cm_p s 4116 1) 4117 (cm_n g)) p b).1 4108 = 0 := by simpa [rSk, cm_p] using h8
    have f9 : (rSk (cm_p (cm_p s 4116 1) 4117 (cm_n g)) p b).1 4109 = s.1 4109 := by simp [rSk, cm_p]
    have f12 : (rSk (cm_p (cm_p s 4116 1) 4117 (cm_n g)) p b).1 4112 = p := by simp [rSk, cm_p]
    have f15 : (rSk (cm_p (cm_p s 4116 1) 4117 (cm_n g)) p b).1 4115 = cm_n b := by simp [rSk, cm_p]
    have f16 : (rSk (cm_p (cm_p s 4116 1) 4117 (cm_n g)) p b).1 4116 = 1 := by simp [rSk, cm_p]
    have f17 : (rSk (cm_p (cm_p s 4116 1) 4117 (cm_n g)) p b).1 4117 = cm_n g := by simp [rSk, cm_p]
    generalize rSk (cm_p (cm_p s 4116 1) 4117 (cm_n g)) p b = S at hS hF f8 f9 f12 f15 f16 f17
    have good : ∀ (k q : Int) (t : tTk), rNo t = k → t.2.2.1 = p → t.2.2.2.1 = q → t.2.2.2.2 = b → rSee s (rLk S k q) g t := by
      intro k q t a1 a2 a3 a4
      refine ⟨rFr_p (rFr_p hF (by unfold rSlt; omega)) (by unfold rSlt; omega), by simpa [rLk, cm_p] using f8, by simpa [rLk, cm_p] using f9, ⟨by simp [rLk, cm_p, a1], by rw [a2]; simpa [rLk, cm_p] using f12, by simp [rLk, cm_p, a3], by rw [a4]; simpa [rLk, cm_p] using f15⟩, by simpa [rLk, cm_p] using f16, by simpa [rLk, cm_p] using f17⟩
    rw [if_neg (show ¬ 0 < S.1 4108 by omega), f12, cs_181 ht hS (by omega), cm_bi_i, f12, hS.1]
    by_cases hp : p < n
    · have hb := tx_b ht (show 0 ≤ p by omega) hp
      have eh : tH tx n p = tA tx n p := by rw [tH_in hp, tA_in (by omega) hp]
      have hw1 : cm_w (p + 1) = p + 1 := cm_w_id (by omega) (by omega)
      rw [if_pos hp, eh, cs_186, cm_bi_i]
      simp only [cm_b0, cs_188, cm_bi_i, f12, hw1, cs_181 ht hS (show 0 ≤ p + 1 by omega), tH_D (tx := tx) (n := n) (show 0 ≤ p + 1 by omega)]
      have num := rl_180w f8 f12 2 (nmE tx n p)
      rw [cm_p_ne (by decide), f12] at num
      have eN : (cm_bi (cm_sem 190 [.inr (.inl 41), .inl p] (cm_p S 4111 2)) fun z7 s7 =>
                                if z7 = (-1) then
                                  cm_bv (cm_sem 185 [.inr (.inl 41), .inl 1, .inl (s7.1 4112)] (cm_p s7 4113 z7)) fun s8 =>
                                    some (.inl none, s8)
                                else
                                  some (.inl none, (cm_p s7 4113 z7))) = (if nmE tx n p = -1 then (cm_bv (cm_sem 185 [.inr (.inl 41), .inl 1, .inl p] (cm_p (cm_p S 4111 2) 4113 (nmE tx n p))) fun s2 => some (.inl none, s2)) else some (.inl none, cm_p (cm_p S 4111 2) 4113 (nmE tx n p))) := by
        rw [cs_190 ht (rTx_p hS (by decide)) (by omega) hp, cm_bi_i, cm_p_ne (by decide), f12]
      rw [eN]
      obtain ⟨s9, n1, n2, n3, n4⟩ := num
      obtain ⟨s7, q1, q2, q3⟩ := rl_180_90 ht hS f8 f12 (by omega) hp g (some (.inl p))
      have w51 := rl_180_51 ht hS f12 (by omega) n.toNat p (some (.inl (cm_n g))) (some (.inl (tA tx n p))) (by omega) (Int.le_refl _) (by omega)
      rw [n1, q1, w51]
      by_cases hC : cD (tA tx n p) ∨ tA tx n p = 46 ∧ cD (tA tx n (p + 1))
      · have hnl : ¬ cLt (tA tx n p) := by omega
        have h47 : ¬ tA tx n p = 47 := by omega
        have eL : (if ¬ cLt (tA tx n p) then (if ¬ cD (tA tx n p) then (if tA tx n p = 46 then (if ¬ cD (tA tx n (p + 1)) then some (Sum.inl none, s7) else some (Sum.inl none, s9)) else some (Sum.inl none, s7)) else some (Sum.inl none, s9)) else some (Sum.inl none, rLk S (if wdI (tkL tx n p (whE tx n cN p - p).toNat) = 0 then 1 else 999 + wdI (tkL tx n p (whE tx n cN p - p).toNat)) (whE tx n cN p))) = (some (.inl none, s9) : Option cm_R) := by
          rw [if_pos hnl]
          repeat' split
          all_goals first | rfl | (exfalso; omega)
        rw [if_neg (fun z => h47 z.2.2.2), if_neg (by decide), if_pos hp, if_pos hC] at hL
        rw [eL]
        by_cases hm : nmE tx n p = -1
        · rw [if_pos hm] at hL
          subst hL
          exact ⟨fun t hT => (by cases hT), fun _ => ⟨_, rfl, hF.tr n2, (n3 hm).1, by rw [(n3 hm).2]; omega⟩⟩
        · rw [if_neg hm] at hL
          subst hL
          refine ⟨fun t hT => ?_, fun hT => (by cases hT)⟩
          cases hT
          exact ⟨s9, rfl, by rw [n4 hm]; exact good _ _ _ rfl rfl rfl rfl⟩
      · by_cases hN : cN (tA tx n p)
        · have hlt : cLt (tA tx n p) := by omega
          have h47 : ¬ tA tx n p = 47 := by omega
          rw [if_neg (fun z => h47 z.2.2.2), if_neg (by decide), if_pos hp, if_neg hC, if_pos hN] at hL
          rw [if_neg (show ¬ ¬ cLt (tA tx n p) from fun z => z hlt)]
          subst hL
          refine ⟨fun t hT => ?_, fun hT => (by cases hT)⟩
          cases hT
          refine ⟨_, rfl, good _ _ _ ?_ rfl rfl rfl⟩
          unfold rNo
          by_cases hz : wdI (tkL tx n p (whE tx n cN p - p).toNat) = 0
          · simp [hz]
          · simp [hz]
        · have hnl : ¬ cLt (tA tx n p) := by omega
          have eL : (if ¬ cLt (tA tx n p) then (if ¬ cD (tA tx n p) then (if tA tx n p = 46 then (if ¬ cD (tA tx n (p + 1)) then some (Sum.inl none, s7) else some (Sum.inl none, s9)) else some (Sum.inl none, s7)) else some (Sum.inl none, s9)) else some (Sum.inl none, rLk S (if wdI (tkL tx n p (whE tx n cN p - p).toNat) = 0 then 1 else 999 + wdI (tkL tx n p (whE tx n cN p - p).toNat)) (whE tx n cN p))) = (some (.inl none, s7) : Option cm_R) := by
            rw [if_pos hnl]
            repeat' split
            all_goals first | rfl | (exfalso; omega)
          rw [eL]
          simp only at q3
          by_cases hg : tA tx n p = 47 ∧ g = true
          · rw [if_neg (show ¬ (tA tx n p = 39 ∨ tA tx n p = 34) by omega), if_pos hg, if_neg (show ¬ (tA tx n p = 39 ∨ tA tx n p = 34) by omega), if_pos hg] at q3
            rw [if_pos ⟨hg.2, rfl, hp, hg.1⟩] at hL
            by_cases hm : rxE tx n p = -1
            · rw [if_pos hm] at hL
              subst hL
              exact ⟨fun t hT => (by cases hT), fun _ => ⟨_, rfl, hF.tr q2, (q3.1 hm).1, by rw [(q3.1 hm).2]; omega⟩⟩
            · rw [if_neg hm] at hL
              subst hL
              refine ⟨fun t hT => ?_, fun hT => (by cases hT)⟩
              cases hT
              exact ⟨s7, rfl, by rw [q3.2 hm]; exact good _ _ _ rfl rfl rfl rfl⟩
          · rw [if_neg (fun z => hg ⟨z.2.2.2, z.1⟩), if_neg (by decide), if_pos hp, if_neg hC, if_neg hN] at hL
            by_cases hq : tA tx n p = 39 ∨ tA tx n p = 34
            · rw [if_pos hq, if_pos hq] at q3
              rw [if_pos hq] at hL
              by_cases hm : stE tx n (tA tx n p) (p + 1) = -1
              · rw [if_pos hm] at hL
                subst hL
                exact ⟨fun t hT => (by cases hT), fun _ => ⟨_, rfl, hF.tr q2, (q3.1 hm).1, by rw [(q3.1 hm).2]; omega⟩⟩
              · rw [if_neg hm] at hL
                subst hL
                refine ⟨fun t hT => ?_, fun hT => (by cases hT)⟩
                cases hT
                exact ⟨s7, rfl, by rw [q3.2 hm]; exact good _ _ _ rfl rfl rfl rfl⟩
            · rw [if_neg hq, if_neg hg, if_neg hq, if_neg hg] at q3
              rw [if_neg hq] at hL
              by_cases hm : (sgE tx n p).2 = -1
              · rw [if_pos hm] at hL
                subst hL
                exact ⟨fun t hT => (by cases hT), fun _ => ⟨_, rfl, hF.tr q2, (q3.1 hm).1, by rw [(q3.1 hm).2]; omega⟩⟩
              · rw [if_neg hm] at hL
                subst hL
                refine ⟨fun t hT => ?_, fun hT => (by cases hT)⟩
                cases hT
                exact ⟨s7, rfl, by rw [q3.2 hm]; exact good _ _ _ rfl rfl rfl rfl⟩
    · rw [if_neg (fun z => hp z.2.2.1), if_neg (by decide), if_neg hp] at hL
      subst hL
      rw [if_neg hp, if_neg (show ¬ p = -1 by omega)]
      refine ⟨fun t hT => ?_, fun hT => (by cases hT)⟩
      cases hT
      exact ⟨_, rfl, good 0 p _ rfl rfl rfl rfl⟩
  · obtain ⟨b', kk⟩ := k2 rfl
    rw [if_neg (fun z => by cases z.2.1), if_pos rfl] at hL
    subst hL
    rw [kk, cm_bv_o, if_pos (by simp [cm_p])]
    refine ⟨fun t hT => (by cases hT), fun _ => ⟨_, rfl, ?_, by simp [cm_p], by simp [rSk, cm_p]; omega⟩⟩
    exact rFr_p (rFr_p (rFr_p (rFr_p hF0 (by unfold rSlt; omega)) (by unfold rSlt; omega)) (by unfold rSlt; omega)) (by unfold rSlt; omega)
end TX26
