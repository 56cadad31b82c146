section TX21
variable {tx : Int → Int} {n : Int}
theorem ptE_eq (p : Int) (w : Bool) : ptE tx n p w = if p < n then (if tx p = 47 ∧ w = false then p else if cLe (tx p) then -1 else if tx p = 92 then (if p + 1 < n ∧ ¬ cLe (tx (p + 1)) then ptE tx n (p + 2) w else -1) else ptE tx n (p + 1) (if tx p = 91 then true else if tx p = 93 then false else w)) else -1 := by rw [ptE]
/-- what readPattern leaves -/
def cPt (s : cm_S) (e : Int) : cm_S := cm_p (cm_p (cm_p s 1506 e) 1503 5) 1504 0
/-- the rest of a pattern from p on -/
def rxR (tx : Int → Int) (n p : Int) (w : Bool) : Int := if ptE tx n p w = -1 then -1 else ckE tx n (fqE tx n false false false (ptE tx n p w + 1))
theorem rxR_same {p q : Int} {w v : Bool} (h : ptE tx n p w = ptE tx n q v) : rxR tx n p w = rxR tx n q v := by unfold rxR; rw [h]
theorem rxR_no {p : Int} {w : Bool} (h : ptE tx n p w = -1) : rxR tx n p w = -1 := by unfold rxR; rw [if_pos h]
set_option maxHeartbeats 1000000 in
theorem cl_50 (ht : tOk tx n) {s : cm_S} (h : cTx tx n s) : ∀ (k : Nat) (p x3 : Int) (w : Bool) (o4 : Option cm_V), n ≤ p + k → 0 ≤ x3 → x3 + 1 ≤ p → p ≤ n → ∃ z, cm_lp cm_sem cm_k50 10 [some (.inr (.inl 15)), some (.inl p), some (.inl (cm_n w)), some (.inl x3), o4] [] s = if rxR tx n p w = -1 then some (.inr 0, cRf s z) else some (.inl none, cPt s (rxR tx n p w)) := by
  obtain ⟨t1, t2, -⟩ := id ht
  have cz : cRz s = cRf s (s.1 1506) := by unfold cRz cRf; rw [cm_p_same rfl]
  have bad : ∀ p w, rxR tx n p w = -1 → ∃ z, (some (.inr 0, cm_p (cm_p s 300 1) 301 (s.1 1505)) : Option cm_R) = if rxR tx n p w = -1 then some (.inr 0, cRf s z) else some (.inl none, cPt s (rxR tx n p w)) := fun p w hr => ⟨s.1 1506, by rw [hr, if_pos rfl, ← cz]; rfl⟩
  intro k
  induction k with
  | zero =>
    intro p x3 w o4 hk h0 h1 h2
    refine ⟨s.1 1506, ?_⟩
    rw [rxR_no (by rw [ptE_eq, if_neg (by omega)]), if_pos rfl, ← cz]
    have e22 : cm_lp cm_sem cm_k50 22 [some (.inr (.inl 15)), some (.inl p), some (.inl (cm_n w)), some (.inl x3), o4] [] s = some (.inr 0, cRz s) := by
      rw [cE_50_22, cF_50_22]
      simp only [cs_28 ht h, cm_bi_i, tA_out (show n ≤ p by omega), show ¬ ((-1 : Int) = 92) by decide, show ¬ ((-1 : Int) = 91) by decide, show ¬ ((-1 : Int) = 93) by decide, if_false, if_true, cs_33_1, cm_bv_t]
      rfl
    rw [cE_50_10, cF_50_10, if_pos (by omega)]
    simp only [cs_28 ht h, cm_bi_i, tA_out (show n ≤ p by omega), show ¬ ((-1 : Int) = 47) by decide, if_false, e22, ite_self]
  | succ k ih =>
    intro p x3 w o4 hk h0 h1 h2
    by_cases hp : p < n
    · have e := tA_in (tx := tx) (show 0 ≤ p by omega) hp
      have ew : cm_w (p + 1) = p + 1 := cm_w_id (by omega) (by omega)
      have ew1 : cm_w (p + 1 + 1) = p + 2 := (cm_w_id (by omega) (by omega)).trans (by omega)
      have ew2 : cm_w (x3 + 1) = x3 + 1 := cm_w_id (by omega) (by omega)
      have hn1 : ¬ tx p = -1 := by
        have := ht.2.2 p (by omega) hp
        omega
      by_cases he : tx p = 47 ∧ w = false
      · have hpt : ptE tx n p w = p := by rw [ptE_eq, if_pos hp, if_pos he]
        have hq := fqE_le (tx := tx) (n := n) n.toNat false false false (p + 1) (by omega) (by omega)
        rw [cE_50_10, cF_50_10, if_pos (by omega), he.2, if_pos (show cm_n false = 0 from rfl), cs_28 ht h, cm_bi_i, e, if_pos he.1, ew, cs_51 ht h (by omega) (by omega), cm_bi_i, cs_28 ht (cTx_p h (by decide)), cm_bi_i, cs_37, cm_bi_i, cs_33]
        refine ⟨fqE tx n false false false (p + 1), ?_⟩
        rw [he.2] at hpt
        have hr : rxR tx n p false = ckE tx n (fqE tx n false false false (p + 1)) := by
          unfold rxR
          rw [hpt, if_neg (show ¬ p = -1 by omega)]
        rw [hr]
        by_cases hn : cN (tA tx n (fqE tx n false false false (p + 1)))
        · have hk : ckE tx n (fqE tx n false false false (p + 1)) = -1 := by unfold ckE; rw [if_pos hn]
          rw [hk, if_pos hn, if_pos rfl, cm_bv_t]
          rfl
        · have hk : ckE tx n (fqE tx n false false false (p + 1)) = fqE tx n false false false (p + 1) := by unfold ckE; rw [if_neg hn]
          rw [hk, if_neg hn, if_neg (show ¬ fqE tx n false false false (p + 1) = -1 by omega), cm_bv_o]
          rfl
      · have e22 : cm_lp cm_sem cm_k50 10 [some (.inr (.inl 15)), some (.inl p), some (.inl (cm_n w)), some (.inl x3), o4] [] s = cm_lp cm_sem cm_k50 22 [some (.inr (.inl 15)), some (.inl p), some (.inl (cm_n w)), some (.inl x3), o4] [] s := by
          rw [cE_50_10, cF_50_10, if_pos (by omega)]
          simp only [cs_28 ht h, cm_bi_i, e, cm_n0]
          cases w
          · rw [if_pos rfl, if_neg (fun z => he ⟨z, rfl⟩)]
          · rw [if_neg (by decide)]
        rw [e22, cE_50_22, cF_50_22, cs_28 ht h, cm_bi_i, e]
        by_cases h92 : tx p = 92
        · rw [if_pos h92, ew, cs_28 ht h, cm_bi_i]
          by_cases hp1 : p + 1 < n
          · have e1 := tA_in (tx := tx) (show 0 ≤ p + 1 by omega) hp1
            have hn2 : ¬ tx (p + 1) = -1 := by
              have := ht.2.2 (p + 1) (by omega) hp1
              omega
            rw [e1, if_neg hn2, cs_28 ht h, cm_bi_i, e1, cs_11, cm_bi_i, ew1, ew2]
            simp only [cm_b0]
            by_cases hl : cLe (tx (p + 1))
            · rw [if_neg (fun z => z hl), cs_33_1, cm_bv_t]
              exact bad p w (rxR_no (by rw [ptE_eq, if_pos hp, if_neg he, if_neg (show ¬ cLe (tx p) by omega), if_pos h92, if_neg (fun z => z.2 hl)]))
            · rw [if_pos hl, cs_33_0, cm_bv_o, rxR_same (q := p + 2) (v := w) (by rw [ptE_eq p w, if_pos hp, if_neg he, if_neg (show ¬ cLe (tx p) by omega), if_pos h92, if_pos ⟨hp1, hl⟩])]
              exact ih (p + 2) (x3 + 1) w _ (by omega) (by omega) (by omega) (by omega)
          · rw [tA_out (by omega), if_pos rfl, cs_33_1, cm_bv_t]
            exact bad p w (rxR_no (by rw [ptE_eq, if_pos hp, if_neg he, if_neg (show ¬ cLe (tx p) by omega), if_pos h92, if_neg (fun z => hp1 z.1)]))
        · rw [if_neg h92]
          by_cases hl : cLe (tx p)
          · rw [if_neg (show ¬ tx p = 91 by omega), if_neg (show ¬ tx p = 93 by omega), cs_28 ht h, cm_bi_i, e, if_neg hn1, cs_28 ht h, cm_bi_i, e, cs_11, cm_bi_i]
            simp only [cm_b0]
            rw [if_neg (fun z => z hl), cs_33_1, cm_bv_t]
            exact bad p w (rxR_no (by rw [ptE_eq, if_pos hp, if_neg he, if_pos hl]))
          · rw [rxR_same (q := p + 1) (v := if tx p = 91 then true else if tx p = 93 then false else w) (by rw [ptE_eq p w, if_pos hp, if_neg he, if_neg hl, if_neg h92])]
            by_cases h91 : tx p = 91
            · rw [if_pos h91, cE_50_39, cF_50_39, if_pos h91, if_pos h91]
              simp only [cs_28 ht h, cm_bi_i, e, hn1, if_false, cs_11, cm_b0, hl, not_false_eq_true, if_true, cs_33_0, cm_bv_o, ew, ew2]
              exact ih (p + 1) (x3 + 1) true _ (by omega) (by omega) (by omega) (by omega)
            · by_cases h93 : tx p = 93
              · rw [if_neg h91, if_pos h93, cE_50_39, cF_50_39, if_neg h91, if_neg h91, if_pos h93]
                simp only [cs_28 ht h, cm_bi_i, e, hn1, if_false, cs_11, cm_b0, hl, not_false_eq_true, if_true, cs_33_0, cm_bv_o, ew, ew2]
                exact ih (p + 1) (x3 + 1) false _ (by omega) (by omega) (by omega) (by omega)
              · rw [if_neg h91, if_neg h93, if_neg h91, if_neg h93]
                simp only [cs_28 ht h, cm_bi_i, e, hn1, if_false, cs_11, cm_b0, hl, not_false_eq_true, if_true, cs_33_0, cm_bv_o, ew, ew2]
                exact ih (p + 1) (x3 + 1) w _ (by omega) (by omega) (by omega) (by omega)
    · refine ⟨s.1 1506, ?_⟩
      rw [rxR_no (by rw [ptE_eq, if_neg (by omega)]), if_pos rfl, ← cz]
      have e22 : cm_lp cm_sem cm_k50 22 [some (.inr (.inl 15)), some (.inl p), some (.inl (cm_n w)), some (.inl x3), o4] [] s = some (.inr 0, cRz s) := by
        rw [cE_50_22, cF_50_22]
        simp only [cs_28 ht h, cm_bi_i, tA_out (show n ≤ p by omega), show ¬ ((-1 : Int) = 92) by decide, show ¬ ((-1 : Int) = 91) by decide, show ¬ ((-1 : Int) = 93) by decide, if_false, if_true, cs_33_1, cm_bv_t]
        rfl
      rw [cE_50_10, cF_50_10, if_pos (by omega)]
      simp only [cs_28 ht h, cm_bi_i, tA_out (show n ≤ p by omega), show ¬ ((-1 : Int) = 47) by decide, if_false, e22, ite_self]
/-- the class: readPattern -/
theorem cs_50 (ht : tOk tx n) {s : cm_S} (h : cTx tx n s) {p : Int} (hp : s.1 1505 = p) (h0 : 0 ≤ p) (h1 : p < n) : ∃ z, cm_sem 50 [.inr (.inl 15)] s = if rxE tx n p = -1 then some (.inr 0, cRf s z) else some (.inl none, cPt s (rxE tx n p)) := by
  obtain ⟨t1, t2, -⟩ := id ht
  rw [cS_50, cF_50_0, hp, cm_w_id (by omega) (by omega)]
  exact cl_50 ht h n.toNat (p + 1) 0 false none (by omega) (by omega) (by omega) (by omega)
set_option maxHeartbeats 1000000 in
/-- the reference: patternEnd -/
theorem rl_194 (ht : tOk tx n) {s : cm_S} (h : rTx tx n s) : ∀ (k : Nat) (p : Int) (w : Bool) (o1 : Option cm_V), n ≤ p + k → 0 ≤ p → p ≤ n → cm_lp cm_sem cm_k194 7 [some (.inr (.inl 41)), o1, some (.inl p), some (.inl (cm_n w))] [] s = some (.inl (some (.inl (rxR tx n p w))), s) := by
  obtain ⟨t1, t2, -⟩ := id ht
  have base : ∀ (p : Int) (w : Bool) (o1 : Option cm_V), n ≤ p → cm_lp cm_sem cm_k194 7 [some (.inr (.inl 41)), o1, some (.inl p), some (.inl (cm_n w))] [] s = some (.inl (some (.inl (rxR tx n p w))), s) := by
    intro p w o1 hp
    rw [cE_194_7, cF_194_7, h.1, if_neg (by omega), if_neg (by omega), rxR_no (by rw [ptE_eq, if_neg (by omega)])]
  intro k
  induction k with
  | zero => intro p w o1 hk h0 h1; exact base p w o1 (by omega)
  | succ k ih =>
    intro p w o1 hk h0 h1
    by_cases hp : p < n
    · have ew : cm_w (p + 1) = p + 1 := cm_w_id (by omega) (by omega)
      have ew1 : cm_w (p + 1 + 1) = p + 2 := (cm_w_id (by omega) (by omega)).trans (by omega)
      have b1 : (0 : Int) ≤ p ∧ p < 480 := by omega
      have rest : (if (0 : Int) ≤ p ∧ p < 480 then
            cm_bi (cm_sem 183 [.inl (s.2 46 p)] s) fun z2 s2 =>
              if z2 = 0 then
                if (0 : Int) ≤ p ∧ p < 480 then
                  if (s2.2 46 p) = 92 then
                    if (cm_w (p + 1)) < (s2.1 4107) then
                      if (0 : Int) ≤ (cm_w (p + 1)) ∧ (cm_w (p + 1)) < 480 then
                        cm_bi (cm_sem 183 [.inl (s2.2 46 (cm_w (p + 1)))] s2) fun z3 s3 =>
                          if z3 = 0 then
                            cm_lp cm_sem cm_k194 7 [some (.inr (.inl 41)), o1, some (.inl (cm_w ((cm_w (p + 1)) + 1))), some (.inl (cm_n w))] [] s3
                          else
                            some (.inl (some (.inl (-1))), s3)
                      else none
                    else
                      some (.inl (some (.inl (-1))), s2)
                  else
                    if (0 : Int) ≤ p ∧ p < 480 then
                      if (s2.2 46 p) = 91 then
                        cm_lp cm_sem cm_k194 7 [some (.inr (.inl 41)), o1, some (.inl (cm_w (p + 1))), some (.inl 1)] [] s2
                      else
                        if cm_n w = 0 then
                          cm_lp cm_sem cm_k194 7 [some (.inr (.inl 41)), o1, some (.inl (cm_w (p + 1))), some (.inl 0)] [] s2
                        else
                          if (0 : Int) ≤ p ∧ p < 480 then
                            if (s2.2 46 p) = 93 then
                              cm_lp cm_sem cm_k194 7 [some (.inr (.inl 41)), o1, some (.inl (cm_w (p + 1))), some (.inl 0)] [] s2
                            else
                              cm_lp cm_sem cm_k194 7 [some (.inr (.inl 41)), o1, some (.inl (cm_w (p + 1))), some (.inl 1)] [] s2
                          else none
                    else none
                else none
              else
                some (.inl (some (.inl (-1))), s2)
          else none) = (if cLe (tx p) then some (.inl (some (.inl (-1))), s) else if tx p = 92 then (if p + 1 < n ∧ ¬ cLe (tx (p + 1)) then some (.inl (some (.inl (rxR tx n (p + 2) w))), s) else some (.inl (some (.inl (-1))), s)) else some (.inl (some (.inl (rxR tx n (p + 1) (if tx p = 91 then true else if tx p = 93 then false else w)))), s)) := by
        rw [if_pos b1, h.2 p h0 hp, cs_183, cm_bi_i]
        simp only [cm_b0, if_pos b1, h.2 p h0 hp, ew, ew1, h.1, cm_n0]
        by_cases hl : cLe (tx p)
        · rw [if_neg (fun z => z hl), if_pos hl]
        · rw [if_pos hl, if_neg hl]
          by_cases h92 : tx p = 92
          · rw [if_pos h92, if_pos h92]
            by_cases hp1 : p + 1 < n
            · rw [if_pos hp1, if_pos (by omega), h.2 (p + 1) (by omega) hp1, cs_183, cm_bi_i]
              simp only [cm_b0]
              by_cases hl2 : cLe (tx (p + 1))
              · rw [if_neg (fun z => z hl2), if_neg (fun z => z.2 hl2)]
              · rw [if_pos hl2, if_pos ⟨hp1, hl2⟩]
                exact ih (p + 2) w o1 (by omega) (by omega) (by omega)
            · rw [if_neg hp1, if_neg (fun z => hp1 z.1)]
          · rw [if_neg h92, if_neg h92]
            have g0 : cm_lp cm_sem cm_k194 7 [some (.inr (.inl 41)), o1, some (.inl (p + 1)), some (.inl 0)] [] s = _ := ih (p + 1) false o1 (by omega) (by omega) (by omega)
            have g1 : cm_lp cm_sem cm_k194 7 [some (.inr (.inl 41)), o1, some (.inl (p + 1)), some (.inl 1)] [] s = _ := ih (p + 1) true o1 (by omega) (by omega) (by omega)
            rw [g0, g1]
            by_cases h91 : tx p = 91
            · rw [if_pos h91, if_pos h91]
            · rw [if_neg h91, if_neg h91]
              cases w
              · rw [if_pos rfl]
                simp
              · rw [if_neg (by decide)]
                by_cases h93 : tx p = 93
                · rw [if_pos h93, if_pos h93]
                · rw [if_neg h93, if_neg h93]
      rw [cE_194_7, cF_194_7, h.1, if_pos hp, if_pos b1, h.2 p h0 hp]
      by_cases he : tx p = 47 ∧ w = false
      · rw [if_pos he.1, he.2, if_pos (show cm_n false = 0 from rfl), if_pos hp, ew, cs_195 ht h (by omega) (by omega), cm_bi_i]
        have hpt : ptE tx n p false = p := by rw [ptE_eq, if_pos hp, if_pos ⟨he.1, rfl⟩]
        unfold rxR
        rw [hpt, if_neg (show ¬ p = -1 by omega)]
      · have key : rxR tx n p w = (if cLe (tx p) then -1 else if tx p = 92 then (if p + 1 < n ∧ ¬ cLe (tx (p + 1)) then rxR tx n (p + 2) w else -1) else rxR tx n (p + 1) (if tx p = 91 then true else if tx p = 93 then false else w)) := by
          have hE := ptE_eq (tx := tx) (n := n) p w
          rw [if_pos hp, if_neg he] at hE
          by_cases hl : cLe (tx p)
          · rw [if_pos hl] at hE ⊢
            exact rxR_no hE
          · rw [if_neg hl] at hE ⊢
            by_cases h92 : tx p = 92
            · rw [if_pos h92] at hE ⊢
              by_cases hq : p + 1 < n ∧ ¬ cLe (tx (p + 1))
              · rw [if_pos hq] at hE ⊢
                exact rxR_same hE
              · rw [if_neg hq] at hE ⊢
                exact rxR_no hE
            · rw [if_neg h92] at hE ⊢
              exact rxR_same hE
        have rest2 := rest
        rw [h.2 p h0 hp] at rest2
        have fin : (if cLe (tx p) then some (.inl (some (.inl (-1))), s) else if tx p = 92 then (if p + 1 < n ∧ ¬ cLe (tx (p + 1)) then some (.inl (some (.inl (rxR tx n (p + 2) w))), s) else some (.inl (some (.inl (-1))), s)) else some (.inl (some (.inl (rxR tx n (p + 1) (if tx p = 91 then true else if tx p = 93 then false else w)))), s)) = (some (.inl (some (.inl (rxR tx n p w))), s) : Option cm_R) := by
          rw [key]
          repeat' split
          all_goals rfl
        by_cases h47 : tx p = 47
        · have hw : ¬ cm_n w = 0 := by
            intro z
            rw [cm_n0] at z
            exact he ⟨h47, z⟩
          rw [if_pos h47, if_neg hw]
          exact rest2.trans fin
        · rw [if_neg h47]
          exact rest2.trans fin
    · exact base p w o1 (by omega)
theorem cs_194 (ht : tOk tx n) {s : cm_S} (h : rTx tx n s) {p : Int} (h0 : 0 ≤ p) (h1 : p < n) : cm_sem 194 [.inr (.inl 41), .inl p] s = some (.inl (some (.inl (rxE tx n p))), s) := by
  obtain ⟨t1, t2, -⟩ := id ht
  rw [cS_194, cF_194_0, cm_w_id (by omega) (by omega)]
  exact rl_194 ht h n.toNat (p + 1) false _ (by omega) (by omega) (by omega)
end TX21
