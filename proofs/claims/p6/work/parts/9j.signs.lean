/-! ===== signs between operands ===== -/
/-- a sign that waits for its right operand: the class's node, the reference's token, place, length, code, the left operand -/
abbrev tPd : Type := Int × Int × Int × Int × Int × tT
abbrev pdL (p : tPd) : tT := p.2.2.2.2.2
abbrev pdS (p : tPd) : rSg := (p.2.1, p.2.2.1, p.2.2.2.1)
abbrev pdC (p : tPd) : Int := p.2.2.2.2.1
/-- the node with its right operand -/
abbrev pdJ (p : tPd) (r : tT) : tT := ((46, p.2.2.1, p.2.2.2.1, p.2.2.2.2.1, false), fo [pdL p, r])
/-- signs that bind as much as st, or more, are complete -/
def pdClo (st : Int) : tT → List tPd → tT × List tPd
  | r, [] => (r, [])
  | r, p :: P => if stC (pdC p) < st then (r, p :: P) else pdClo st (pdJ p r) P
theorem pdClo_le (st : Int) : ∀ (P : List tPd) (r : tT), (pdClo st r P).2.length ≤ P.length
  | [], r => Nat.le_refl _
  | p :: P, r => by
    unfold pdClo
    split
    · exact Nat.le_refl _
    · have := pdClo_le st P (pdJ p r)
      rw [List.length_cons]
      omega
section TX39
variable {tx : Int → Int} {n : Int}
theorem stC_0 {x : Int} (h : x < 33) (h1 : x ≠ 14) (h2 : x ≠ 15) : stC x = 0 := by
  unfold stC
  rw [if_neg (by omega), if_neg (by omega), if_neg (by omega), if_neg (by omega), if_neg (by omega), if_neg (by omega), if_neg (by omega), if_neg (by omega), if_neg (by omega), if_neg (by omega)]
theorem stR_0 {x : Int} (h : x < 33 ∨ 1000 ≤ x ∧ x ≤ 1026) (h1 : x ≠ 1013) (h2 : x ≠ 1014) : stR x = 0 := by
  unfold stR
  rw [if_neg (by omega), if_neg (by omega), if_neg (by omega), if_neg (by omega), if_neg (by omega), if_neg (by omega), if_neg (by omega), if_neg (by omega), if_neg (by omega), if_neg (by omega)]
theorem st_rc {t : tTk} (h : tkOk t) : stR (rNo t) = stC t.2.1 := by
  unfold rNo
  rcases h with ⟨h1, h2⟩ | ⟨h1, h2, h3⟩ | ⟨h1, h2⟩
  · rw [if_neg (show ¬ t.1 = 2 by omega), if_neg (show ¬ t.1 = 6 by omega), h2, stC_0 (by omega) (by omega) (by omega)]
    by_cases h0 : t.1 = 0
    · rw [if_pos h0]; decide
    · rw [if_neg h0]
      by_cases h4 : t.1 = 1
      · rw [if_pos h4]; decide
      · rw [if_neg h4]; exact stR_0 (by omega) (by omega) (by omega)
  · rw [if_pos h1]
    by_cases h4 : t.2.1 = 14
    · rw [h4]; decide
    · by_cases h5 : t.2.1 = 15
      · rw [h5]; decide
      · rw [stC_0 (by omega) h4 h5, stR_0 (by omega) (by omega) (by omega)]
  · have := sg_pos _ h2
    have := sg_gap _ h2
    rw [if_neg (by omega), if_pos h1]
    unfold stR stC
    by_cases hA : t.2.1 = 14 ∨ t.2.1 = 15 ∨ t.2.1 = 60 ∨ t.2.1 = 62 ∨ t.2.1 = 15421 ∨ t.2.1 = 15933
    · rw [if_pos hA, if_pos (by omega)]
    · rw [if_neg hA, if_neg (by omega)]
/-- what lies behind the loop -/
noncomputable def bwT (base noIn st : Int) (s : cm_S) : Option cm_R := if (0 : Int) < st then (if (0 : Int) ≤ (s.1 4136) ∧ (s.1 4136) < 300 then (if (0 : Int) ≤ (s.1 4136) ∧ (s.1 4136) < 300 then (if (0 : Int) ≤ (s.1 4136) ∧ (s.1 4136) < 300 then (cm_bv (cm_sem 198 [.inr (.inl 41)] (cm_p (cm_q (cm_q (cm_q s 62 (s.1 4136) (s.1 4111)) 63 (s.1 4136) (s.1 4112)) 64 (s.1 4136) (cm_w ((s.1 4113) - (s.1 4112)))) 4136 (cm_w ((s.1 4136) + 1)))) fun s6 => cm_bv (cm_sem 176 [.inr (.inl 41), .inl 11, .inl base, .inl noIn, .inl 0, .inl 0] s6) fun s7 => cm_bv (cm_sem 177 [.inr (.inl 41), .inl 12, .inl 0] s7) fun s8 => some (.inl none, s8)) else none) else none) else none) else some (.inl none, s)
theorem bw_loop {e d pu noIn st : Int} {V0 : List tT} {K : List rTs} {S0 : List rSg} {t : tTk} {G : cm_S → Prop} : ∀ (P : List tPd) (r : tT) (rn : Int) (lf : Bool) (s : cm_S), rRt tx n (e, d, rn, pu, lf, r :: (P.map pdL ++ V0), K, P.map pdS ++ S0) t s → (∀ p ∈ P, stR p.2.1 = stC (pdC p)) → rn + P.length < 499 → ((P.length : Int) + S0.length ≤ 290) → (∀ s1, rRt tx n (e, d, rn + (P.length - (pdClo st r P).2.length : Int), pu, if (pdClo st r P).2.length = P.length then lf else false, (pdClo st r P).1 :: ((pdClo st r P).2.map pdL ++ V0), K, (pdClo st r P).2.map pdS ++ S0) t s1 → RO s1 (bwT S0.length noIn st s1) G) → RO s (cm_lp cm_sem cm_k236 17 [some (.inr (.inl 41)), some (.inl (S0.length : Int)), some (.inl noIn), some (.inl st)] [] s) G := by
  intro P
  induction P with
  | nil =>
    intro r rn lf s q hP hn hS h
    have hs : s.1 4136 = S0.length := by
      have := q.1.2.2.2.2.2.2.2.2.2.1
      exact this
    rw [cE_236_17, cF_236_17, if_neg (by omega)]
    refine h s ?_
    simpa [pdClo] using q
  | cons p P ih =>
    intro r rn lf s q hP hn hS h
    have hs : s.1 4136 = P.length + 1 + S0.length := by
      have : s.1 4136 = (((p :: P).map pdS ++ S0).length : Nat) := q.1.2.2.2.2.2.2.2.2.2.1
      rw [this, List.length_append, List.length_map, List.length_cons]
      omega
    have hsg := q.1.2.2.2.2.2.2.2.2.2.2
    have esl : (((P.map pdS ++ S0).length : Nat) : Int) = P.length + S0.length := by rw [List.length_append, List.length_map]; omega
    obtain ⟨g1, g2, g3, g4⟩ : s.2 62 (P.length + S0.length) = p.2.1 ∧ s.2 63 (P.length + S0.length) = p.2.2.1 ∧ s.2 64 (P.length + S0.length) = p.2.2.2.1 ∧ rSgA s (P.map pdS ++ S0) := by
      have hsg' : rSgA s (pdS p :: (P.map pdS ++ S0)) := hsg
      unfold rSgA at hsg'
      rw [esl] at hsg'
      exact hsg'
    rw [List.length_cons] at hn hS
    have e1 : cm_w (s.1 4136 - 1) = P.length + S0.length := by rw [hs, cm_w_id (by omega) (by omega)]; omega
    rw [cE_236_17, cF_236_17, if_pos (by omega), e1, if_pos (by omega), cs_237, cm_bi_i, g1, hP p (List.mem_cons_self ..)]
    by_cases hst : stC (pdC p) < st
    · rw [if_pos hst]
      refine h s ?_
      unfold pdClo
      rw [if_pos hst]
      simpa using q
    · rw [if_neg hst]
      have hJ : RO s (cm_sem 238 [.inr (.inl 41)] s) (rRt tx n (e, d, rn + 1, pu, false, pdJ p r :: (P.map pdL ++ V0), K, P.map pdS ++ S0) t) := by
        have hv : s.1 4134 = (P.map pdL ++ V0).length + 2 := by
          have := q.1.val
          rw [this]
          simp only [List.length_cons, List.map_cons, List.length_append, List.length_map]
          omega
        have hrn := q.1.rn0
        rw [List.length_cons] at hrn
        rw [cS_238, cF_238_0, e1, if_pos (by omega), if_pos (by omega), g2, g3, hv]
        have hl2 : (((P.map pdL ++ V0).length : Nat) : Int) ≤ 1000 := by
          have : (((p :: P).map pdL ++ V0).length : Int) = (P.map pdL ++ V0).length + 1 := by simp only [List.map_cons, List.cons_append, List.length_cons]; omega
          omega
        rw [cm_w_id (by omega) (by omega), show (((P.map pdL ++ V0).length : Nat) : Int) + 2 - 2 = (P.map pdL ++ V0).length by omega]
        have q' : rRt tx n (e, d, rn, pu, lf, [r, pdL p] ++ (P.map pdL ++ V0), K, P.map pdS ++ S0) t (cm_p s 4136 (P.length + S0.length)) := by
          refine ⟨⟨rAt_fr q.1.1 rfl fun j _ _ _ => cm_p_ne (by omega), ?_⟩, rTk_fr q.2 fun j _ _ _ => cm_p_ne (by omega)⟩
          obtain ⟨h1, h2, h3, h4, h5, h6, h7, h8, h9, h10⟩ := q.1.2
          refine ⟨(cm_p_ne (by decide)).trans h1, (cm_p_ne (by decide)).trans h2, (cm_p_ne (by decide)).trans h3, (cm_p_ne (by decide)).trans h4, (cm_p_ne (by decide)).trans h5, rSkA_fr (s := s) _ (fun a i _ _ _ => rfl) h6, (cm_p_ne (by decide)).trans h7, rVaA_fr (s := s) _ _ (fun a i _ _ _ => rfl) (fun i _ => rfl) h8, ?_, rSgA_fr (s := s) _ (fun a i _ _ _ => rfl) g4⟩
          rw [cm_p_at]
          exact esl.symm
        refine RO_from (rFm_p (rFm_rf s) (by omega)) (RO_re q' (by omega) rfl p.2.2.2.2.1 fun s2 q2 => RO_ret ?_)
        have z := q2
        simp only [show decide ((46 : Int) < 44 ∨ 49 < (46 : Int)) = false by decide, Bool.and_false] at z
        exact z
      refine RO_bind hJ fun s1 q1 => ?_
      refine ih (pdJ p r) (rn + 1) false s1 q1 (fun x hx => hP x (List.mem_cons_of_mem _ hx)) (by omega) (by omega) fun s2 q2 => h s2 ?_
      have hle := pdClo_le st P (pdJ p r)
      unfold pdClo
      rw [if_neg hst, List.length_cons, if_neg (by omega), show rn + (((P.length + 1 : Nat) : Int) - ((pdClo st (pdJ p r) P).2.length : Nat)) = rn + 1 + ((P.length : Int) - ((pdClo st (pdJ p r) P).2.length : Nat)) by omega]
      have e2 : (if (pdClo st (pdJ p r) P).2.length = P.length then false else false) = false := by split <;> rfl
      rw [e2] at q2
      exact q2
theorem bw_s (noIn : Int) (t : tTk) : ∃ st : Int, st = (if rNo t = 1013 ∧ noIn = 1 then 0 else stR (rNo t)) := ⟨_, rfl⟩
/-- up to the loop -/
theorem t_sgL (ht : tOk tx n) {e d rn pu a b c x : Int} {lf : Bool} {V : List tT} {K : List rTs} {S : List rSg} {t : tTk} {s : cm_S} (q : rR tx n (e, d, rn, pu, lf, V, (11, a, b, c, x) :: K, S) s) (hT : lxG tx n false e = some t) (hK : (K.length : Int) ≤ 880) {G : cm_S → Prop} (h : ∀ s1, rRt tx n (e, d, rn, pu, lf, V, K, S) t s1 → RO s1 (cm_lp cm_sem cm_k236 17 [some (.inr (.inl 41)), some (.inl a), some (.inl b), some (.inl (if rNo t = 1013 ∧ b = 1 then 0 else stR (rNo t)))] [] s1) G) : RO s (cm_sem 178 [.inr (.inl 41)] s) G := by
  refine rd_11 q (by omega) fun s q => ?_
  rw [cS_236, cF_236_0]
  refine RO_l0 ht q hT fun s1 q1 => ?_
  have k1 := q1.tok
  have := h s1 q1
  by_cases h1 : rNo t = 1013
  · rw [if_pos (by omega)]
    by_cases h2 : b = 1
    · rw [if_pos h2]
      rw [if_pos ⟨h1, h2⟩] at this
      exact this
    · rw [if_neg h2, cs_237, cm_bi_i, k1]
      rw [if_neg (fun z => h2 z.2)] at this
      exact this
  · rw [if_neg (by omega), cs_237, cm_bi_i, k1]
    rw [if_neg (fun z => h1 z.1)] at this
    exact this
/-- no sign: all is complete -/
theorem t_sgE (ht : tOk tx n) {e d rn pu b c x : Int} {lf : Bool} {V0 : List tT} {K : List rTs} {S0 : List rSg} {t : tTk} {P : List tPd} {r : tT} (hT : lxG tx n false e = some t) (hs : (if rNo t = 1013 ∧ b = 1 then 0 else stR (rNo t)) = 0) (hP : ∀ p ∈ P, stR p.2.1 = stC (pdC p)) (hn : rn + P.length < 499) (hS : (P.length : Int) + S0.length ≤ 290) (hK : (K.length : Int) ≤ 880) : rTo tx n (e, d, rn, pu, lf, r :: (P.map pdL ++ V0), (11, S0.length, b, c, x) :: K, P.map pdS ++ S0) (e, d, rn + (P.length - (pdClo 0 r P).2.length : Int), pu, if (pdClo 0 r P).2.length = P.length then lf else false, (pdClo 0 r P).1 :: ((pdClo 0 r P).2.map pdL ++ V0), K, (pdClo 0 r P).2.map pdS ++ S0) := by
  refine rTo_mk fun s q => t_sgL ht q hT hK fun s1 q1 => ?_
  rw [hs]
  refine bw_loop P r rn lf s1 q1 hP hn hS fun s2 q2 => ?_
  unfold bwT
  rw [if_neg (by decide)]
  exact RO_ret q2.1
/-- a sign -/
theorem t_sgS (ht : tOk tx n) {e d rn pu b c x st : Int} {lf : Bool} {V0 : List tT} {K : List rTs} {S0 : List rSg} {t : tTk} {P : List tPd} {r : tT} (hT : lxG tx n false e = some t) (hs : (if rNo t = 1013 ∧ b = 1 then 0 else stR (rNo t)) = st) (h0 : 0 < st) (hP : ∀ p ∈ P, stR p.2.1 = stC (pdC p)) (hn : rn + P.length < 499) (hS : (P.length : Int) + S0.length ≤ 290) (hK : (K.length : Int) ≤ 880) : rTo tx n (e, d, rn, pu, lf, r :: (P.map pdL ++ V0), (11, S0.length, b, c, x) :: K, P.map pdS ++ S0) (t.2.2.2.1, d, rn + (P.length - (pdClo st r P).2.length : Int), pu, if (pdClo st r P).2.length = P.length then lf else false, (pdClo st r P).1 :: ((pdClo st r P).2.map pdL ++ V0), (12, 0, 0, 0, 0) :: (11, S0.length, b, 0, 0) :: K, (rNo t, t.2.2.1, t.2.2.2.1 - t.2.2.1) :: ((pdClo st r P).2.map pdS ++ S0)) := by
  refine rTo_mk fun s q => t_sgL ht q hT hK fun s1 q1 => ?_
  have a0 := q.at0
  rw [hs]
  refine bw_loop P r rn lf s1 q1 hP hn hS fun s2 q2 => ?_
  have hle := pdClo_le st P r
  have h36 : s2.1 4136 = (((pdClo st r P).2.map pdS ++ S0).length : Nat) := q2.1.2.2.2.2.2.2.2.2.2.1
  have el : ((((pdClo st r P).2.map pdS ++ S0).length : Nat) : Int) = (pdClo st r P).2.length + S0.length := by rw [List.length_append, List.length_map]; omega
  unfold bwT
  rw [if_pos h0, if_pos (by omega), if_pos (by omega), if_pos (by omega), q2.len ht a0.1 a0.2 hT, q2.tok, q2.beg, h36, cm_w_id (by omega) (by omega)]
  generalize hs3 : cm_p (cm_q (cm_q (cm_q s2 62 ((((pdClo st r P).2.map pdS ++ S0).length : Nat) : Int) (rNo t)) 63 ((((pdClo st r P).2.map pdS ++ S0).length : Nat) : Int) t.2.2.1) 64 ((((pdClo st r P).2.map pdS ++ S0).length : Nat) : Int) (t.2.2.2.1 - t.2.2.1)) 4136 ((((pdClo st r P).2.map pdS ++ S0).length : Nat) + 1 : Int) = s3
  have hf : ∀ j : Nat, j ≠ 4136 → s3.1 j = s2.1 j := fun j hj => by rw [← hs3, cm_p_ne hj]; rfl
  have hg : ∀ a : Nat, ¬ (62 ≤ a ∧ a ≤ 64) → s3.2 a = s2.2 a := fun a ha => by rw [← hs3, cm_p_row, cm_q_ne (by omega), cm_q_ne (by omega), cm_q_ne (by omega)]
  have ho : ∀ (a : Nat) (i : Int), i < ((((pdClo st r P).2.map pdS ++ S0).length : Nat) : Int) → s3.2 a i = s2.2 a i := fun a i hi => by rw [← hs3, cm_p_row, cm_q_old (by omega), cm_q_old (by omega), cm_q_old (by omega)]
  have hfm : rFm s2 s3 := by rw [← hs3]; exact rFm_p (rFm_q (rFm_q (rFm_q (rFm_rf s2) (by omega)) (by omega)) (by omega)) (by omega)
  have n1 : s3.2 62 ((((pdClo st r P).2.map pdS ++ S0).length : Nat) : Int) = rNo t ∧ s3.2 63 ((((pdClo st r P).2.map pdS ++ S0).length : Nat) : Int) = t.2.2.1 ∧ s3.2 64 ((((pdClo st r P).2.map pdS ++ S0).length : Nat) : Int) = t.2.2.2.1 - t.2.2.1 ∧ s3.1 4136 = (((pdClo st r P).2.map pdS ++ S0).length : Nat) + 1 := by
    rw [← hs3]
    refine ⟨?_, ?_, ?_, ?_⟩ <;> simp [cm_p, cm_q]
  clear hs3
  have q3 : rRt tx n (e, d, rn + (P.length - (pdClo st r P).2.length : Int), pu, if (pdClo st r P).2.length = P.length then lf else false, (pdClo st r P).1 :: ((pdClo st r P).2.map pdL ++ V0), K, (rNo t, t.2.2.1, t.2.2.2.1 - t.2.2.1) :: ((pdClo st r P).2.map pdS ++ S0)) t s3 := by
    refine ⟨⟨rAt_fr q2.1.1 (hg 46 (by omega)) fun j _ _ _ => hf j (by omega), ?_⟩, rTk_fr q2.2 fun j _ _ _ => hf j (by omega)⟩
    obtain ⟨h1, h2, h3, h4, h5, h6, h7, h8, h9, h10⟩ := q2.1.2
    refine ⟨(hf _ (by decide)).trans h1, (hf _ (by decide)).trans h2, (hf _ (by decide)).trans h3, (hf _ (by decide)).trans h4, (hf _ (by decide)).trans h5, rSkA_fr (s := s2) _ (fun a i a1 a2 _ => by rw [hg a (by omega)]) h6, (hf _ (by decide)).trans h7, rVaA_fr (s := s2) _ _ (fun a i a1 a2 _ => by rw [hg a (by omega)]) (fun i _ => by rw [hg 61 (by omega)]) h8, ?_, n1.1, n1.2.1, n1.2.2.1, rSgA_fr (s := s2) _ (fun a i _ _ hi => ho a i hi) h10⟩
    rw [n1.2.2.2]
    show _ = ((((rNo t, t.2.2.1, t.2.2.2.1 - t.2.2.1) : rSg) :: ((pdClo st r P).2.map pdS ++ S0)).length : Int)
    rw [List.length_cons]
    omega
  exact RO_from hfm (RO_tk ht q3 hT fun s4 q4 => RO_pu q4 (by omega) fun s5 q5 => RO_la q5 (by simp only [List.length_cons]; omega) fun s6 q6 => RO_ret q6.1)
end TX39
