/-! ===== the reference's judge: jumpsWrong(), judge() ===== -/
section TX94
variable {tx : Int → Int} {n : Int}
theorem r_267 (ht : tOk tx n) {r : cm_S} {T : tT} (h : rJ tx n r T) (hT : T.1.1 = 0) {i : Int} (h0 : 0 ≤ i) (h1 : i < tSz T) : RB (cm_sem 267 [.inr (.inl 41), .inl (nO T i)] r) r (wJ tx n T i) := by
  have t9 := h.1
  have o := h.no h0 h1
  have g := h.g h0 h1
  have i0 : (nLb (nT T i)).1 ≠ 0 → 0 < i := fun hk => by
    by_cases hi : i = 0
    · exact absurd ((h.k00 hT h0 h1).mpr hi) hk
    · omega
  rw [cS_267, cF_267_0]
  simp only [if_pos o, h.kd h0 h1]
  unfold wJ
  by_cases h11 : (nLb (nT T i)).1 = 11
  · rw [if_pos h11]
    refine RB_iff (RB_nt (r_268 ht h hT (i0 (by omega)) h1)) ⟨fun q => ?_, fun q z => ?_⟩
    · rw [if_pos h11] at q
      by_cases hl : lbN (nLb (nT T i)) = 0
      · exact Or.inl ⟨h11, Or.inl ⟨hl, fun z => q (Or.inl ⟨hl, z⟩)⟩⟩
      · exact Or.inl ⟨h11, Or.inr ⟨hl, fun z => q (Or.inr ⟨hl, Or.inr ⟨h11, z⟩⟩)⟩⟩
    · rw [if_pos h11] at z
      rcases q with ⟨-, q | q⟩ | q | q | q | q
      · rcases z with z | z
        · exact q.2 z.2
        · exact z.1 q.1
      · rcases z with z | z
        · exact q.1 z.1
        · rcases z.2 with z | z
          · exact z.1 h11
          · exact q.2 z.2
      all_goals omega
  rw [if_neg h11]
  by_cases h12 : (nLb (nT T i)).1 = 12
  · rw [if_pos h12]
    refine RB_iff (RB_nt (r_268 ht h hT (i0 (by omega)) h1)) ⟨fun q => ?_, fun q z => ?_⟩
    · rw [if_neg h11] at q
      by_cases hl : lbN (nLb (nT T i)) = 0
      · exact Or.inr (Or.inl ⟨h12, Or.inl ⟨hl, fun z => q (Or.inl ⟨hl, z⟩)⟩⟩)
      · exact Or.inr (Or.inl ⟨h12, Or.inr ⟨hl, Classical.byContradiction fun z => q (Or.inr ⟨hl, Or.inl ⟨h11, z⟩⟩)⟩⟩)
    · rw [if_neg h11] at z
      rcases q with q | ⟨-, q | q⟩ | q | q | q
      · omega
      · rcases z with z | z
        · exact q.2 z.2
        · exact z.1 q.1
      · rcases z with z | z
        · exact q.1 z.1
        · rcases z.2 with z | z
          · exact z.2 q.2
          · exact h11 z.1
      all_goals omega
  rw [if_neg h12]
  by_cases h15 : (nLb (nT T i)).1 = 15
  · rw [if_pos h15]
    have ip := i0 (by omega)
    have hc := gC_ne g.2.1 (by omega)
    obtain ⟨b1, b2, b3⟩ := nT_1 h0 h1 hc
    have o1 := h.no (i := i + 1) (by omega) b1
    have m := nT_mem ip h1
    have op := h.no m.1 (show nPa (nT T i) < tSz T by omega)
    have hcp : nCh (nT T (nPa (nT T i))) ≠ .leaf := by
      intro e
      have := m.2.2
      rw [e] at this
      cases this
    have n1 := nT_1 m.1 (show nPa (nT T i) < tSz T by omega) hcp
    rw [h.fi h0 h1 hc, if_pos o1, h.kd (by omega) b1, b2, fL0_k]
    split
    · next e21 =>
      rw [h.pa ip h1, if_pos op, h.fi m.1 (by omega) hcp, h15]
      refine RB_iff (rl_267d h ip h1 (i - (nPa (nT T i) + 1)).toNat (nPa (nT T i) + 1) 0 (by omega) (by omega) (by omega) n1.2.2 (Or.inl rfl)) ⟨fun q => Or.inr (Or.inr (Or.inr (Or.inl ⟨rfl, e21, q.resolve_left (by decide)⟩))), fun q => ?_⟩
      rcases q with q | q | q | q | q
      · omega
      · omega
      · omega
      · exact Or.inr q.2.2
      · omega
    · next e21 =>
      rw [if_neg (by omega), if_neg (by omega)]
      refine RB_0 fun q => ?_
      rcases q with q | q | q | q | q
      · omega
      · omega
      · omega
      · exact e21 q.2.1
      · omega
  rw [if_neg h15]
  by_cases h13 : (nLb (nT T i)).1 = 13
  · have ip := i0 (by omega)
    have m := nT_mem ip h1
    rw [if_pos h13, h.pa ip h1, h13]
    refine RB_iff (rl_267r h hT _ 600 (nPa (nT T i)) m.1 (by omega) (by omega)) ⟨fun q => Or.inr (Or.inr (Or.inl ⟨rfl, q⟩)), fun q => ?_⟩
    rcases q with q | q | q | q | q
    · omega
    · omega
    · exact q.2
    · omega
    · omega
  rw [if_neg h13]
  by_cases h16 : (nLb (nT T i)).1 = 16
  · have ip := i0 (by omega)
    have m := nT_mem ip h1
    rw [if_pos h16, h.pa ip h1, h16]
    refine RB_iff (rl_267l ht h hT h0 h1 600 (nPa (nT T i)) 0 m.1 (by omega) (by omega) (Or.inl rfl)) ⟨fun q => Or.inr (Or.inr (Or.inr (Or.inr ⟨rfl, q.resolve_left (by decide)⟩))), fun q => ?_⟩
    rcases q with q | q | q | q | q
    · omega
    · omega
    · omega
    · omega
    · exact Or.inr q.2
  rw [if_neg h16]
  exact RB_0 (by omega)
theorem rl_260 (ht : tOk tx n) {r : cm_S} {T : tT} (h : rJ tx n r T) (hT : T.1.1 = 0) (st : stOk tx n T (fun j => r.2 55 (nO T j)) (tSz T)) (hf : r.1 4108 = 0) : ∀ (d : Nat) (i : Int) (o3 o4 o5 : Option cm_V), 0 ≤ i → i + d = tSz T → ((∀ j, i ≤ j → j < tSz T → ¬ bad tx n T (fun j => r.2 55 (nO T j)) j) → cm_lp cm_sem cm_k260 3 [some (.inr (.inl 41)), some (.inl (tSz T)), some (.inl i), o3, o4, o5] [] r = some (.inl none, r)) ∧ ((∃ j, i ≤ j ∧ j < tSz T ∧ bad tx n T (fun j => r.2 55 (nO T j)) j) → ∃ r2, cm_lp cm_sem cm_k260 3 [some (.inr (.inl 41)), some (.inl (tSz T)), some (.inl i), o3, o4, o5] [] r = some (.inl none, r2) ∧ 0 < r2.1 4108 ∧ r2.2 = r.2 ∧ ∀ j : Nat, j ≠ 4108 → j ≠ 4109 → r2.1 j = r.1 j) := by
  have t9 := h.1
  intro d
  induction d with
  | zero =>
    intro i o3 o4 o5 h0 hd
    rw [cE_260_3, cF_260_3, if_neg (by omega)]
    exact ⟨fun _ => rfl, fun ⟨j, a, b, c⟩ => by omega⟩
  | succ d ih =>
    intro i o3 o4 o5 h0 hd
    have i1 : i < tSz T := by omega
    have o := h.no h0 i1
    have g := h.g h0 i1
    -- a fault is told
    have tell : ∀ (f : Int) (p : Int) (o4 o5 : Option cm_V), 0 < f → ∃ r2, (cm_bv (cm_sem 185 [.inr (.inl 41), .inl f, .inl p] r) fun s3 => cm_lp cm_sem cm_k260 3 [some (.inr (.inl 41)), some (.inl (tSz T)), some (.inl (cm_w (i + 1))), some (.inl (nO T i)), o4, o5] [] s3) = some (.inl none, r2) ∧ 0 < r2.1 4108 ∧ r2.2 = r.2 ∧ ∀ j : Nat, j ≠ 4108 → j ≠ 4109 → r2.1 j = r.1 j := fun f p o4 o5 hp => by
      have e8 : (cm_p (cm_p r 4108 f) 4109 p).1 4108 = f := by rw [cm_p_ne (by decide), cm_p_at]
      refine ⟨cm_p (cm_p r 4108 f) 4109 p, ?_, by rw [e8]; exact hp, rfl, fun j a b => by rw [cm_p_ne b, cm_p_ne a]⟩
      rw [cs_185 hf, cm_bv_o, cE_260_3, cF_260_3]
      split
      · rw [if_neg (by rw [e8]; omega)]
      · rfl
    rw [cE_260_3, cF_260_3, if_pos i1, if_pos hf, if_pos (by omega), h.od h0 i1]
    -- behind the target
    have rest : ∀ (y : Int) (o4 o5 : Option cm_V), (y = 31 ∨ y = 40 ∨ y = 41) → ¬ wT T i → ((∀ j, i ≤ j → j < tSz T → ¬ bad tx n T (fun j => r.2 55 (nO T j)) j) → cm_lp cm_sem cm_k260 28 [some (.inr (.inl 41)), some (.inl (tSz T)), some (.inl i), some (.inl (nO T i)), o4, o5] [.inl y] r = some (.inl none, r)) ∧ ((∃ j, i ≤ j ∧ j < tSz T ∧ bad tx n T (fun j => r.2 55 (nO T j)) j) → ∃ r2, cm_lp cm_sem cm_k260 28 [some (.inr (.inl 41)), some (.inl (tSz T)), some (.inl i), some (.inl (nO T i)), o4, o5] [.inl y] r = some (.inl none, r2) ∧ 0 < r2.1 4108 ∧ r2.2 = r.2 ∧ ∀ j : Nat, j ≠ 4108 → j ≠ 4109 → r2.1 j = r.1 j) := fun y o4 o5 hy hw => by
      obtain ⟨zb, eb, hb⟩ := r_262 ht h hT st h0 i1
      obtain ⟨zc, ec, hc⟩ := r_267 ht h hT h0 i1
      have body : ∀ Z : Option cm_R, Z = (if zb = 0 then cm_bi (cm_sem 267 [.inr (.inl 41), .inl (nO T i)] r) fun z2 s2 => if z2 = 0 then cm_lp cm_sem cm_k260 3 [some (.inr (.inl 41)), some (.inl (tSz T)), some (.inl (cm_w (i + 1))), some (.inl (nO T i)), some (.inl y), some (.inl 0)] [] s2 else if (0 : Int) ≤ nO T i ∧ nO T i < 500 then cm_bv (cm_sem 185 [.inr (.inl 41), .inl 6, .inl (s2.2 48 (nO T i))] s2) fun s3 => cm_lp cm_sem cm_k260 3 [some (.inr (.inl 41)), some (.inl (tSz T)), some (.inl (cm_w (i + 1))), some (.inl (nO T i)), some (.inl y), some (.inl 6)] [] s3 else none else if (0 : Int) ≤ nO T i ∧ nO T i < 500 then cm_bv (cm_sem 185 [.inr (.inl 41), .inl 5, .inl (r.2 48 (nO T i))] r) fun s4 => cm_lp cm_sem cm_k260 3 [some (.inr (.inl 41)), some (.inl (tSz T)), some (.inl (cm_w (i + 1))), some (.inl (nO T i)), some (.inl y), some (.inl 5)] [] s4 else none) → ((∀ j, i ≤ j → j < tSz T → ¬ bad tx n T (fun j => r.2 55 (nO T j)) j) → Z = some (.inl none, r)) ∧ ((∃ j, i ≤ j ∧ j < tSz T ∧ bad tx n T (fun j => r.2 55 (nO T j)) j) → ∃ r2, Z = some (.inl none, r2) ∧ 0 < r2.1 4108 ∧ r2.2 = r.2 ∧ ∀ j : Nat, j ≠ 4108 → j ≠ 4109 → r2.1 j = r.1 j) := fun Z eZ => by
        rw [if_pos o, ec, cm_bi_i, if_pos o] at eZ
        rcases hb with ⟨rfl, hb⟩ | ⟨rfl, hb⟩
        · rw [if_pos rfl] at eZ
          rcases hc with ⟨rfl, hc⟩ | ⟨rfl, hc⟩
          · rw [if_pos rfl, cm_w_id (by omega) (by omega)] at eZ
            obtain ⟨g1, g2⟩ := ih (i + 1) (some (.inl (nO T i))) (some (.inl y)) (some (.inl 0)) (by omega) (by omega)
            rw [eZ]
            refine ⟨fun q => g1 fun j a b => q j (by omega) b, fun ⟨j, a, b, c⟩ => g2 ⟨j, ?_, b, c⟩⟩
            by_cases hj : j = i
            · subst hj
              rcases c with c | c | c
              · exact absurd c hw
              · exact absurd c hb
              · exact absurd c hc
            · omega
          · rw [if_neg (by decide)] at eZ
            rw [eZ]
            exact ⟨fun q => absurd (Or.inr (Or.inr hc)) (q i (Int.le_refl _) i1), fun _ => tell 6 _ _ _ (by decide)⟩
        · rw [if_neg (by decide)] at eZ
          rw [eZ]
          exact ⟨fun q => absurd (Or.inr (Or.inl hb)) (q i (Int.le_refl _) i1), fun _ => tell 5 _ _ _ (by decide)⟩
      have e28 := body (cm_lp cm_sem cm_k260 28 [some (.inr (.inl 41)), some (.inl (tSz T)), some (.inl i), some (.inl (nO T i)), o4, o5] [.inl y] r) (by
        rw [cE_260_28, cF_260_28]
        rcases hy with rfl | rfl | rfl
        · rw [if_pos rfl, eb, cm_bi_i]
        · rw [if_neg (by decide), if_pos rfl, eb, cm_bi_i]
        · rw [if_neg (by decide), if_neg (by decide), if_pos rfl, eb, cm_bi_i])
      exact e28
    obtain ⟨z, e, ⟨rfl, ha⟩ | ⟨rfl, ha⟩⟩ := r_261 ht h h0 i1
    · rw [e, cm_bi_i, if_pos rfl]
      exact rest 31 _ _ (Or.inl rfl) fun q => ha q.1
    · have hc := gC_ne g.2.1 (by unfold tgt at ha; omega)
      obtain ⟨b1, b2, b3⟩ := nT_1 h0 i1 hc
      have o1 := h.no (i := i + 1) (by omega) b1
      rw [e, cm_bi_i, if_neg (by decide), if_pos o, h.fi h0 i1 hc, if_pos o1, h.kd (by omega) b1, b2, fL0_k]
      by_cases hw : wT T i
      · have hw2 := hw.2
        rw [cE_260_28, cF_260_28, if_neg hw2.1, if_neg hw2.2.1, if_neg hw2.2.2, if_pos o]
        exact ⟨fun q => absurd (Or.inl hw) (q i (Int.le_refl _) i1), fun _ => tell 4 _ _ _ (by decide)⟩
      · refine rest _ _ _ ?_ hw
        by_cases q1 : fK0 (nCh (nT T i)) = 31
        · exact Or.inl q1
        by_cases q2 : fK0 (nCh (nT T i)) = 40
        · exact Or.inr (Or.inl q2)
        by_cases q3 : fK0 (nCh (nT T i)) = 41
        · exact Or.inr (Or.inr q3)
        exact absurd ⟨ha, q1, q2, q3⟩ hw
theorem r_260 (ht : tOk tx n) {r : cm_S} {T : tT} (h : rJ tx n r T) (hT : T.1.1 = 0) (st : stOk tx n T (fun j => r.2 55 (nO T j)) (tSz T)) (hf : r.1 4108 = 0) : ((∀ j, 0 ≤ j → j < tSz T → ¬ bad tx n T (fun j => r.2 55 (nO T j)) j) → cm_sem 260 [.inr (.inl 41), .inl (tSz T)] r = some (.inl none, r)) ∧ ((∃ j, 0 ≤ j ∧ j < tSz T ∧ bad tx n T (fun j => r.2 55 (nO T j)) j) → ∃ r2, cm_sem 260 [.inr (.inl 41), .inl (tSz T)] r = some (.inl none, r2) ∧ 0 < r2.1 4108 ∧ r2.2 = r.2 ∧ ∀ j : Nat, j ≠ 4108 → j ≠ 4109 → r2.1 j = r.1 j) := by
  have tz := tSz_1 T
  rw [cS_260, cF_260_0]
  exact rl_260 ht h hT st hf (tSz T).toNat 0 none none none (Int.le_refl _) (by omega)
/-- both judges find the same trees bad -/
theorem bad_eq {T : tT} {σ σ' : Int → Int} (hT : T.1.1 = 0) (hg : gF tx n (fo [T])) (st : stOk tx n T σ (tSz T)) (st' : stOk tx n T σ' (tSz T)) {i : Int} (h0 : 0 ≤ i) (h1 : i < tSz T) : bad tx n T σ' i ↔ bad tx n T σ i := by
  have tz := tSz_1 T
  have e := fun j a b => stOk_u hT (Int.le_refl _) st st' (tSz T).toNat (by omega) j a b
  have e0 : σ' i = σ i := e i h0 (by omega)
  have gC := (nd_g (fo [T]) 0 (-1) 0 0 hg i h0 (by rw [fSz_T]; omega)).2.1
  have e1 : ((nLb (nT T i)).1 = 20 ∨ (nLb (nT T i)).1 = 39) → σ' (i + 1) = σ (i + 1) := fun hk => by
    have := (nT_1 h0 h1 (gC_ne gC (by
      have hk' : (nLb (nd (fo [T]) 0 (-1) 0 0 i)).1 = 20 ∨ (nLb (nd (fo [T]) 0 (-1) 0 0 i)).1 = 39 := hk
      omega))).1
    exact e (i + 1) (by omega) (by omega)
  unfold bad wS
  rw [e0]
  constructor
  · rintro (q | q | q)
    · exact Or.inl q
    · refine Or.inr (Or.inl ?_)
      rcases q with q | q
      · rw [e1 q.1] at q
        exact Or.inl q
      · exact Or.inr q
    · exact Or.inr (Or.inr q)
  · rintro (q | q | q)
    · exact Or.inl q
    · refine Or.inr (Or.inl ?_)
      rcases q with q | q
      · rw [← e1 q.1] at q
        exact Or.inl q
      · exact Or.inr q
    · exact Or.inr (Or.inr q)
end TX94
