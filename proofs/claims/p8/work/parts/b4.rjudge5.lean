/-! ===== the reference's judge: strict code's faults ===== -/
section TX92
variable {tx : Int → Int} {n : Int}
theorem rl_262d (ht : tOk tx n) {r : cm_S} {T : tT} (h : rJ tx n r T) (hT : T.1.1 = 0) {i : Int} (h0 : 0 ≤ i) (h1 : i < tSz T) (o3 o4 : Option cm_V) (x5 : Int) : RB (cm_lp cm_sem cm_k262 80 [some (.inr (.inl 41)), some (.inl (nO T i)), some (.inl (nLb (nT T i)).1), o3, o4, some (.inl x5)] [] r) r (x5 ≠ 0 ∧ spc tx n (nLb (nT T i)) ∨ ((nLb (nT T i)).1 = 45 ∧ lbC (nLb (nT T i)) = 6 ∧ fK0 (nCh (nT T i)) = 31) ∨ ((nLb (nT T i)).1 = 22 ∨ (nLb (nT T i)).1 = 38) ∧ rep tx n T i (nPa (nT T i) + 1)) := by
  have o := h.no h0 h1
  have g := h.g h0 h1
  have i0 : (nLb (nT T i)).1 ≠ 0 → 0 < i := fun hk => by
    by_cases hi : i = 0
    · subst hi
      rw [nT_0] at hk
      exact absurd hT hk
    · omega
  have tl : RB (cm_bi (cm_sem 264 [.inr (.inl 41), .inl (nO T i)] r) fun z1 s1 => if z1 = 0 then (if (nLb (nT T i)).1 = 22 then cm_bi (cm_sem 265 [.inr (.inl 41), .inl (nO T i)] s1) fun z2 s2 => if z2 = 0 then some (.inl (some (.inl 0)), s2) else some (.inl (some (.inl 1)), s2) else if (nLb (nT T i)).1 = 38 then cm_bi (cm_sem 265 [.inr (.inl 41), .inl (nO T i)] s1) fun z3 s3 => if z3 = 0 then some (.inl (some (.inl 0)), s3) else some (.inl (some (.inl 1)), s3) else some (.inl (some (.inl 0)), s1)) else (if (0 : Int) ≤ (s1.2 50 (nO T i)) ∧ (s1.2 50 (nO T i)) < 500 then if (s1.2 47 (s1.2 50 (nO T i))) = 31 then some (.inl (some (.inl 1)), s1) else if (nLb (nT T i)).1 = 22 then cm_bi (cm_sem 265 [.inr (.inl 41), .inl (nO T i)] s1) fun z4 s4 => if z4 = 0 then some (.inl (some (.inl 0)), s4) else some (.inl (some (.inl 1)), s4) else if (nLb (nT T i)).1 = 38 then cm_bi (cm_sem 265 [.inr (.inl 41), .inl (nO T i)] s1) fun z5 s5 => if z5 = 0 then some (.inl (some (.inl 0)), s5) else some (.inl (some (.inl 1)), s5) else some (.inl (some (.inl 0)), s1) else none)) r (((nLb (nT T i)).1 = 45 ∧ lbC (nLb (nT T i)) = 6 ∧ fK0 (nCh (nT T i)) = 31) ∨ ((nLb (nT T i)).1 = 22 ∨ (nLb (nT T i)).1 = 38) ∧ rep tx n T i (nPa (nT T i) + 1)) := by
    refine RB_if (r_264 ht h h0 h1) (fun p => ?_) (fun p => ?_)
    · have hc := gC_ne g.2.1 (by omega)
      obtain ⟨b1, b2, b3⟩ := nT_1 h0 h1 hc
      have o1 := h.no (i := i + 1) (by omega) b1
      rw [h.fi h0 h1 hc, if_pos o1, h.kd (by omega) b1, b2, fL0_k]
      split
      · next e => exact RB_1 (Or.inl ⟨p.1, p.2, e⟩)
      · next e =>
        rw [if_neg (by omega), if_neg (by omega)]
        exact RB_0 fun q => by omega
    · split
      · next e => exact RB_iff (RB_bl (r_265 ht h (i0 (by omega)) h1)) ⟨fun q => Or.inr ⟨Or.inl e, q⟩, fun q => by
          rcases q with q | q
          · omega
          · exact q.2⟩
      · next e =>
        split
        · next e2 => exact RB_iff (RB_bl (r_265 ht h (i0 (by omega)) h1)) ⟨fun q => Or.inr ⟨Or.inr e2, q⟩, fun q => by
            rcases q with q | q
            · omega
            · exact q.2⟩
        · next e2 =>
          refine RB_0 fun q => ?_
          rcases q with q | q
          · exact p ⟨q.1, q.2.1⟩
          · omega
  rw [cE_262_80, cF_262_80]
  simp only [if_pos o]
  split
  · next e => exact RB_iff tl ⟨fun q => Or.inr q, fun q => q.resolve_left fun z => z.1 e⟩
  · next e =>
    refine RB_if (r_263 ht h h0 h1) (fun p => RB_1 (Or.inl ⟨e, p⟩)) (fun p => ?_)
    exact RB_iff tl ⟨fun q => Or.inr q, fun q => q.resolve_left fun z => p z.2⟩
theorem rl_262c (ht : tOk tx n) {r : cm_S} {T : tT} (h : rJ tx n r T) (hT : T.1.1 = 0) {i : Int} (h0 : 0 ≤ i) (h1 : i < tSz T) (o3 o4 o5 : Option cm_V) (y : Int) : RB (cm_lp cm_sem cm_k262 58 [some (.inr (.inl 41)), some (.inl (nO T i)), some (.inl (nLb (nT T i)).1), o3, o4, o5] [.inl y] r) r ((tgt (nT T i) ∧ fK0 (nCh (nT T i)) = 31 ∧ spc tx n (fL0 (nCh (nT T i)))) ∨ y ≠ 0 ∧ spc tx n (nLb (nT T i)) ∨ ((nLb (nT T i)).1 = 45 ∧ lbC (nLb (nT T i)) = 6 ∧ fK0 (nCh (nT T i)) = 31) ∨ ((nLb (nT T i)).1 = 22 ∨ (nLb (nT T i)).1 = 38) ∧ rep tx n T i (nPa (nT T i) + 1)) := by
  have o := h.no h0 h1
  have g := h.g h0 h1
  have D := fun o3 o4 => rl_262d ht h hT h0 h1 o3 o4 y
  rw [cE_262_58, cF_262_58]
  refine RB_if (r_261 ht h h0 h1) (fun p => ?_) (fun p => RB_iff (D _ _) ⟨fun q => Or.inr q, fun q => q.resolve_left fun z => p z.1⟩)
  have hc := gC_ne g.2.1 (by unfold tgt at p; omega)
  obtain ⟨b1, b2, b3⟩ := nT_1 h0 h1 hc
  have o1 := h.no (i := i + 1) (by omega) b1
  rw [if_pos o, h.fi h0 h1 hc, if_pos o1, h.kd (by omega) b1, b2, fL0_k]
  split
  · next e =>
    have S := r_263 ht h (i := i + 1) (by omega) b1
    rw [b2] at S
    exact RB_if S (fun q => RB_1 (Or.inl ⟨p, e, q⟩)) (fun q => RB_iff (D _ _) ⟨fun z => Or.inr z, fun z => z.resolve_left fun y => q y.2.2⟩)
  · next e => exact RB_iff (D _ _) ⟨fun z => Or.inr z, fun z => z.resolve_left fun y => e y.2.1⟩
/-- a function's first child is as strict as its body -/
theorem st_fn {r : cm_S} {T : tT} (h : rJ tx n r T) {σ : Int → Int} (st : stOk tx n T σ (tSz T)) {i : Int} (h0 : 0 ≤ i) (h1 : i < tSz T) (hk : (nLb (nT T i)).1 = 20 ∨ (nLb (nT T i)).1 = 39) : σ (i + 1) = σ (i + fLn (nCh (nT T i))) := by
  have g := h.g h0 h1
  have hc := gC_ne g.2.1 (by omega)
  obtain ⟨b1, b2, b3⟩ := nT_1 h0 h1 hc
  obtain ⟨c1, c2, c3, c4, c5, c6⟩ := r_258 h h0 h1 hk
  have k1 : (nLb (nT T (i + 1))).1 = 22 ∨ (nLb (nT T (i + 1))).1 = 23 := by
    obtain ⟨w, hw, h22⟩ : ∃ w, fK (nCh (nT T i)) = w ++ [23] ∧ ∀ x ∈ w, x = 22 := by
      have := g.2.1
      rcases hk with e | e <;> rw [e] at this <;> exact this
    rw [b2]
    cases hch : nCh (nT T i) with
    | leaf => exact absurd hch hc
    | inner x l u ch re =>
      rw [hch] at hw
      have hw' : l.1 :: fK re = w ++ [23] := hw
      show l.1 = 22 ∨ l.1 = 23
      cases w with
      | nil => exact Or.inr (List.cons.inj hw').1
      | cons a w => exact Or.inl ((List.cons.inj hw').1.trans (h22 a (List.mem_cons_self ..)))
  have s1 := st (i + 1) (by omega) b1
  have s2 := st _ c2 c3
  have e : stP tx n T σ (i + 1) ↔ stP tx n T σ (i + fLn (nCh (nT T i))) := by
    unfold stP
    rw [b3, c4]
    constructor
    · rintro (q | q | q)
      · omega
      · exact Or.inr (Or.inl ⟨by omega, q.2⟩)
      · exact Or.inr (Or.inr ⟨Or.inr c5, q.2⟩)
    · rintro (q | q | q)
      · omega
      · exact Or.inr (Or.inl ⟨by omega, q.2⟩)
      · exact Or.inr (Or.inr ⟨k1, q.2⟩)
  rw [e] at s1
  rcases s1 with ⟨q1, q2⟩ | ⟨q1, q2⟩
  · rcases s2 with ⟨r1, r2⟩ | ⟨r1, r2⟩
    · omega
    · exact absurd r2 q2
  · rcases s2 with ⟨r1, r2⟩ | ⟨r1, r2⟩
    · exact absurd q2 r2
    · omega
theorem r_262 (ht : tOk tx n) {r : cm_S} {T : tT} (h : rJ tx n r T) (hT : T.1.1 = 0) (st : stOk tx n T (fun j => r.2 55 (nO T j)) (tSz T)) {i : Int} (h0 : 0 ≤ i) (h1 : i < tSz T) : RB (cm_sem 262 [.inr (.inl 41), .inl (nO T i)] r) r (wS tx n T (fun j => r.2 55 (nO T j)) i) := by
  have o := h.no h0 h1
  have g := h.g h0 h1
  obtain ⟨g1, g2, g3, -⟩ := g.1
  -- from the strictness on
  have tail : ∀ (y s : Int) (o4 o5 : Option cm_V), (y = 0 ∨ y = 1) → (y = 1 ↔ ((nLb (nT T i)).1 = 20 ∨ (nLb (nT T i)).1 = 39)) → RB (cm_lp cm_sem cm_k262 31 [some (.inr (.inl 41)), some (.inl (nO T i)), some (.inl (nLb (nT T i)).1), some (.inl y), o4, o5] [.inl s] r) r (s ≠ 0 ∧ ((tgt (nT T i) ∧ fK0 (nCh (nT T i)) = 31 ∧ spc tx n (fL0 (nCh (nT T i)))) ∨ ((nLb (nT T i)).1 = 3 ∨ (nLb (nT T i)).1 = 22 ∨ (nLb (nT T i)).1 = 19 ∨ (nLb (nT T i)).1 = 20 ∨ (nLb (nT T i)).1 = 39) ∧ spc tx n (nLb (nT T i)) ∨ ((nLb (nT T i)).1 = 45 ∧ lbC (nLb (nT T i)) = 6 ∧ fK0 (nCh (nT T i)) = 31) ∨ ((nLb (nT T i)).1 = 22 ∨ (nLb (nT T i)).1 = 38) ∧ rep tx n T i (nPa (nT T i) + 1))) := fun y s o4 o5 hy hyk => by
    rw [cE_262_31, cF_262_31]
    split
    · next e => exact RB_0 fun q => q.1 e
    · next e =>
      have yes : ∀ (o3 o4 o5 : Option cm_V), ((nLb (nT T i)).1 = 3 ∨ (nLb (nT T i)).1 = 22 ∨ (nLb (nT T i)).1 = 19 ∨ (nLb (nT T i)).1 = 20 ∨ (nLb (nT T i)).1 = 39) → RB (cm_lp cm_sem cm_k262 53 [some (.inr (.inl 41)), some (.inl (nO T i)), some (.inl (nLb (nT T i)).1), o3, o4, o5] [] r) r (s ≠ 0 ∧ ((tgt (nT T i) ∧ fK0 (nCh (nT T i)) = 31 ∧ spc tx n (fL0 (nCh (nT T i)))) ∨ ((nLb (nT T i)).1 = 3 ∨ (nLb (nT T i)).1 = 22 ∨ (nLb (nT T i)).1 = 19 ∨ (nLb (nT T i)).1 = 20 ∨ (nLb (nT T i)).1 = 39) ∧ spc tx n (nLb (nT T i)) ∨ ((nLb (nT T i)).1 = 45 ∧ lbC (nLb (nT T i)) = 6 ∧ fK0 (nCh (nT T i)) = 31) ∨ ((nLb (nT T i)).1 = 22 ∨ (nLb (nT T i)).1 = 38) ∧ rep tx n T i (nPa (nT T i) + 1))) := fun o3 o4 o5 hk => by
        rw [cE_262_53, cF_262_53]
        refine RB_iff (rl_262c ht h hT h0 h1 _ _ _ 1) ⟨fun q => ⟨e, ?_⟩, fun q => ?_⟩
        · rcases q with q | q | q | q
          · exact Or.inl q
          · exact Or.inr (Or.inl ⟨hk, q.2⟩)
          · exact Or.inr (Or.inr (Or.inl q))
          · exact Or.inr (Or.inr (Or.inr q))
        · rcases q.2 with q | q | q | q
          · exact Or.inl q
          · exact Or.inr (Or.inl ⟨by decide, q.2⟩)
          · exact Or.inr (Or.inr (Or.inl q))
          · exact Or.inr (Or.inr (Or.inr q))
      have non : ∀ (o3 o4 o5 : Option cm_V), ¬ (((nLb (nT T i)).1 = 3 ∨ (nLb (nT T i)).1 = 22 ∨ (nLb (nT T i)).1 = 19 ∨ (nLb (nT T i)).1 = 20 ∨ (nLb (nT T i)).1 = 39) ∧ spc tx n (nLb (nT T i))) → RB (cm_lp cm_sem cm_k262 56 [some (.inr (.inl 41)), some (.inl (nO T i)), some (.inl (nLb (nT T i)).1), o3, o4, o5] [] r) r (s ≠ 0 ∧ ((tgt (nT T i) ∧ fK0 (nCh (nT T i)) = 31 ∧ spc tx n (fL0 (nCh (nT T i)))) ∨ ((nLb (nT T i)).1 = 3 ∨ (nLb (nT T i)).1 = 22 ∨ (nLb (nT T i)).1 = 19 ∨ (nLb (nT T i)).1 = 20 ∨ (nLb (nT T i)).1 = 39) ∧ spc tx n (nLb (nT T i)) ∨ ((nLb (nT T i)).1 = 45 ∧ lbC (nLb (nT T i)) = 6 ∧ fK0 (nCh (nT T i)) = 31) ∨ ((nLb (nT T i)).1 = 22 ∨ (nLb (nT T i)).1 = 38) ∧ rep tx n T i (nPa (nT T i) + 1))) := fun o3 o4 o5 hk => by
        rw [cE_262_56, cF_262_56]
        refine RB_iff (rl_262c ht h hT h0 h1 _ _ _ 0) ⟨fun q => ⟨e, ?_⟩, fun q => ?_⟩
        · rcases q with q | q | q | q
          · exact Or.inl q
          · exact absurd rfl q.1
          · exact Or.inr (Or.inr (Or.inl q))
          · exact Or.inr (Or.inr (Or.inr q))
        · rcases q.2 with q | q | q | q
          · exact Or.inl q
          · exact absurd q hk
          · exact Or.inr (Or.inr (Or.inl q))
          · exact Or.inr (Or.inr (Or.inr q))
      split
      · next e3 => exact yes _ _ _ (by omega)
      · next e3 =>
        split
        · next e22 => exact yes _ _ _ (by omega)
        · next e22 =>
          split
          · next e19 => exact yes _ _ _ (by omega)
          · next e19 =>
            split
            · next ey => exact non _ _ _ fun q => by omega
            · next ey =>
              rw [h.ln h0 h1]
              split
              · next el => exact yes _ _ _ (by omega)
              · next el =>
                refine non _ _ _ fun q => ?_
                rcases q.2 with z | z <;> omega
  rw [cS_262, cF_262_0, if_pos o, h.kd h0 h1]
  have fn : ((nLb (nT T i)).1 = 20 ∨ (nLb (nT T i)).1 = 39) → ∀ (o3 o4 o5 : Option cm_V), RB (cm_lp cm_sem cm_k262 16 [some (.inr (.inl 41)), some (.inl (nO T i)), some (.inl (nLb (nT T i)).1), o3, o4, o5] [.inl 1] r) r (wS tx n T (fun j => r.2 55 (nO T j)) i) := fun hk o3 o4 o5 => by
    obtain ⟨c1, c2, c3, c4, c5, c6⟩ := r_258 h h0 h1 hk
    have sf : r.2 55 (nO T (i + 1)) = r.2 55 (nO T (i + fLn (nCh (nT T i)))) := st_fn h st h0 h1 hk
    rw [cE_262_16, cF_262_16, if_neg (by decide), c1, cm_bi_i, if_pos (h.no c2 c3)]
    refine RB_iff (tail 1 _ _ _ (Or.inr rfl) ⟨fun _ => hk, fun _ => rfl⟩) ?_
    unfold wS
    simp only [sf]
    constructor
    · rintro ⟨q1, q | q | q | q⟩
      · have := q.1
        unfold tgt at this
        omega
      · exact Or.inl ⟨hk, q1, q.2⟩
      · omega
      · omega
    · rintro (q | q | q | q)
      · exact ⟨q.2.1, Or.inr (Or.inl ⟨by omega, q.2.2⟩)⟩
      · omega
      · omega
      · omega
  split
  · next e => rw [cE_262_12, cF_262_12]; exact fn (Or.inl e) _ _ _
  · next e =>
    split
    · next e2 => rw [cE_262_12, cF_262_12]; exact fn (Or.inr e2) _ _ _
    · next e2 =>
      rw [cE_262_16, cF_262_16, if_pos rfl, if_pos o]
      refine RB_iff (tail 0 _ _ _ (Or.inl rfl) ⟨fun z => absurd z (by decide), fun z => by omega⟩) ?_
      unfold wS
      simp only
      constructor
      · rintro ⟨q1, q | q | q | q⟩
        · have := q.1
          unfold tgt at this
          exact Or.inr (Or.inr (Or.inr ⟨by omega, q1, Or.inl q⟩))
        · exact Or.inr (Or.inl ⟨by omega, q1, q.2⟩)
        · exact Or.inr (Or.inr (Or.inr ⟨by omega, q1, Or.inr q⟩))
        · exact Or.inr (Or.inr (Or.inl ⟨q.1, q1, q.2⟩))
      · rintro (q | q | q | q)
        · omega
        · exact ⟨q.2.1, Or.inr (Or.inl ⟨by omega, q.2.2⟩)⟩
        · exact ⟨q.2.1, Or.inr (Or.inr (Or.inr ⟨q.1, q.2.2⟩))⟩
        · rcases q.2.2 with z | z
          · exact ⟨q.2.1, Or.inl z⟩
          · exact ⟨q.2.1, Or.inr (Or.inr (Or.inl z))⟩
end TX92
