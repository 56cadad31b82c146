/-! ===== parse() on both sides (2) ===== -/
section TXc2
variable {tx : Int → Int} {n : Int}
/-- what comes behind read() in the class, where it has a tree -/
theorem c_20t (ht : tOk tx n) {s : cm_S} {T : tT} {t t' : Nat} (hc : cTr s 0 (tSz T) 0 T) (h410 : s.1 410 = tSz T) (hx : s.2 11 0 = -1) (hu : s.2 12 0 = -1) (hT : T.1.1 = 0) (g : gF tx n (fo [T])) (htx : cTx tx n s) (h6 : s.1 6 = t) (h7 : s.1 7 = t') (tt : t = 18 ∧ t' = 27 ∨ t = 27 ∧ t' = 18) (h9 : tSz T ≤ 482) (hw : tWt T ≤ 998) : ∃ σ : Int → Int, stOk tx n T σ (tSz T) ∧
    ((∀ j, 0 ≤ j → j < tSz T → ¬ bad tx n T σ j) → ∃ s6, (cm_bv (cm_sem 111 [.inr (.inl 4), .inr (.inl ((s.1 7).toNat)), .inl 0] (cm_p s 302 (s.1 1407))) fun s4 => cm_bv (cm_sem 115 [.inr (.inl 36), .inr (.inl ((s4.1 7).toNat))] s4) fun s5 => cm_bv (cm_sem 143 [.inr (.inl 37), .inr (.inl ((((s5.1 7).toNat) : Int).toNat))] (cm_p (cm_p s5 6 (((s5.1 7).toNat) : Int)) 7 (((s5.1 6).toNat) : Int))) fun s6 => if cm_cl ((s6.1 6).toNat) = 6 then some (.inl (some (.inl (s6.1 (100 * ((s6.1 6).toNat) + 8)))), s6) else none) = some (.inl (some (.inl (tSz T))), s6) ∧ cOut s6 (prT tx n T) ∧ s6.1 6 = t' ∧ s6.1 7 = t ∧ s6.1 (100 * t' + 8) = tSz T ∧ (∀ i, 0 ≤ i → i < tSz T → nC s6 t' i (nT T i) ∧ s6.2 (t' + 8) i = σ i) ∧ s6.1 101 = s.1 101) ∧
    ((∃ j, 0 ≤ j ∧ j < tSz T ∧ bad tx n T σ j) → ∃ s6, (cm_bv (cm_sem 111 [.inr (.inl 4), .inr (.inl ((s.1 7).toNat)), .inl 0] (cm_p s 302 (s.1 1407))) fun s4 => cm_bv (cm_sem 115 [.inr (.inl 36), .inr (.inl ((s4.1 7).toNat))] s4) fun s5 => cm_bv (cm_sem 143 [.inr (.inl 37), .inr (.inl ((((s5.1 7).toNat) : Int).toNat))] (cm_p (cm_p s5 6 (((s5.1 7).toNat) : Int)) 7 (((s5.1 6).toNat) : Int))) fun s6 => if cm_cl ((s6.1 6).toNat) = 6 then some (.inl (some (.inl (s6.1 (100 * ((s6.1 6).toNat) + 8)))), s6) else none) = some (.inr 0, s6) ∧ s6.1 6 = s.1 6 ∧ s6.1 7 = s.1 7 ∧ s6.1 101 = s.1 101 ∧ s6.1 3706 = s.1 3706 ∧ s6.1 (100 * t + 8) = s.1 (100 * t + 8) ∧ ∀ a : Nat, a = 2 ∨ a = 38 ∨ t + 1 ≤ a ∧ a ≤ t + 8 → s6.2 a = s.2 a) := by
  have it' : isTr t' := by unfold isTr; omega
  have tz := tSz_1 T
  have e7 : (s.1 7).toNat = t' := by rw [h7]; rfl
  rw [e7]
  obtain ⟨s4, e4, a4, b4, z4, f4⟩ := cs_111 it' (s := cm_p s 302 (s.1 1407)) (T := T) (cTr_row hc rfl) (by rw [cm_p_ne (by decide)]; exact h410) (by omega) hx hu
  have k4 : ∀ j : Nat, j ≠ 100 * t' + 8 → j ≠ 302 → s4.1 j = s.1 j := fun j n1 n2 => by rw [a4 j n1, cm_p_ne n2]
  have r4 : ∀ a : Nat, a ≠ 13 → ¬ (t' + 1 ≤ a ∧ a ≤ t' + 8) → s4.2 a = s.2 a := fun a n1 n2 => by rw [b4 a n1 n2]; rfl
  have s47 : s4.1 7 = t' := by rw [k4 7 (by omega) (by decide)]; exact h7
  have tx4 : cTx tx n s4 := ⟨by rw [k4 102 (by omega) (by decide)]; exact htx.1, fun j a b => by rw [r4 2 (by decide) (by omega)]; exact htx.2 j a b⟩
  obtain ⟨s1, a1, b1, st1, good, badc⟩ := c_115 ht it' z4 h9 tx4 f4 g hT
  have k1 : ∀ j : Nat, j ≠ 3602 → s1.1 j = s4.1 j := fun j hj => by rw [a1, cm_p_ne hj]
  refine ⟨s1.2 (t' + 8), st1, fun hg => ?_, fun hb => ?_⟩
  · have e5 := good hg
    have e47 : (s4.1 7).toNat = t' := by rw [s47]; rfl
    rw [e4, cm_bv_o, e47, e5, cm_bv_o]
    have s17 : s1.1 7 = t' := by rw [k1 7 (by decide)]; exact s47
    have s16 : s1.1 6 = t := by rw [k1 6 (by decide), k4 6 (by omega) (by decide)]; exact h6
    have e17 : (s1.1 7).toNat = t' := by rw [s17]; rfl
    have e16 : (s1.1 6).toNat = t := by rw [s16]; rfl
    rw [e17, e16, show (((t' : Nat) : Int)).toNat = t' from rfl]
    have cj : cJ tx n (cm_p (cm_p s1 6 (t' : Int)) 7 (t : Int)) t' T := ⟨it', by rw [cm_p_ne (by decide), cm_p_ne (by decide), a1, cm_p_at], by rw [cm_p_ne (by omega), cm_p_ne (by omega), k1 _ (by omega)]; exact z4, h9, ⟨by rw [cm_p_ne (by decide), cm_p_ne (by decide), k1 102 (by decide)]; exact tx4.1, fun j a b => by
      show s1.2 2 j = _
      rw [b1 2 (by omega)]
      exact tx4.2 j a b⟩, cFl_fr (s := s4) _ _ _ _ (fun a i c1 c2 _ _ => by
      show s1.2 a i = _
      rw [b1 a (by omega)]) f4, g⟩
    have len := prT_len ht hT g
    obtain ⟨s6, e6, o6, b6, a6⟩ := c_143 ht cj hT (by omega)
    have cj6 : cJ tx n s6 t' T := ⟨it', by rw [a6 3602 (by decide) (by decide) (by decide)]; exact cj.2.1, by rw [a6 _ (by omega) (by omega) (by omega)]; exact cj.2.2.1, h9, ⟨by rw [a6 102 (by decide) (by decide) (by decide)]; exact cj.2.2.2.2.1.1, fun j a b => by rw [b6 2 (by decide) (by decide) (by decide)]; exact cj.2.2.2.2.1.2 j a b⟩, cFl_fr (s := cm_p (cm_p s1 6 (t' : Int)) 7 (t : Int)) _ _ _ _ (fun a i c1 c2 _ _ => by rw [b6 a (by omega) (by omega) (by omega)]) cj.2.2.2.2.2.1, g⟩
    have f66 : s6.1 6 = t' := by rw [a6 6 (by decide) (by decide) (by decide), cm_p_ne (by decide), cm_p_at]
    have f67 : s6.1 7 = t := by rw [a6 7 (by decide) (by decide) (by decide), cm_p_at]
    have e66 : (s6.1 6).toNat = t' := by rw [f66]; rfl
    refine ⟨s6, ?_, o6, f66, f67, cj6.2.2.1, fun i h0 h1 => ⟨cj6.c h0 h1, ?_⟩, ?_⟩
    · rw [e6, cm_bv_o, e66, if_pos (tr_f it').1, cj6.2.2.1]
    · rw [b6 (t' + 8) (by omega) (by omega) (by omega)]
      rfl
    · rw [a6 101 (by decide) (by decide) (by decide), cm_p_ne (by decide), cm_p_ne (by decide), k1 101 (by decide), k4 101 (by omega) (by decide)]
  · obtain ⟨s2, e5, b2, a2⟩ := badc hb
    have e47 : (s4.1 7).toNat = t' := by rw [s47]; rfl
    rw [e4, cm_bv_o, e47, e5, cm_bv_t]
    have k2 : ∀ j : Nat, j ≠ 300 → j ≠ 301 → j ≠ 302 → j ≠ 3602 → j ≠ 100 * t' + 8 → s2.1 j = s.1 j := fun j n1 n2 n3 n4 n5 => by rw [a2 j n1 n2, k1 j n4, k4 j n5 n3]
    refine ⟨s2, rfl, k2 6 (by decide) (by decide) (by decide) (by decide) (by omega), k2 7 (by decide) (by decide) (by decide) (by decide) (by omega), k2 101 (by decide) (by decide) (by decide) (by decide) (by omega), k2 3706 (by decide) (by decide) (by decide) (by decide) (by omega), k2 _ (by omega) (by omega) (by omega) (by omega) (by omega), fun a ha => ?_⟩
    rw [b2, b1 a (by omega), r4 a (by omega) (by omega)]
end TXc2
theorem tOk_FI {s r : cm_S} (h : FI s r) : tOk (fun j => s.2 2 j) (s.1 101) := ⟨h.2.2.2.2.2.1, h.2.2.2.2.2.2.1, fun j a b => (h.2.2.2.2.2.2.2.1 j a b).2⟩
/-- parse(): both come back with the same number, or the class throws and the reference says so -/
theorem both_parse {s r : cm_S} (h : FI s r) :
    (∃ z s' r', cm_sem 20 [.inr (.inl 0)] s = some (.inl (some (.inl z)), s') ∧ cm_sem 174 [.inr (.inl 41)] r = some (.inl (some (.inl z)), r') ∧ r'.1 4103 = 0 ∧ FI s' r') ∨
    (∃ z s' r', cm_sem 20 [.inr (.inl 0)] s = some (.inr 0, s') ∧ cm_sem 174 [.inr (.inl 41)] r = some (.inl (some (.inl z)), r') ∧ r'.1 4103 = 1 ∧ FI s' r') := by
  have ht := tOk_FI h
  obtain ⟨⟨t, t', h6, h7, tt, hz, htr⟩, c0, c9, hth, hty, y0, y9, htp, hpr, p0, p9, hpt⟩ := h
  generalize hn : s.1 101 = n at *
  generalize htx : (fun j => s.2 2 j) = tx at *
  have etx : ∀ j, tx j = s.2 2 j := fun j => by rw [← htx]
  -- the class, up to read()
  rw [cS_20, cF_20_0, cS_21, cF_21_0, cm_bv_o, cS_22, cF_22_0, cm_bv_o]
  have k2 : ∀ j : Nat, j ≠ 102 → j ≠ 101 → j ≠ 300 → j ≠ 301 → j ≠ 302 → (cm_p (cm_p (cm_p (cm_p (cm_p s 102 (s.1 101)) 101 0) 300 0) 301 (-1)) 302 0).1 j = s.1 j := fun j n1 n2 n3 n4 n5 => by rw [cm_p_ne n5, cm_p_ne n4, cm_p_ne n3, cm_p_ne n2, cm_p_ne n1]
  have k2y : (cm_p (cm_p (cm_p (cm_p (cm_p s 102 (s.1 101)) 101 0) 300 0) 301 (-1)) 302 0).1 101 = 0 := by rw [cm_p_ne (by decide), cm_p_ne (by decide), cm_p_ne (by decide), cm_p_at]
  have t2 : cTx tx n (cm_p (cm_p (cm_p (cm_p (cm_p s 102 (s.1 101)) 101 0) 300 0) 301 (-1)) 302 0) := ⟨by rw [cm_p_ne (by decide), cm_p_ne (by decide), cm_p_ne (by decide), cm_p_ne (by decide), cm_p_at]; exact hn, fun j _ _ => (etx j).symm⟩
  have r2 : (cm_p (cm_p (cm_p (cm_p (cm_p s 102 (s.1 101)) 101 0) 300 0) 301 (-1)) 302 0).2 = s.2 := rfl
  generalize cm_p (cm_p (cm_p (cm_p (cm_p s 102 (s.1 101)) 101 0) 300 0) 301 (-1)) 302 0 = s2 at *
  -- the reference, up to readAll()
  rw [cS_174, cF_174_0]
  have q0 : (cm_p (cm_p r 4107 (r.1 4106)) 4106 0).1 4107 = n := by rw [cm_p_ne (by decide), cm_p_at]; exact hty.symm
  obtain ⟨r1, e1, a1, b1, c1, -⟩ := rl_174 none none none n.toNat 0 (cm_p (cm_p r 4107 (r.1 4106)) 4106 0) (Int.le_refl _) (by rw [q0]; omega) (by rw [q0]; omega) (fun i i0 i1 => by
    rw [q0] at i1
    have := htp i i0 i1
    show -128 ≤ r.2 45 i ∧ r.2 45 i < 128
    rw [← this.1]
    have := this.2
    omega)
  rw [e1, q0, cE_174_10, cF_174_10, if_neg (by rw [a1, q0]; omega)]
  have rx : rTx tx n r1 := ⟨by rw [a1]; exact q0, fun j a b => by
    rw [c1 j a (by rw [q0]; exact b)]
    show r.2 45 j = tx j
    rw [etx, (htp j a b).1]⟩
  have kr : ∀ j : Nat, j ≠ 4106 → j ≠ 4107 → r1.1 j = r.1 j := fun j n1 n2 => by rw [a1, cm_p_ne n1, cm_p_ne n2]
  have kr6 : r1.1 4106 = 0 := by rw [a1, cm_p_at]
  rcases both_read ht t2 rx with ⟨s3, r3, T, e3, f3, e4, f4, ok⟩ | ⟨s3, r3, z, e3, f3, e4, f4, bd⟩
  · obtain ⟨o1, o2, o3, o4, o5, o6, o7, o8, og, oT, osz, owt⟩ := ok
    have hT : T.1.1 = 0 := by rw [oT]
    have gf : gF tx n (fo [T]) := ⟨og.1, og.2.1, og.2.2.1, og.2.2.2, trivial⟩
    rw [e3, cm_bi_i, e4, cm_bi_i, if_neg (by omega)]
    have tx3 : cTx tx n s3 := ⟨by rw [f3.2 102 (by omega)]; exact t2.1, fun j a b => by rw [f3.1 2 (by omega)]; exact t2.2 j a b⟩
    have rx3 : rTx tx n r3 := ⟨by rw [f4.2 4107 (by omega)]; exact rx.1, fun j a b => by rw [f4.1 46 (by omega)]; exact rx.2 j a b⟩
    have s36 : s3.1 6 = t := by rw [f3.2 6 (by omega), k2 6 (by decide) (by decide) (by decide) (by decide) (by decide)]; exact h6
    have s37 : s3.1 7 = t' := by rw [f3.2 7 (by omega), k2 7 (by decide) (by decide) (by decide) (by decide) (by decide)]; exact h7
    have n9 := ht.2.1
    obtain ⟨σ, st, cg, cb⟩ := c_20t ht o2 o1 o3 o4 hT gf tx3 s36 s37 tt (by omega) (by omega)
    obtain ⟨-, σ', st', rg, rb⟩ := r_174t ht o5 hT gf rx3 o7 (by omega) (by omega) none none
    have be : ∀ j, 0 ≤ j → j < tSz T → (bad tx n T σ' j ↔ bad tx n T σ j) := fun j a b => bad_eq hT gf st st' a b
    have se : ∀ j, 0 ≤ j → j < tSz T → σ' j = σ j := fun j a b => stOk_u hT (Int.le_refl _) st st' (tSz T).toNat (by omega) j a (by omega)
    by_cases hb : ∃ j, 0 ≤ j ∧ j < tSz T ∧ bad tx n T σ j
    · right
      obtain ⟨s6, u1, u2, u3, u4, u5, u6, u7⟩ := cb hb
      obtain ⟨r6, v1, v2, v3, v4, v5, v6, v7, v8, v9⟩ := rb (by
        obtain ⟨j, j0, j1, jb⟩ := hb
        exact ⟨j, j0, j1, (be j j0 j1).mpr jb⟩)
      refine ⟨0, s6, r6, u1, v1, v2, ?_⟩
      have s3k : ∀ j : Nat, ¬ (j = 300 ∨ j = 301 ∨ j = 410 ∨ 1405 ≤ j ∧ j ≤ 1507) → j ≠ 102 → j ≠ 101 → j ≠ 302 → s3.1 j = s.1 j := fun j n1 n2 n3 n4 => by rw [f3.2 j n1, k2 j n2 n3 (by omega) (by omega) n4]
      have s3r : ∀ a : Nat, ¬ (5 ≤ a ∧ a ≤ 17) → s3.2 a = s.2 a := fun a ha => by rw [f3.1 a ha, r2]
      have r3k : ∀ j : Nat, ¬ (4108 ≤ j ∧ j ≤ 4141) → j ≠ 4106 → j ≠ 4107 → r3.1 j = r.1 j := fun j n1 n2 n3 => by rw [f4.2 j n1, kr j n2 n3]
      have r3r : ∀ a : Nat, ¬ (47 ≤ a ∧ a ≤ 64) → a ≠ 46 → r3.2 a = r.2 a := fun a n1 n2 => by rw [f4.1 a n1, b1 a n2]; rfl
      have z43 : r6.1 4143 = r.1 4143 := by rw [v3, r3k 4143 (by omega) (by decide) (by decide)]
      have y6 : s6.1 101 = 0 := by rw [u4, f3.2 101 (by omega), k2y]
      have yr : r6.1 4106 = 0 := by rw [v5, f4.2 4106 (by omega), kr6]
      have p6 : s6.1 3706 = s.1 3706 := by rw [u5, s3k 3706 (by omega) (by decide) (by decide) (by decide)]
      refine ⟨⟨t, t', by rw [u2]; exact s36, by rw [u3]; exact s37, tt, ?_, fun i i0 i1 => ?_⟩, by rw [z43]; exact c0, by rw [z43]; exact c9, ?_, by rw [y6, yr], by rw [y6]; decide, by rw [y6]; decide, fun i i0 i1 => by rw [y6] at i1; omega, ?_, by rw [p6]; exact p0, by rw [p6]; exact p9, fun i i0 i1 => ?_⟩
      · rw [u6, s3k _ (by omega) (by omega) (by omega) (by omega), z43]
        exact hz
      · rw [z43] at i1
        have e := htr i i0 i1
        unfold trE at e ⊢
        rw [v8, r3r 67 (by omega) (by decide), u7 (t + 1) (by omega), u7 (t + 2) (by omega), u7 (t + 3) (by omega), u7 (t + 5) (by omega), u7 (t + 7) (by omega), u7 (t + 8) (by omega), s3r (t + 1) (by omega), s3r (t + 2) (by omega), s3r (t + 3) (by omega), s3r (t + 5) (by omega), s3r (t + 7) (by omega), s3r (t + 8) (by omega)]
        exact e
      · rw [v4, z43, r3k 4142 (by omega) (by decide) (by decide)]
        exact hth
      · rw [p6, v6, r3k 4148 (by omega) (by decide) (by decide)]
        exact hpr
      · rw [p6] at i1
        rw [u7 38 (by omega), s3r 38 (by omega), v9, r3r 68 (by omega) (by decide)]
        exact hpt i i0 i1
    · left
      have hg : ∀ j, 0 ≤ j → j < tSz T → ¬ bad tx n T σ j := fun j a b q => hb ⟨j, a, b, q⟩
      obtain ⟨s6, u1, u2, u3, u4, u5, u6, u7⟩ := cg hg
      obtain ⟨r6, v1, v2, v3, v4, v5, v6, v7, v8⟩ := rg (fun j a b q => hg j a b ((be j a b).mp q))
      have tz := tSz_1 T
      refine ⟨tSz T, s6, r6, u1, v1, v6, ⟨t', t, u3, u4, by omega, by rw [u5, v4], fun i i0 i1 => ?_⟩, by rw [v4]; omega, by rw [v4]; omega, ?_, ?_, ?_, ?_, fun i i0 i1 => ?_, ?_, ?_, ?_, ?_⟩
      · rw [v4] at i1
        obtain ⟨d1, d2, d3, d4, d5, d6, d7, -, -⟩ := (u6 i i0 i1).1
        obtain ⟨g0, g1, g2, g3, g4, g5⟩ := v3 i i0 i1
        have g5' : r6.2 67 (6 * i + 5) = σ' i := g5
        have st8 := st i i0 i1
        have u8 := (u6 i i0 i1).2
        exact ⟨d1.trans g0.symm, d2.trans g1.symm, d3.trans g2.symm, d7.trans g3.symm, d5.trans g4.symm, by rw [u8, g5', se i i0 i1], by rw [u8]; omega⟩
      · rw [v5, v4, if_neg (by omega)]
      · rw [u7, f3.2 101 (by omega), k2y, v7, f4.2 4106 (by omega), kr6]
      · rw [u7, f3.2 101 (by omega), k2y]; decide
      · rw [u7, f3.2 101 (by omega), k2y]; decide
      · rw [u7, f3.2 101 (by omega), k2y] at i1; omega
      · rw [u2.1, v2.1]
      · rw [u2.1]; omega
      · rw [u2.1]
        have := prT_len ht hT gf
        omega
      · intro i i0 i1
        rw [u2.1] at i1
        exact out_eq _ u2.2.2 v2.2.2.2 (prT_ok ht gf) i i0 i1
  · right
    rw [e3, cm_bi_t, e4, cm_bi_i, if_pos bd, if_pos bd, if_pos bd]
    have s3k : ∀ j : Nat, ¬ (j = 300 ∨ j = 301 ∨ j = 410 ∨ 1405 ≤ j ∧ j ≤ 1507) → j ≠ 102 → j ≠ 101 → j ≠ 302 → s3.1 j = s.1 j := fun j n1 n2 n3 n4 => by rw [f3.2 j n1, k2 j n2 n3 (by omega) (by omega) n4]
    have s3r : ∀ a : Nat, ¬ (5 ≤ a ∧ a ≤ 17) → s3.2 a = s.2 a := fun a ha => by rw [f3.1 a ha, r2]
    have r3k : ∀ j : Nat, ¬ (4108 ≤ j ∧ j ≤ 4141) → j ≠ 4106 → j ≠ 4107 → j ≠ 4103 → (cm_p (cm_p r3 4110 0) 4103 1).1 j = r.1 j := fun j n1 n2 n3 n4 => by rw [cm_p_ne n4, cm_p_ne (by omega), f4.2 j n1, kr j n2 n3]
    have r3r : ∀ a : Nat, ¬ (47 ≤ a ∧ a ≤ 64) → a ≠ 46 → (cm_p (cm_p r3 4110 0) 4103 1).2 a = r.2 a := fun a n1 n2 => by
      show r3.2 a = r.2 a
      rw [f4.1 a n1, b1 a n2]; rfl
    have z43 : (cm_p (cm_p r3 4110 0) 4103 1).1 4143 = r.1 4143 := r3k 4143 (by omega) (by decide) (by decide) (by decide)
    have y6 : s3.1 101 = 0 := by rw [f3.2 101 (by omega), k2y]
    have yr : (cm_p (cm_p r3 4110 0) 4103 1).1 4106 = 0 := by rw [cm_p_ne (by decide), cm_p_ne (by decide), f4.2 4106 (by omega), kr6]
    have p6 : s3.1 3706 = s.1 3706 := s3k 3706 (by omega) (by decide) (by decide) (by decide)
    refine ⟨0, s3, _, rfl, rfl, cm_p_at, ⟨t, t', by rw [s3k 6 (by omega) (by decide) (by decide) (by decide)]; exact h6, by rw [s3k 7 (by omega) (by decide) (by decide) (by decide)]; exact h7, tt, ?_, fun i i0 i1 => ?_⟩, by rw [z43]; exact c0, by rw [z43]; exact c9, ?_, by rw [y6, yr], by rw [y6]; decide, by rw [y6]; decide, fun i i0 i1 => by rw [y6] at i1; omega, ?_, by rw [p6]; exact p0, by rw [p6]; exact p9, fun i i0 i1 => ?_⟩
    · rw [s3k _ (by omega) (by omega) (by omega) (by omega), z43]
      exact hz
    · rw [z43] at i1
      have e := htr i i0 i1
      unfold trE at e ⊢
      rw [r3r 67 (by omega) (by decide), s3r (t + 1) (by omega), s3r (t + 2) (by omega), s3r (t + 3) (by omega), s3r (t + 5) (by omega), s3r (t + 7) (by omega), s3r (t + 8) (by omega)]
      exact e
    · rw [z43, r3k 4142 (by omega) (by decide) (by decide) (by decide)]
      exact hth
    · rw [p6, r3k 4148 (by omega) (by decide) (by decide) (by decide)]
      exact hpr
    · rw [p6] at i1
      rw [s3r 38 (by omega), r3r 68 (by omega) (by decide)]
      exact hpt i i0 i1
