/-! ===== BINARY, on ===== -/
section TX54
variable {tx : Int → Int} {n : Int}
/-- the strength of the token that comes, on both sides -/
theorem bi_st {t : tTk} (ok : tkOk t) {noIn : Int} (hN : noIn = 0 ∨ noIn = 1) : (if rNo t = 1013 ∧ noIn = 1 then 0 else stR (rNo t)) = if noIn = 0 then stC t.2.1 else if t.2.1 = 14 then 0 else stC t.2.1 := by
  have hs := st_rc ok
  have tn := tk_num ok
  rcases hN with rfl | rfl
  · rw [if_neg (fun z => absurd z.2 (by decide)), if_pos rfl]; exact hs
  · rw [if_neg (show ¬ (1 : Int) = 0 by decide)]
    by_cases h : t.2.1 = 14
    · rw [if_pos h, if_pos (by omega)]
    · rw [if_neg h, if_neg (by omega)]; exact hs
theorem bi_lp (ht : tOk tx n) {m : Nat} (hU : S_un tx n m) {b cn d rn noIn : Int} {W : List (Int × Int)} {V : List tT} {K : List rTs} {S : List rSg} (hno : noIn = 0 ∨ noIn = 1) (hb0 : 0 ≤ b) (hd : 1 ≤ d ∧ d ≤ 20) (hK : (K.length : Int) ≤ 20 * d + 4) (hS : (S.length : Int) = W.length ∧ (S.length : Int) ≤ 10 * d - 10) (hcb : 0 ≤ cn ∧ cn ≤ b + 2) (hrn : 0 ≤ rn ∧ rn + red K ≤ cn) : ∀ (j : Nat) (s : cm_S) (e i v hi : Int) (t : tTk) (sc : Int) (lf : Bool) (R : tT) (P : List tPd) (o6 o7 : Option cm_V), n - e < j → n - e < m → cSt tx n s e false t (cn + pdSz P + tSz R) sc (P.map pdW2 ++ W) → cPd s cn hi P → hi = cn + pdSz P → cTr s hi (cn + pdSz P + tSz R) v R → s.2 11 v = -1 → b + pdSz P + tSz R ≤ e → pdOk tx n P → gG tx n R → isE R.1.1 → (P = [] → stO b R) → (P = [] → lf = true → tWb 15 R ≤ 2 * (e - b)) → tWb 13 R + pdWt P ≤ 2 * (e - b) → s.1 1406 = (if P = [] then cm_n lf else 0) → 0 ≤ i → i ≤ e → OI tx n s cn (cm_lp cm_sem cm_k67 10 [some (.inr (.inl 14)), some (.inl d), some (.inl noIn), some (.inl (W.length : Int)), some (.inl v), some (.inl i), o6, o7] [] s) (e, d, rn + pdSz P - P.length + tSz R, sc, lf, R :: (P.map pdL ++ V), (11, S.length, noIn, 0, 0) :: K, P.map pdS ++ S) (Po tx n b cn rn d V K S W (xE b 3)) := by
  intro j
  induction j with
  | zero =>
    intro s e i v hi t sc lf R P o6 o7 hj _ hs
    have := hs.e0
    omega
  | succ j ih =>
    intro s e i v hi t sc lf R P o6 o7 hj hm hs hpd hhi htr hnx hsz hok hg hE hst hlf hwt hba hi0 hie
    have e0 := hs.e0
    have num := lxG_r4 ht e0.1 e0.2 hs.lx
    have tokk := (lxG_ok ht e0.1 e0.2 hs.lx).1
    have tz := tSz_1 R
    have hr0 := red_0 K
    have pz := pdSz_0 P
    have pl := pdOk_len P hok
    have hsq := bi_st tokk hno
    have hpos := pdOk_st P hok
    -- what is complete
    have main : ∀ st : Int, (if rNo t = 1013 ∧ noIn = 1 then 0 else stR (rNo t)) = st → OX tx n s cn (cm_bi (cm_sem 88 [.inr (.inl 14), .inl v, .inl st, .inl (W.length : Int)] s) fun z2 s2 => if st = 0 then some (.inl (some (.inl z2)), s2) else cm_bi (cm_sem 64 [.inr (.inl 14), .inl 46] s2) fun z3 s3 => cm_bv (cm_sem 58 [.inr (.inl 4), .inl z3, .inl z2] s3) fun s4 => cm_bv (cm_sem 89 [.inr (.inl 14), .inl z3, .inl st] s4) fun s5 => cm_bi (cm_sem 68 [.inr (.inl 14), .inl d] s5) fun z6 s6 => cm_lp cm_sem cm_k67 10 [some (.inr (.inl 14)), some (.inl d), some (.inl noIn), some (.inl (W.length : Int)), some (.inl z6), some (.inl (cm_w (i + 1))), some (.inl st), some (.inl z3)] [] (cm_p s6 1406 0)) (e, d, rn + pdSz P - P.length + tSz R, sc, lf, R :: (P.map pdL ++ V), (11, S.length, noIn, 0, 0) :: K, P.map pdS ++ S) (fun r s' c' => ∃ v, r = some (.inl v) ∧ Po tx n b cn rn d V K S W (xE b 3) v s' c') := by
      intro st hsteq
      have ck := pdClo_ok st P R hok hg hE
      have cz := pdClo_sz st P R
      have cl := pdClo_le st P R
      have hstb : 0 ≤ st ∧ st ≤ 10 := by
        rw [← hsteq]
        split
        · omega
        · rw [st_rc tokk]; exact stC_b _
      refine X_close (hi := hi) hs hpd htr hnx (by omega) (by omega) hcb.1 fun v' s1 hi' k1 b1 st1 pd1 tr1 nx1 => ?_
      have hge1 := cPd_ge _ _ pd1
      by_cases h0 : st = 0
      · rw [if_pos h0]
        subst h0
        have hall := pdClo_all P R hok
        have hw := pdClo_w (tx := tx) (n := n) 0 3 (Or.inr ⟨rfl, by decide⟩) P R 13 (2 * (e - b) - pdWt P) hok (by omega) (by
          cases P with
          | nil => trivial
          | cons q P =>
            have := stC_b (pdC q)
            show stC (pdC q) < 13 - 2
            omega) (by decide)
        have hT := t_sgE (tx := tx) (n := n) (V0 := V) (S0 := S) (P := P) (r := R) (K := K) (d := d) (rn := rn + pdSz P - P.length + tSz R) (pu := sc) (b := noIn) (c := 0) (x := 0) (lf := lf) ht hs.lx hsteq hpos (by omega) (by omega) (by omega)
        rw [hall] at hT st1 pd1 cz hw ck
        have hi'e : hi' = cn := pd1
        have cz' : tSz (pdClo 0 R P).1 = tSz R + pdSz P := by
          have : pdSz [] = 0 := rfl
          omega
        refine OX_to hT (OX_reti ⟨v', rfl, e, t, sc, if ([] : List tPd).length = P.length then lf else false, (pdClo 0 R P).1, ?_, ?_, ?_, nx1, by omega, ck.2.2.1, ck.2.2.2.1, ?_, ?_, ?_, ?_⟩)
        · rw [cz', show cn + (tSz R + pdSz P) = cn + pdSz P + tSz R by omega]
          exact st1
        · rw [cz', show rn + (tSz R + pdSz P) = rn + pdSz P - P.length + tSz R + ((P.length : Int) - (([] : List tPd).length : Nat)) by
            have : ((([] : List tPd).length : Nat) : Int) = 0 := rfl
            omega]
          rfl
        · rw [cz', show cn + (tSz R + pdSz P) = cn + pdSz P + tSz R by omega, ← hi'e]
          rw [hi'e] at tr1 ⊢
          exact tr1
        · by_cases hP : P = []
          · subst hP
            exact hst rfl
          · intro z34
            have hl : ([] : List tPd).length ≠ P.length := by
              intro z
              exact hP (List.length_eq_zero_iff.mp z.symm)
            have := ck.2.2.2.2 hl
            omega
        · have : pdWt [] = 0 := rfl
          omega
        · rw [b1, hba]
          by_cases hP : P = []
          · subst hP; rw [if_pos rfl, if_pos rfl]
          · rw [if_neg hP, if_neg (fun z => hP (List.length_eq_zero_iff.mp z.symm))]
            rfl
        · intro hl
          by_cases hP : P = []
          · subst hP
            exact hlf rfl hl
          · rw [if_neg (fun z => hP (List.length_eq_zero_iff.mp z.symm))] at hl
            cases hl
      · rw [if_neg h0]
        have hw := pdClo_w (tx := tx) (n := n) st (2 + st) (Or.inl (Int.le_refl _)) P R 13 (2 * (e - b) - pdWt P) hok (by omega) (by
          cases P with
          | nil => trivial
          | cons q P =>
            have := stC_b (pdC q)
            show stC (pdC q) < 13 - 2
            omega) (by omega)
        have hst1 : stC t.2.1 = st := by
          rw [hsq] at hsteq
          split at hsteq
          · exact hsteq
          · split at hsteq
            · omega
            · exact hsteq
        have hstr : stR (rNo t) = st := by rw [st_rc tokk]; exact hst1
        have hkd : t.1 = 6 ∨ t.1 = 2 := by
          have tn := tk_num tokk
          apply Decidable.byContradiction
          intro z
          have : t.2.1 = 0 := by omega
          rw [this] at hst1
          have : stC 0 = 0 := by decide
          omega
        have hlt : t.2.2.1 < t.2.2.2.1 := ((tok_k ht e0.1 e0.2 hs.lx).2.2.2.1 (by omega)).2
        have hT := t_sgS (tx := tx) (n := n) (V0 := V) (S0 := S) (P := P) (r := R) (K := K) (d := d) (rn := rn + pdSz P - P.length + tSz R) (pu := sc) (b := noIn) (c := 0) (x := 0) (lf := lf) (st := st) ht hs.lx hsteq (by omega) hpos (by omega) (by omega) (by omega)
        generalize pdClo st R P = RP at ck cz cl st1 pd1 tr1 hge1 hw hT
        obtain ⟨R1, P1⟩ := RP
        simp only at ck cz cl st1 pd1 tr1 hge1 hw hT
        obtain ⟨c1, c2, c3, c4, c5⟩ := ck
        have pz1 := pdSz_0 P1
        have pl1 := pdOk_len P1 c1
        have tz1 := tSz_1 R1
        have hP1 : (P1.length : Int) + 1 ≤ st := by
          cases P1 with
          | nil => show ((0 : Nat) : Int) + 1 ≤ st; omega
          | cons q Q =>
            have h1 : stC (pdC q) < st := c2
            have h2 := c1.1
            rw [List.length_cons]
            omega
        refine OX_to hT ?_
        refine X_of ht st1 (by omega) (by omega) (by omega) (fun hN' => dm_120 ht (m := (R1 :: (P1.map pdL ++ V)).length) _ _ _ _ _ _ (by omega) (by omega) hN' rfl (by simp only [red_co]; simp; omega) (by simp only [List.length_cons]; omega)) fun t2 s2 hT2 k2 b2 n2' st2 => ?_
        have e02 := st2.e0
        have num2 := lxG_r4 ht e02.1 e02.2 st2.lx
        have vin := cTr_in tr1
        refine X_add0 st2 (by omega) n2' (cTr_fr tr1 k2 (Int.le_refl _)) (by rw [k2 11 v' (by omega) (by omega) (by omega)]; exact nx1) (by omega) hge1 fun s3 k3 b3 n3' st3 => ?_
        refine X_hold st3 (by rw [List.length_append, List.length_map]; omega) fun s4 r4 b4 st4 => ?_
        have n4' : cNo s4 (cn + pdSz P + tSz R + 1) (cn + pdSz P + tSz R) (46, t.2.2.1, t.2.2.2.1 - t.2.2.1, t.2.1) hi' [R1] := cNo_fr n3' (m := cn + pdSz P + tSz R + 1) (fun a i a1 a2 _ => by rw [r4 a a1 a2]) (Int.le_refl _)
        have pd3 : cPd s3 cn hi' P1 := cPd_fr P1 hi' pd1 (k2.tr k3 (show hi' ≤ cn + pdSz P + tSz R by omega) (Int.le_refl _)) (Int.le_refl _)
        have pd4 : cPd s4 cn (cn + pdSz P + tSz R + 1) ((cn + pdSz P + tSz R, rNo t, t.2.2.1, t.2.2.2.1 - t.2.2.1, t.2.1, R1) :: P1) := ⟨rfl, hi', n4', cPd_fr P1 hi' pd3 (m := hi') (fun a i a1 a2 _ => by rw [r4 a a1 a2]) (Int.le_refl _)⟩
        have wl4 : (((((cn + pdSz P + tSz R, rNo t, t.2.2.1, t.2.2.2.1 - t.2.2.1, t.2.1, R1) : tPd) :: P1).map pdW2 ++ W).length : Int) = P1.length + 1 + W.length := by simp only [List.map_cons, List.length_append, List.length_cons, List.length_map]; omega
        have sl4 : (((((cn + pdSz P + tSz R, rNo t, t.2.2.1, t.2.2.2.1 - t.2.2.1, t.2.1, R1) : tPd) :: P1).map pdS ++ S).length : Int) = P1.length + 1 + S.length := by simp only [List.map_cons, List.length_append, List.length_cons, List.length_map]; omega
        have vl4 : ((R1 :: (P1.map pdL ++ V)).length : Int) = 1 + P1.length + V.length := by simp only [List.length_append, List.length_cons, List.length_map]; omega
        have st4' : cSt tx n s4 t.2.2.2.1 false t2 (cn + pdSz P + tSz R + 1) sc ((((cn + pdSz P + tSz R, rNo t, t.2.2.1, t.2.2.2.1 - t.2.2.1, t.2.1, R1) : tPd) :: P1).map pdW2 ++ W) := by
          have z := st4
          rw [← hst1] at z
          exact z
        refine OX_bi (hU s4 t.2.2.2.1 false t2 (cn + pdSz P + tSz R + 1) sc ((((cn + pdSz P + tSz R, rNo t, t.2.2.1, t.2.2.2.1 - t.2.2.1, t.2.1, R1) : tPd) :: P1).map pdW2 ++ W) d (rn + pdSz P - P.length + tSz R + ((P.length : Int) - (P1.length : Nat))) (if P1.length = P.length then lf else false) (R1 :: (P1.map pdL ++ V)) ((11, S.length, noIn, 0, 0) :: K) ((((cn + pdSz P + tSz R, rNo t, t.2.2.1, t.2.2.2.1 - t.2.2.1, t.2.1, R1) : tPd) :: P1).map pdS ++ S) _ st4' (by omega) ⟨by omega, by omega, by simp only [List.length_cons]; omega, by omega, by omega, by omega, by omega, by omega, by simp only [red_co]; simp; omega⟩ (dm_11 ht (by omega) (by omega) (by omega) (by omega) (by omega)) ⟨fun hN' => b_120n (t := t) ht hN' (by omega) (by simp only [List.length_cons]; omega), fun t' h1 h2 => t_120p ht h1 h2 (by simp only [List.length_cons]; omega), fun t' h1 h2 => t_120l ht h1 h2 (by simp only [List.length_cons]; omega)⟩) (by omega) fun v5 s5 c5 f5 k5 q5 => ?_
        obtain ⟨e5, t5, sc5, lf5, T, st5, rfl, tr5, nx5, sz5, g5, x1, x2, x3, x4⟩ := q5
        have tz5 := tSz_1 T
        have e05 := st5.e0
        rw [cm_w_id (by omega) (by omega)]
        have eP : pdSz ((cn + pdSz P + tSz R, rNo t, t.2.2.1, t.2.2.2.1 - t.2.2.1, t.2.1, R1) :: P1) = 1 + tSz R1 + pdSz P1 := rfl
        have eW : pdWt ((cn + pdSz P + tSz R, rNo t, t.2.2.1, t.2.2.2.1 - t.2.2.1, t.2.1, R1) :: P1) = tWb (2 + stC t.2.1) R1 + 2 * (t.2.2.2.1 - t.2.2.1) + pdWt P1 := rfl
        rw [hst1] at eW
        have := ih (cm_p s5 1406 0) e5 (i + 1) v5 (cn + pdSz P + tSz R + 1) t5 sc5 lf5 T ((cn + pdSz P + tSz R, rNo t, t.2.2.1, t.2.2.2.1 - t.2.2.1, t.2.1, R1) :: P1) (some (.inl st)) (some (.inl (cn + pdSz P + tSz R))) (by omega) (by omega) (by
          rw [eP, show cn + (1 + tSz R1 + pdSz P1) + tSz T = cn + pdSz P + tSz R + 1 + tSz T by omega]
          exact cSt_p st5) (cPd_fr _ _ pd4 (k5.tr (cKp_row (s := s5) rfl _) (Int.le_refl _) (Int.le_refl _)) (Int.le_refl _)) (by omega) (by
          rw [eP, show cn + (1 + tSz R1 + pdSz P1) + tSz T = cn + pdSz P + tSz R + 1 + tSz T by omega]
          exact cTr_row tr5 rfl) nx5 (by omega) ⟨by show (P1.length : Int) + 1 ≤ stC t.2.1; omega, by show stR (rNo t) = stC t.2.1; omega, gT_tk ht e0.1 e0.2 hs.lx false (show (t.1 = 6 ∨ t.1 = 2) ∧ 1 ≤ stC t.2.1 from ⟨hkd, by omega⟩), c3, c4, by
            show pdTop P1 (stC t.2.1)
            rw [hst1]; exact c2, c1⟩ g5 x1 (fun z => absurd z (List.cons_ne_nil _ _)) (fun z => absurd z (List.cons_ne_nil _ _)) (by omega) (by rw [if_neg (List.cons_ne_nil _ _)]; exact cm_p_at) (by omega) (by omega)
        have eR : rn + pdSz ((cn + pdSz P + tSz R, rNo t, t.2.2.1, t.2.2.2.1 - t.2.2.1, t.2.1, R1) :: P1) - ((((cn + pdSz P + tSz R, rNo t, t.2.2.1, t.2.2.2.1 - t.2.2.1, t.2.1, R1) : tPd) :: P1).length : Nat) + tSz T = rn + pdSz P - P.length + tSz R + ((P.length : Int) - (P1.length : Nat)) + tSz T := by
          rw [eP, List.length_cons]
          omega
        rw [eR] at this
        exact OX_from (cFm_p (cFm_rf s5) (by omega)) (cKp_row rfl cn) this
    unfold OI
    rw [cE_67_10, cF_67_10, if_neg (by omega), hs.cd]
    rcases hno with rfl | rfl
    · rw [if_pos rfl, cs_87, cm_bi_i]
      rw [if_pos rfl] at hsq
      exact main _ hsq
    · rw [if_neg (by decide)]
      rw [if_neg (show ¬ (1 : Int) = 0 by decide)] at hsq
      by_cases h14 : t.2.1 = 14
      · rw [if_pos h14]
        rw [if_pos h14] at hsq
        have := main 0 hsq
        simp only [if_true] at this
        exact this
      · rw [if_neg h14, cs_87, cm_bi_i]
        rw [if_neg h14] at hsq
        exact main _ hsq
end TX54
