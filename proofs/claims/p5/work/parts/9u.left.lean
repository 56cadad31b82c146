/-! ===== LEFT, MEMBER ===== -/
section TX50
variable {tx : Int → Int} {n : Int}
/-- what operandOrNew() of the reference does -/
def HdC (tx : Int → Int) (n : Int) (c : rC) (e d rn sc : Int) (lf : Bool) (V : List tT) (K : List rTs) (S : List rSg) (y : Int) : Prop := (∀ t, lxG tx n true e = some t → rNo t = 1015 → rTo tx n c (t.2.2.2.1, d, rn, sc, lf, V, (15, 0, 0, 0, 0) :: (4, 0, 0, 0, 0) :: (17, t.2.2.1, V.length, 0, 0) :: (16, y, 0, 0, 0) :: K, S)) ∧ ∀ t, lxG tx n true e = some t → rNo t ≠ 1015 → rTo tx n c (e, d, rn, sc, lf, V, (20, 0, 0, 0, 0) :: (16, y, 0, 0, 0) :: K, S)
/-- .. and what it leaves: with calls (y = 1) or without -/
def xH (y b : Int) (_ : cm_S) (e' : Int) (_ : tTk) (_ : Bool) (T : tT) : Prop := isE T.1.1 ∧ stO b T ∧ tWb 15 T ≤ 2 * (e' - b) ∧ (y = 0 → tCa T = true → tWt T + 2 ≤ 2 * (e' - b))
/-- MEMBER -/
def S_me (tx : Int → Int) (n : Int) (m : Nat) : Prop := ∀ (s : cm_S) (e : Int) (t : tTk) (cn sc : Int) (W : List (Int × Int)) (d rn : Int) (lf : Bool) (V : List tT) (K : List rTs) (S : List rSg) (c : rC), cSt tx n s e true t cn sc W → n - e < m → Nu t.2.2.1 cn rn d 2 5 K S W → Dm tx n K (V.length + 1) S → HdC tx n c e d rn sc lf V K S 0 → OI tx n s cn (cm_sem 73 [.inr (.inl 14), .inl d] s) c (Po tx n t.2.2.1 cn rn d V K S W (xH 0 t.2.2.1))
theorem fSz_1 (T : tT) : fSz (fo [T]) = tSz T := by
  show 1 + fSz T.2 + 0 = 1 + fSz T.2
  omega
theorem tCa_B {T : tT} (h : tCa T = true) : tB T.1 = 15 := by
  unfold tCa at h
  unfold tB
  by_cases h1 : T.1.1 = 40 ∨ T.1.1 = 41
  · rw [if_neg (by omega), if_neg (by omega), if_neg (by omega), if_neg (by omega), if_neg (by omega), if_neg (by omega)]
  · rw [if_neg h1] at h
    have := of_decide_eq_true h
    rw [if_neg (by omega), if_neg (by omega), if_neg (by omega), if_neg (by omega), if_neg (by omega), if_neg (by omega)]
/-- . NAME, [ X ] -/
theorem ac_of (ht : tOk tx n) {m : Nat} (hx : S_x tx n m) {s : cm_S} {e b cn sc v d rn y : Int} {t : tTk} {W : List (Int × Int)} {lf : Bool} {V : List tT} {K : List rTs} {S : List rSg} {T : tT} (hs : cSt tx n s e false t (cn + tSz T) sc W) (hm : n - e ≤ m) (h46 : t.2.1 = 46 ∨ t.2.1 = 91) (htr : cTr s cn (cn + tSz T) v T) (hnx : s.2 11 v = -1) (hb0 : 0 ≤ b ∧ b + tSz T ≤ e) (hg : gG tx n T) (hX : xH y b s e t lf T) (hd : 0 ≤ d ∧ d ≤ 20) (hK : (K.length : Int) ≤ 20 * d + 9) (hS : (S.length : Int) = W.length ∧ (S.length : Int) ≤ 10 * d) (hcb : 0 ≤ cn ∧ cn ≤ b + 2) (hrn : 0 ≤ rn ∧ rn + red K ≤ cn) : OI tx n s cn (cm_sem 74 [.inr (.inl 14), .inl v, .inl d] s) (e, d, rn + tSz T, sc, lf, T :: V, (16, y, 0, 0, 0) :: K, S) (Po tx n b cn rn d V ((16, y, 0, 0, 0) :: K) S W (fun s' e' t' lf' T => xH y b s' e' t' lf' T ∧ e < e')) := by
  have e0 := hs.e0
  have num := lxG_r4 ht e0.1 e0.2 hs.lx
  have hr0 := red_0 K
  have tz := tSz_1 T
  obtain ⟨x1, x2, x3, x4⟩ := hX
  have vin := cTr_in htr
  have fin : ∀ {s3 : cm_S} {e3 k p l code : Int} {t3 : tTk} {sc3 : Int} {lf3 : Bool} {L : List tT} {v3 : Int}, cSt tx n s3 e3 false t3 (cn + (1 + fSz (fo L))) sc3 W → cNo s3 (cn + (1 + fSz (fo L))) v3 (k, p, l, code) cn L → (k = 40 ∨ k = 41) → b + (1 + fSz (fo L)) ≤ e3 → e < e3 → gG tx n ((k, p, l, code, false), fo L) → tOw (k, p, l, code, false) (L.length : Int) + fWt k code 0 (fo L) ≤ 2 * (e3 - b) → (∃ r, L = T :: r) → (y = 0 → tCa T = true → tOw (k, p, l, code, false) (L.length : Int) + fWt k code 0 (fo L) + 2 ≤ 2 * (e3 - b)) → Po tx n b cn rn d V ((16, y, 0, 0, 0) :: K) S W (fun s' e' t' lf' T => xH y b s' e' t' lf' T ∧ e < e') v3 s3 (e3, d, rn + (1 + fSz (fo L)), sc3, lf3, ((k, p, l, code, false), fo L) :: V, (16, y, 0, 0, 0) :: K, S) := by
    intro s3 e3 k p l code t3 sc3 lf3 L v3 st3 n3 hk hsz hee hG hw hL hca
    obtain ⟨tr, nx⟩ := cNo_tr n3 false
    refine ⟨e3, t3, sc3, lf3, ((k, p, l, code, false), fo L), st3, rfl, tr, nx, hsz, hG, ⟨⟨by show 30 ≤ k; omega, by show k ≤ 49; omega, by show k ≠ 38; omega⟩, fun z => absurd z (show k ≠ 34 by omega), ?_, ?_⟩, hee⟩
    · show tOw (k, p, l, code, false) (fLn (fo L)) + fWt k code 0 (fo L) + (if tB (k, p, l, code, false) < 15 then 2 else 0) ≤ _
      rw [fLn_fo, show tB (k, p, l, code, false) = 15 by rcases hk with rfl | rfl <;> rfl, if_neg (by decide)]
      omega
    · intro hy hc
      show tOw (k, p, l, code, false) (fLn (fo L)) + fWt k code 0 (fo L) + 2 ≤ _
      rw [fLn_fo]
      refine hca hy ?_
      obtain ⟨r, rfl⟩ := hL
      unfold tCa at hc
      rw [if_pos hk] at hc
      exact hc
  unfold OI
  rw [cS_74, cF_74_0, hs.cd]
  by_cases h1 : t.2.1 = 46
  · obtain ⟨h1', hlt⟩ := (tok_s ht e0.1 e0.2 hs.lx (c := 46) (by decide) (by decide)).1 h1
    rw [if_pos h1]
    -- not OX_to: the next token decides
    cases hT1 : lxG tx n false t.2.2.2.1 with
    | none => exact X_next ht hs (fun hN => b_16dn ht hs.lx h1' hN (by omega) (by omega)) fun t1 s1 hT1' => by rw [hT1] at hT1'; cases hT1'
    | some t1 =>
      have num1 := lxG_r4 ht (show 0 ≤ t.2.2.2.1 by omega) (by omega) hT1
      have tn1 := tk_num (lxG_ok ht (show 0 ≤ t.2.2.2.1 by omega) (by omega) hT1).1
      have hlt1 := (tok_k ht (show 0 ≤ t.2.2.2.1 by omega) (by omega) hT1).2.2.2.1
      by_cases hk : t1.1 = 1 ∨ t1.1 = 2
      · have hl1 := (hlt1 (by omega)).2
        have hr1 : rNo t1 = 1 ∨ 1000 ≤ rNo t1 ∧ rNo t1 ≤ 1026 := by omega
        clear tn1 hlt1
        refine OX_to (t_16d ht hs.lx h1' hT1 hr1 (by omega) (by omega) t1.2.1) ?_
        refine X_next ht hs (fun hN => by rw [hT1] at hN; cases hN) fun t1' s1 hT1' e1 b1 st1 => ?_
        rw [hT1] at hT1'
        cases hT1'
        have mn : OX tx n s1 cn (cm_bi (cm_sem 64 [.inr (.inl 14), .inl 41] s1) fun z2 s2 => cm_bv (cm_sem 58 [.inr (.inl 4), .inl z2, .inl v] s2) fun s3 => some (.inl (some (.inl z2)), s3)) (t1.2.2.2.1, d, rn + tSz T + 1, sc, lf, ((41, t1.2.2.1, t1.2.2.2.1 - t1.2.2.1, t1.2.1, false), fo [T]) :: V, (16, y, 0, 0, 0) :: K, S) (fun r s' c' => ∃ v, r = some (.inl v) ∧ Po tx n b cn rn d V ((16, y, 0, 0, 0) :: K) S W (fun s' e' t' lf' T => xH y b s' e' t' lf' T ∧ e < e') v s' c') := by
          refine X_of ht st1 (by omega) (by omega) (by omega) (fun hN' => dm_16 ht (m := V.length + 1) (by omega) _ _ _ _ _ _ (by omega) (by omega) hN' (by rw [List.length_cons]) (by simp only [red_co]; simp; omega) (by simp only [List.length_cons]; omega)) fun t2 s2 hT2 k2 b2 n2' st2 => ?_
          have e02 := st2.e0
          refine X_add0 st2 (by omega) n2' (cTr_fr (cTr_row htr e1) k2 (Int.le_refl _)) (by rw [k2 11 v (by omega) (by omega) (by omega), e1]; exact hnx) hcb.1 (Int.le_refl _) fun s3 k3 b3 n3 st3 => ?_
          have hwf : fWt 41 t1.2.1 0 (fo ([] ++ [T])) ≤ 0 + 2 * (e - b) := fWt_ch (w := 15) (a := []) rfl x3 (fun z => absurd z (by decide))
          have eS := fSz_1 T
          have := fin (s3 := s3) (e3 := t1.2.2.2.1) (k := 41) (p := t1.2.2.1) (l := t1.2.2.2.1 - t1.2.2.1) (code := t1.2.1) (t3 := t2) (sc3 := sc) (lf3 := lf) (L := [T]) (v3 := cn + tSz T) (by rw [eS, show cn + (1 + tSz T) = cn + tSz T + 1 by omega]; exact st3) (by rw [eS, show cn + (1 + tSz T) = cn + tSz T + 1 by omega]; exact n3) (Or.inr rfl) (by omega) (by omega) (gG_mk (gT_tk ht (show 0 ≤ t.2.2.2.1 by omega) (by omega) hT1 false hk) ⟨T.1.1, rfl, x1⟩ (gW_no (show (41 : Int) ≠ 5 by decide)) fun x hx => by
            have : x = T := by simpa using hx
            subst this
            exact hg) (by
            show 2 + 2 * (t1.2.2.2.1 - t1.2.2.1) + fWt 41 t1.2.1 0 (fo ([] ++ [T])) ≤ _
            omega) ⟨[], rfl⟩ (fun hy hc => by
            have h4 := x4 hy hc
            have hB := tCa_B hc
            have : fWt 41 t1.2.1 0 (fo [T]) = tWt T := by
              rw [fWt_1, hB, if_neg (by rintro (z | z); exact absurd z (show ¬ (15 : Int) < 15 by decide); exact absurd z.1 (by decide))]
              omega
            rw [this]
            show 2 + 2 * (t1.2.2.2.1 - t1.2.2.1) + tWt T + 2 ≤ _
            omega)
          rw [eS, show rn + (1 + tSz T) = rn + tSz T + 1 by omega] at this
          exact OX_reti ⟨_, rfl, this⟩
        rw [st1.kd]
        refine OX_ite (fun _ => mn) fun h => ?_
        rw [if_pos (by omega)]
        exact mn
      · have hr1 : ¬ (rNo t1 = 1 ∨ 1000 ≤ rNo t1 ∧ rNo t1 ≤ 1026) := by omega
        clear tn1 hlt1
        refine X_next ht hs (fun hN => by rw [hT1] at hN; cases hN) fun t1' s1 hT1' e1 b1 st1 => ?_
        rw [hT1] at hT1'
        cases hT1'
        rw [st1.kd, if_neg (by omega), if_neg (by omega)]
        exact X_refuse (b_16d ht hs.lx h1' hT1 hr1 (by omega))
  · have h91 : t.2.1 = 91 := by omega
    obtain ⟨h1', hlt⟩ := (tok_s ht e0.1 e0.2 hs.lx (c := 91) (by decide) (by decide)).1 h91
    rw [if_neg h1]
    refine OX_to (t_16i ht hs.lx h1' (by omega) (by omega)) ?_
    refine X_here hs (by omega) (by omega) (by omega) fun s1 k1 b1 n1' st1 => ?_
    refine X_add0 st1 (by omega) n1' (cTr_fr htr k1 (Int.le_refl _)) (by rw [k1 11 v (by omega) (by omega) (by omega)]; exact hnx) hcb.1 (Int.le_refl _) fun s2 k2 b2 n2' st2 => ?_
    refine X_psk ht st2 h91 (fun hN' => dm_wh ht (m := V.length + 1) _ _ _ _ _ _ (by omega) (by omega) hN' (by rw [List.length_cons]) (by simp only [red_co]; simp; omega) (by simp only [List.length_cons]; omega)) fun t3 s3 hT3 e3 b3 st3 => ?_
    have e03 := st3.e0
    have num3 := lxG_r4 ht e03.1 e03.2 st3.lx
    refine OX_bi (S_seq_of ht hx s3 t.2.2.2.1 false t3 (cn + tSz T + 1) sc W d (rn + tSz T) 0 lf (T :: V) ((5, 93, 0, 0, 0) :: (3, 40, t.2.2.1, 0, V.length) :: (16, y, 0, 0, 0) :: K) S st3 (by omega) ⟨hd.1, hd.2, by simp only [List.length_cons]; omega, hS.1, hS.2, by omega, by omega, by omega, by simp only [red_co]; simp; omega⟩ (Or.inl rfl) (dm_5 ht)) (by omega) fun v4 s4 c4 f4 k4 q4 => ?_
    obtain ⟨e4, t4, sc4, lf4, T4, st4, rfl, tr4, nx4, sz4, g4, y1, y2, y3, y4⟩ := q4
    have tz4 := tSz_1 T4
    have e04 := st4.e0
    have num4 := lxG_r4 ht e04.1 e04.2 st4.lx
    refine X_add st4 (by omega) (cNo_fr (cNo_row n2' e3) k4 (Int.le_refl _)) tr4 nx4 (Int.le_refl _) fun s5 k5 b5 n5 st5 => ?_
    have tk := tok_s ht e04.1 e04.2 st4.lx (c := 93) (by decide) (by decide)
    refine X_pass ht st5 (by apply propext; exact ⟨fun z => (tk.1 z).1, fun z => Decidable.byContradiction fun y => tk.2 y z⟩) (by simp only [List.length_cons]; omega) (fun hN' => dm_red (m := (T4 :: T :: V).length) (mk := V.length) (dm_16 ht (by omega)) (by simp only [List.length_cons]; omega) _ _ _ _ _ _ (by omega) (by omega) hN' rfl (by simp only [red_co]; simp; omega) (by simp only [List.length_cons]; omega)) fun t6 s6 h93 hT6 e6 b6 st6 => ?_
    have hlt4 := (tk.1 h93).2
    clear tk
    have e06 := st6.e0
    refine OX_to (t_red (Vc := [T4, T]) rfl (by omega) (by simp only [List.length_cons]; omega) 0) (OX_reti ⟨cn + tSz T, rfl, ?_⟩)
    have eS : fSz (fo ([T] ++ [T4])) = tSz T + tSz T4 := by rw [fSz_fo, fSz_1]
    have hwf : fWt 40 0 0 (fo ([] ++ [T])) ≤ 0 + 2 * (e - b) := fWt_ch (w := 15) (a := []) rfl x3 (fun z => absurd z (by decide))
    have hwf2 : fWt 40 0 0 (fo ([T] ++ [T4])) ≤ fWt 40 0 0 (fo [T]) + 2 * (e4 - t3.2.2.1) := fWt_ch (w := 0) (a := [T]) rfl y3 (fun z => absurd z (by decide))
    have := fin (s3 := s6) (e3 := t4.2.2.2.1) (k := 40) (p := t.2.2.1) (l := 0) (code := 0) (t3 := t6) (sc3 := sc4) (lf3 := lf4) (L := [T] ++ [T4]) (v3 := cn + tSz T) (by rw [eS, show cn + (1 + (tSz T + tSz T4)) = cn + tSz T + 1 + tSz T4 by omega]; exact st6) (by rw [eS, show cn + (1 + (tSz T + tSz T4)) = cn + tSz T + 1 + tSz T4 by omega]; exact cNo_row n5 e6) (Or.inl rfl) (by omega) (by omega) (gG_mk (gT_no (by simp) (by show 0 ≤ t.2.2.1; omega) (by show t.2.2.1 ≤ n; omega) rfl) ⟨T.1.1, T4.1.1, rfl, x1, y1⟩ (gW_no (show (40 : Int) ≠ 5 by decide)) fun x hx => by
      have : x = T ∨ x = T4 := by simpa using hx
      rcases this with rfl | rfl
      · exact hg
      · exact g4) (by
      show 4 + fWt 40 0 0 (fo ([T] ++ [T4])) ≤ _
      have : fWt 40 0 0 (fo ([] ++ [T])) = fWt 40 0 0 (fo [T]) := rfl
      omega) ⟨[T4], rfl⟩ (fun hy hc => by
      have h4 := x4 hy hc
      have hB := tCa_B hc
      have : fWt 40 0 0 (fo [T]) = tWt T := by
        rw [fWt_1, hB, if_neg (by rintro (z | z); exact absurd z (show ¬ (15 : Int) < 15 by decide); exact absurd z.1 (by decide))]
        omega
      show 4 + fWt 40 0 0 (fo ([T] ++ [T4])) + 2 ≤ _
      omega)
    rw [eS, show rn + (1 + (tSz T + tSz T4)) = rn + tSz T + tSz T4 + 1 by omega] at this
    have eF : foR .leaf [T4, T] = fo ([T] ++ [T4]) := rfl
    rw [eF]
    simp only [show decide ((40 : Int) < 44 ∨ 49 < (40 : Int)) = true by decide, Bool.and_true]
    exact this
end TX50
