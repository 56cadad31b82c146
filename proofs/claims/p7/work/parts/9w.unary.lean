/-! ===== UNARY ===== -/
section TX52
variable {tx : Int → Int} {n : Int}
/-- signs and words ahead of an operand, on both sides -/
abbrev pxR (r : Int) : Prop := r = 1005 ∨ r = 1025 ∨ r = 1023 ∨ r = 11051 ∨ r = 11565 ∨ r = 43 ∨ r = 45 ∨ r = 126 ∨ r = 33
abbrev pxC (c : Int) : Prop := c = 6 ∨ c = 24 ∨ c = 26 ∨ c = 33 ∨ c = 43 ∨ c = 45 ∨ c = 126 ∨ c = 11051 ∨ c = 11565
theorem cs_69 (x : Int) (s : cm_S) : cm_sem 69 [.inl x] s = some (.inl (some (.inl (cm_b (pxC x)))), s) := by
  rw [cS_69, cF_69_0]
  by_cases h : pxC x
  · rw [show cm_b (pxC x) = 1 from if_pos h]
    unfold pxC at h
    rcases h with rfl | rfl | rfl | rfl | rfl | rfl | rfl | rfl | rfl <;> rfl
  · rw [show cm_b (pxC x) = 0 from if_neg h]
    unfold pxC at h
    rw [if_neg (by omega), if_neg (by omega), if_neg (by omega), if_neg (by omega), if_neg (by omega), if_neg (by omega), if_neg (by omega), if_neg (by omega), if_neg (by omega)]
/-- what unary() of the reference does -/
def UnC (tx : Int → Int) (n : Int) (c : rC) (e d rn sc : Int) (lf : Bool) (V : List tT) (K : List rTs) (S : List rSg) : Prop := (lxG tx n true e = none → rBd tx n c) ∧ (∀ t, lxG tx n true e = some t → pxR (rNo t) → rTo tx n c (t.2.2.2.1, d, rn, sc, lf, V, (12, 1, 0, 0, 0) :: (4, 0, 0, 0, 0) :: (3, 45, t.2.2.1, t.2.2.2.1 - t.2.2.1, V.length) :: K, S)) ∧ ∀ t, lxG tx n true e = some t → ¬ pxR (rNo t) → rTo tx n c (e, d, rn, sc, lf, V, (14, 0, 0, 0, 0) :: (13, 0, 0, 0, 0) :: K, S)
def S_un (tx : Int → Int) (n : Int) (m : Nat) : Prop := ∀ (s : cm_S) (e : Int) (g : Bool) (t : tTk) (cn sc : Int) (W : List (Int × Int)) (d rn : Int) (lf : Bool) (V : List tT) (K : List rTs) (S : List rSg) (c : rC), cSt tx n s e g t cn sc W → n - e < m → Nu t.2.2.1 cn rn d 2 5 K S W → Dm tx n K (V.length + 1) S → UnC tx n c e d rn sc lf V K S → OI tx n s cn (cm_sem 68 [.inr (.inl 14), .inl d] s) c (Po tx n t.2.2.1 cn rn d V K S W (xE t.2.2.1 13))
theorem S_un_of (ht : tOk tx n) {m : Nat} (hx : S_x tx n m) (hE : S_el tx n m) (hM : S_me tx n m) (hU : S_un tx n m) : S_un tx n (m + 1) := by
  intro s e g t0 cn sc W d rn lf V K S c hs hm hN hD hc
  obtain ⟨n1, n2, n3, n4, n5, n6, n7, n8, n9⟩ := hN
  have e0 := hs.e0
  have hr0 := red_0 K
  unfold OI
  rw [cS_68, cF_68_0]
  refine X_due ht hs hc.1 fun t s1 hT e1 b1 st1 => ?_
  have hbg := (lxG_beg hs.lx hT).1
  rw [← hbg] at n7 ⊢
  have num := lxG_r4 ht e0.1 e0.2 hT
  have ok := (lxG_ok ht e0.1 e0.2 hT).1
  have hpx : pxC t.2.1 ↔ pxR (rNo t) := by
    have tn := tk_num ok
    unfold pxC pxR
    omega
  rw [cs_69, cm_bi_i, st1.cd]
  by_cases hp : pxC t.2.1
  · have hlt : t.2.2.1 < t.2.2.2.1 := ((tok_k ht e0.1 e0.2 hT).2.2.2.1 (by have tn := tk_num ok; unfold pxC at hp; omega)).2
    rw [if_neg (by rw [cm_b0]; exact fun z => z hp)]
    refine OX_to (hc.2.1 t hT (hpx.mp hp)) ?_
    refine X_of ht st1 n6 (by omega) (Int.le_refl _) (fun hN' => dm_121 ht (m := V.length) _ _ _ _ _ _ (by omega) (by omega) hN' rfl (by simp only [red_co]; simp; omega) (by simp only [List.length_cons]; omega)) fun t2 s2 hT2 k2 b2 n2' st2 => ?_
    have e02 := st2.e0
    have num2 := lxG_r4 ht e02.1 e02.2 st2.lx
    refine X_within ht st2 (fun hN' => b_121n (t := t) ht hN' (by simp only [List.length_cons]; omega)) (fun t' hT' hz => be_12 ht hT' hz n1 (by omega) (by simp only [List.length_cons]; omega)) (fun t' hT' hz hd => b_121d ht hT' (by omega) hz (by simp only [List.length_cons]; omega)) fun t3 s3 hT3 hz hd e3 b3 st3 => ?_
    have hbg3 := (lxG_beg st2.lx hT3).1
    have e03 := st3.e0
    have num3 := lxG_r4 ht e03.1 e03.2 st3.lx
    rw [cm_w_id (show -2147483648 ≤ d + 1 by omega) (by omega)]
    refine OX_bi (hU s3 t.2.2.2.1 true t3 (cn + 1) sc W (d + 1) rn lf V ((4, 0, 0, 0, 0) :: (3, 45, t.2.2.1, t.2.2.2.1 - t.2.2.1, V.length) :: K) S _ st3 (by omega) ⟨by omega, by omega, by simp only [List.length_cons]; omega, n4, by omega, by omega, by omega, n8, by simp only [red_co]; simp; omega⟩ (dm_lv (dm_red hD (by omega))) ⟨fun hN' => b_121n (t := t) ht hN' (by simp only [List.length_cons]; omega), fun t' h1 h2 => t_121p ht h1 h2 n1 (Or.inl hd) (by simp only [List.length_cons]; omega), fun t' h1 h2 => t_121l ht h1 h2 n1 (Or.inl hd) (by simp only [List.length_cons]; omega)⟩) (by omega) fun v4 s4 c4 f4 k4 q4 => ?_
    obtain ⟨e4, t4, sc4, lf4, T, st4, rfl, tr4, nx4, sz4, g4, x1, x2, x3, x4⟩ := q4
    have tz := tSz_1 T
    have e04 := st4.e0
    refine X_add st4 (by omega) (cNo_fr (cNo_row n2' e3) k4 (Int.le_refl _)) tr4 nx4 (Int.le_refl _) fun s5 k5 b5 n5' st5 => ?_
    obtain ⟨tr, nx⟩ := cNo_tr n5' false
    have eT : tSz ((45, t.2.2.1, t.2.2.2.1 - t.2.2.1, t.2.1, false), fo [T]) = 1 + tSz T := by
      show 1 + fSz (fo [T]) = _
      rw [fSz_1]
    refine OX_to (t_lv (by simp only [List.length_cons]; omega) (by omega) (by omega)) (OX_to (t_red (Vc := [T]) rfl (by omega) (by omega) t.2.1) (OX_retb ⟨cn, rfl, e4, t4, sc4, false, ((45, t.2.2.1, t.2.2.2.1 - t.2.2.1, t.2.1, false), fo [T]), ?_, ?_, ?_, nx, by omega, ?_, ⟨show (30 : Int) ≤ 45 by decide, show (45 : Int) ≤ 49 by decide, show (45 : Int) ≠ 38 by decide⟩, fun z => absurd z (show (45 : Int) ≠ 34 by decide), ?_, cm_p_at, fun z => by cases z⟩))
    · rw [eT, show cn + (1 + tSz T) = cn + 1 + tSz T by omega]; exact cSt_p st5
    · rw [eT, show rn + (1 + tSz T) = rn + tSz T + 1 by omega]
      simp [foR, fo]
    · rw [eT, show cn + (1 + tSz T) = cn + 1 + tSz T by omega]; exact cTr_row tr rfl
    · refine gG_mk (gT_tk ht e0.1 e0.2 hT false (show t.1 = 6 ∧ (t.2.1 = 33 ∨ t.2.1 = 43 ∨ t.2.1 = 45 ∨ t.2.1 = 126 ∨ t.2.1 = 11051 ∨ t.2.1 = 11565) ∨ t.1 = 2 ∧ (t.2.1 = 6 ∨ t.2.1 = 24 ∨ t.2.1 = 26) by have tn := tk_num ok; unfold pxC at hp; omega)) ⟨T.1.1, rfl, x1⟩ (gW_no (show (45 : Int) ≠ 5 by decide)) fun x hx => ?_
      have : x = T := by simpa using hx
      subst this
      exact g4
    · show 2 * (t.2.2.2.1 - t.2.2.1) + fWt 45 t.2.1 0 (fo ([] ++ [T])) + (if (13 : Int) < 13 then 2 else 0) ≤ _
      have : fWt 45 t.2.1 0 (fo ([] ++ [T])) ≤ 0 + 2 * (e4 - t3.2.2.1) := fWt_ch (w := 13) (a := []) rfl x3 (fun z => absurd z (by decide))
      rw [if_neg (by decide)]
      omega
  · rw [if_pos (by rw [cm_b0]; exact hp)]
    refine OX_to (hc.2.2 t hT (fun z => hp (hpx.mpr z))) ?_
    refine OX_bi (lf_of ht hx hE hM (K := (13, 0, 0, 0, 0) :: K) st1 (by omega) ⟨n1, n2, by simp only [List.length_cons]; omega, n4, n5, n6, n7, n8, by simp only [red_co]; simp; omega⟩ ⟨fun t' h1 h2 => t_14n ht h1 h2 (by simp only [List.length_cons]; omega), fun t' h1 h2 => t_14o ht h1 h2 (by simp only [List.length_cons]; omega)⟩) (Int.le_refl _) fun v2 s2 c2 f2 k2 q2 => ?_
    obtain ⟨e2, t2, sc2, lf2, T, st2, rfl, tr2, nx2, sz2, g2, ⟨x1, x2, x3, x4⟩, x5⟩ := q2
    have tz := tSz_1 T
    have e02 := st2.e0
    have num2 := lxG_r4 ht e02.1 e02.2 st2.lx
    have ok2 := (lxG_ok ht e02.1 e02.2 st2.lx).1
    have x3' : tWb 13 T ≤ 2 * (e2 - t.2.2.1) := by
      unfold tWb at x3 ⊢
      split at x3 <;> split <;> omega
    -- nothing behind it
    have plain : ¬ (t2.2.2.2.2 = false ∧ (rNo t2 = 11051 ∨ rNo t2 = 11565)) → OX tx n s2 cn (some (.inl (some (.inl v2)), s2)) (e2, d, rn + tSz T, sc2, lf2, T :: V, (13, 0, 0, 0, 0) :: K, S) (fun r s' c' => ∃ v, r = some (.inl v) ∧ Po tx n t.2.2.1 cn rn d V K S W (xE t.2.2.1 13) v s' c') := by
      intro hno
      exact OX_to (t_13n ht st2.lx hno (by omega)) (OX_reti ⟨v2, rfl, e2, t2, sc2, true, T, st2, rfl, tr2, nx2, sz2, g2, x1, x2, x3', x5, fun _ => x3⟩)
    have post : t2.2.2.2.2 = false → (t2.2.1 = 11051 ∨ t2.2.1 = 11565) → OX tx n s2 cn (cm_bi (cm_sem 64 [.inr (.inl 14), .inl 44] s2) fun z4 s4 => cm_bv (cm_sem 58 [.inr (.inl 4), .inl z4, .inl v2] s4) fun s5 => some (.inl (some (.inl z4)), cm_p s5 1406 0)) (e2, d, rn + tSz T, sc2, lf2, T :: V, (13, 0, 0, 0, 0) :: K, S) (fun r s' c' => ∃ v, r = some (.inl v) ∧ Po tx n t.2.2.1 cn rn d V K S W (xE t.2.2.1 13) v s' c') := by
      intro hl hc2
      have hr2 : (rNo t2 = 11051 ∨ rNo t2 = 11565) ∧ t2.1 = 6 := by have tn := tk_num ok2; omega
      have hlt2 : t2.2.2.1 < t2.2.2.2.1 := ((tok_k ht e02.1 e02.2 st2.lx).2.2.2.1 (by omega)).2
      refine OX_to (t_13p ht st2.lx hl hr2.1 (by omega) (by omega) t2.2.1) ?_
      refine X_of ht st2 (by omega) (by omega) (by omega) (fun hN' => hD _ _ _ _ _ _ (by omega) (by omega) hN' (by rw [List.length_cons]) (by omega) (by omega)) fun t3 s3 hT3 k3 b3 n3' st3 => ?_
      have vin := cTr_in tr2
      refine X_add0 st3 (by omega) n3' (cTr_fr tr2 k3 (Int.le_refl _)) (by rw [k3 11 v2 (by omega) (by omega) (by omega)]; exact nx2) n6 (Int.le_refl _) fun s4 k4 b4 n4' st4 => ?_
      obtain ⟨tr, nx⟩ := cNo_tr n4' false
      have eT : tSz ((44, t2.2.2.1, t2.2.2.2.1 - t2.2.2.1, t2.2.1, false), fo [T]) = 1 + tSz T := by
        show 1 + fSz (fo [T]) = _
        rw [fSz_1]
      refine OX_retb ⟨cn + tSz T, rfl, t2.2.2.2.1, t3, sc2, false, ((44, t2.2.2.1, t2.2.2.2.1 - t2.2.2.1, t2.2.1, false), fo [T]), ?_, ?_, ?_, nx, by omega, ?_, ⟨show (30 : Int) ≤ 44 by decide, show (44 : Int) ≤ 49 by decide, show (44 : Int) ≠ 38 by decide⟩, fun z => absurd z (show (44 : Int) ≠ 34 by decide), ?_, cm_p_at, fun z => by cases z⟩
      · rw [eT, show cn + (1 + tSz T) = cn + tSz T + 1 by omega]; exact cSt_p st4
      · rw [eT, show rn + (1 + tSz T) = rn + tSz T + 1 by omega]
      · rw [eT, show cn + (1 + tSz T) = cn + tSz T + 1 by omega]; exact cTr_row tr rfl
      · refine gG_mk (gT_tk ht e02.1 e02.2 st2.lx false (show t2.1 = 6 ∧ (t2.2.1 = 11051 ∨ t2.2.1 = 11565) from ⟨hr2.2, hc2⟩)) ⟨T.1.1, rfl, x1⟩ (gW_no (show (44 : Int) ≠ 5 by decide)) fun x hx => ?_
        have : x = T := by simpa using hx
        subst this
        exact g2
      · show 2 * (t2.2.2.2.1 - t2.2.2.1) + fWt 44 t2.2.1 0 (fo ([] ++ [T])) + (if (14 : Int) < 13 then 2 else 0) ≤ _
        have : fWt 44 t2.2.1 0 (fo ([] ++ [T])) ≤ 0 + 2 * (e2 - t.2.2.1) := fWt_ch (w := 15) (a := []) rfl x3 (fun z => absurd z (by decide))
        rw [if_neg (by decide)]
        omega
    rw [st2.cd, st2.ln]
    have tn2 := tk_num ok2
    refine OX_ite (fun h1 => OX_ite (fun hl => post (by rw [cm_n0] at hl; exact hl) (Or.inl h1)) fun hl => plain (fun z => hl (by rw [cm_n0]; exact z.1))) fun h1 => OX_ite (fun h2 => OX_ite (fun hl => post (by rw [cm_n0] at hl; exact hl) (Or.inr h2)) fun hl => plain (fun z => hl (by rw [cm_n0]; exact z.1))) fun h2 => plain (fun z => by omega)
end TX52
