/-! ===== calls, new, LEFT, MEMBER ===== -/
section TX51
variable {tx : Int → Int} {n : Int}
/-- ( x, .. ) behind a LEFT -/
theorem ca_of (ht : tOk tx n) {m : Nat} (hx : S_x tx n m) {s : cm_S} {e b cn sc v d rn : Int} {t : tTk} {W : List (Int × Int)} {lf : Bool} {V : List tT} {K : List rTs} {S : List rSg} {T : tT} (hs : cSt tx n s e false t (cn + tSz T) sc W) (hm : n - e ≤ m) (h40 : t.2.1 = 40) (htr : cTr s cn (cn + tSz T) v T) (hnx : s.2 11 v = -1) (hb0 : 0 ≤ b ∧ b + tSz T ≤ e) (hg : gG tx n T) (hX : xH 1 b s e t lf T) (hd : 0 ≤ d ∧ d ≤ 20) (hK : (K.length : Int) ≤ 20 * d + 9) (hS : (S.length : Int) = W.length ∧ (S.length : Int) ≤ 10 * d) (hcb : 0 ≤ cn ∧ cn ≤ b + 2) (hrn : 0 ≤ rn ∧ rn + red K ≤ cn) : OI tx n s cn (cm_sem 86 [.inr (.inl 14), .inl v, .inl d] s) (e, d, rn + tSz T, sc, lf, T :: V, (16, 1, 0, 0, 0) :: K, S) (Po tx n b cn rn d V ((16, 1, 0, 0, 0) :: K) S W (fun s' e' t' lf' T => xH 1 b s' e' t' lf' T ∧ e < e')) := by
  have e0 := hs.e0
  have num := lxG_r4 ht e0.1 e0.2 hs.lx
  have hr0 := red_0 K
  have tz := tSz_1 T
  obtain ⟨x1, x2, x3, x4⟩ := hX
  have vin := cTr_in htr
  obtain ⟨h40', hlt⟩ := (tok_s ht e0.1 e0.2 hs.lx (c := 40) (by decide) (by decide)).1 h40
  unfold OI
  rw [cS_86, cF_86_0]
  refine OX_to (t_16c ht hs.lx h40' (by omega) (by omega)) ?_
  refine X_here hs (by omega) (by omega) (by omega) fun s1 k1 b1 n1' st1 => ?_
  refine X_add0 st1 (by omega) n1' (cTr_fr htr k1 (Int.le_refl _)) (by rw [k1 11 v (by omega) (by omega) (by omega)]; exact hnx) hcb.1 (Int.le_refl _) fun s2 k2 b2 n2' st2 => ?_
  refine OX_bv (S_ar_of ht hx s2 e t (cn + tSz T + 1) sc W d (rn + tSz T) lf V ((16, 1, 0, 0, 0) :: K) S 43 t.2.2.1 (cn + tSz T) cn T st2 hm h40 (Or.inr rfl) ⟨hd.1, hd.2, by simp only [List.length_cons]; omega, hS.1, hS.2, by omega, by omega, by omega, by simp only [red_co]; simp; omega⟩ n2' (dm_16 ht (by omega))) (Int.le_refl _) fun s3 c3 f3 k3 q3 => ?_
  obtain ⟨e3, t3, sc3, lf3, L, st3, rfl, n3, sz3, g3, w3⟩ := q3
  have f0 := fSz_0 (fo L)
  obtain ⟨tr, nx⟩ := cNo_tr n3 false
  have eS : fSz (fo ([T] ++ L)) = tSz T + fSz (fo L) := by rw [fo_ap, fSz_ap, fSz_1]
  have eT : tSz ((43, t.2.2.1, 0, 0, false), fo ([T] ++ L)) = 1 + (tSz T + fSz (fo L)) := by
    show 1 + fSz (fo ([T] ++ L)) = _
    rw [eS]
  have hwf : fWt 43 0 0 (fo ([] ++ [T])) ≤ 0 + 2 * (e - b) := fWt_ch (w := 15) (a := []) rfl x3 (fun z => absurd z (by decide))
  have hwf' : fWt 43 0 0 (fo [T]) ≤ 2 * (e - b) := by
    have : fWt 43 0 0 (fo ([] ++ [T])) = fWt 43 0 0 (fo [T]) := rfl
    omega
  refine OX_reti ⟨cn + tSz T, rfl, e3, t3, sc3, lf3, ((43, t.2.2.1, 0, 0, false), fo ([T] ++ L)), ?_, ?_, ?_, nx, by omega, ?_, ⟨⟨show (30 : Int) ≤ 43 by decide, show (43 : Int) ≤ 49 by decide, show (43 : Int) ≠ 38 by decide⟩, fun z => absurd z (show (43 : Int) ≠ 34 by decide), ?_, fun z => absurd z (by decide)⟩, by omega⟩
  · rw [eT, show cn + (1 + (tSz T + fSz (fo L))) = cn + tSz T + 1 + fSz (fo L) by omega]; exact st3
  · rw [eT, show rn + (1 + (tSz T + fSz (fo L))) = rn + tSz T + fSz (fo L) + 1 by omega]
  · rw [eT, show cn + (1 + (tSz T + fSz (fo L))) = cn + tSz T + 1 + fSz (fo L) by omega]; exact tr
  · refine gG_mk (gT_no (by simp) (by show 0 ≤ t.2.2.1; omega) (by show t.2.2.1 ≤ n; omega) rfl) ⟨T.1.1, L.map (·.1.1), rfl, x1, fun x hx => ?_⟩ (gW_no (show (43 : Int) ≠ 5 by decide)) fun x hx => ?_
    · obtain ⟨z, hz, rfl⟩ := List.mem_map.mp hx
      exact (g3 z hz).2
    · rcases List.mem_append.mp hx with hx | hx
      · have : x = T := by simpa using hx
        subst this
        exact hg
      · exact (g3 x hx).1
  · show 2 + fLn (fo ([T] ++ L)) + fWt 43 0 0 (fo ([T] ++ L)) + (if (15 : Int) < 15 then 2 else 0) ≤ _
    rw [fLn_fo, if_neg (by decide), show ([T] ++ L).length = L.length + 1 by simp]
    by_cases hL : L.length = 0
    · rw [if_pos hL] at w3; omega
    · rw [if_neg hL] at w3; omega
/-- the first operand: an OPERAND, or new -/
theorem hd_of (ht : tOk tx n) {m : Nat} (hx : S_x tx n m) (hE : S_el tx n m) (hM : S_me tx n m) {s : cm_S} {e : Int} {t : tTk} {cn sc : Int} {W : List (Int × Int)} {d rn y : Int} {lf : Bool} {V : List tT} {K : List rTs} {S : List rSg} {c : rC} (hs : cSt tx n s e true t cn sc W) (hm : n - e ≤ m) (hN : Nu t.2.2.1 cn rn d 2 6 K S W) (hD : Dm tx n ((16, y, 0, 0, 0) :: K) (V.length + 1) S) (hc : HdC tx n c e d rn sc lf V K S y) : OI tx n s cn (cm_sem 71 [.inr (.inl 14), .inl d] s) c (Po tx n t.2.2.1 cn rn d V ((16, y, 0, 0, 0) :: K) S W (xH y t.2.2.1)) := by
  have hN0 := hN
  obtain ⟨n1, n2, n3, n4, n5, n6, n7, n8, n9⟩ := hN
  have e0 := hs.e0
  have num := lxG_r4 ht e0.1 e0.2 hs.lx
  have hr0 := red_0 K
  unfold OI
  rw [cS_71, cF_71_0, hs.cd]
  by_cases h16 : t.2.1 = 16
  · obtain ⟨a1, a2⟩ := tok_l ht e0.1 e0.2 hs.lx (w := 16) (by decide) (by decide) h16
    have a3 : wl 16 = 3 := by decide
    rw [if_pos h16]
    refine OX_to (hc.1 t hs.lx a1) (OI_tail ?_)
    unfold OI
    rw [cS_72, cF_72_0]
    refine X_first ht hs n6 (by omega) (Int.le_refl _) (fun hN' => dm_15 ht (m := V.length) _ _ _ _ _ _ (by omega) (by omega) hN' rfl (by simp only [red_co]; simp; omega) (by simp only [List.length_cons]; omega)) fun t1 s1 hT1 k1 b1 n1' st1 => ?_
    have e01 := st1.e0
    have num1 := lxG_r4 ht e01.1 e01.2 st1.lx
    refine X_within ht st1 (fun hN' => b_15n (t := t) ht hN' (by simp only [List.length_cons]; omega)) (fun t' hT' hz => be_15 ht hT' hz n1 (by omega) (by simp only [List.length_cons]; omega)) (fun t' hT' hz hd => b_15d ht hT' (by omega) hz (by simp only [List.length_cons]; omega)) fun t2 s2 hT2 hz hd e2 b2 st2 => ?_
    have e02 := st2.e0
    have num2 := lxG_r4 ht e02.1 e02.2 st2.lx
    have hbg := (lxG_beg st1.lx hT2).1
    rw [cm_w_id (show -2147483648 ≤ d + 1 by omega) (by omega)]
    refine OX_bi (hM s2 t.2.2.2.1 t2 (cn + 1) sc W (d + 1) rn lf V ((4, 0, 0, 0, 0) :: (17, t.2.2.1, V.length, 0, 0) :: (16, y, 0, 0, 0) :: K) S _ st2 (by omega) ⟨by omega, by omega, by simp only [List.length_cons]; omega, n4, by omega, by omega, by omega, n8, by simp only [red_co]; simp; omega⟩ (dm_lv (dm_17 ht (by constructor <;> omega))) ⟨fun t' h1 h2 => t_15n ht h1 h2 n1 (Or.inl hd) (by simp only [List.length_cons]; omega), fun t' h1 h2 => t_15o ht h1 h2 n1 (Or.inl hd) (by simp only [List.length_cons]; omega)⟩) (by omega) fun v3 s3 c3 f3 k3 q3 => ?_
    obtain ⟨e3, t3, sc3, lf3, T, st3, rfl, tr3, nx3, sz3, g3, x1, x2, x3, x4⟩ := q3
    have tz := tSz_1 T
    have e03 := st3.e0
    have num3 := lxG_r4 ht e03.1 e03.2 st3.lx
    refine X_add st3 (by omega) (cNo_fr (cNo_row n1' e2) k3 (Int.le_refl _)) tr3 nx3 (Int.le_refl _) fun s4 k4 b4 n4' st4 => ?_
    rw [st4.cd]
    refine OX_to (t_lv (by simp only [List.length_cons]; omega) (by omega) (by omega)) ?_
    -- the member's weight, with brackets where it has a call
    have hwm : fWt 42 0 0 (fo [T]) ≤ 2 * (e3 - t2.2.2.1) := by
      rw [fWt_1]
      have hw15 : tWn 42 0 0 = 15 := rfl
      rw [hw15]
      unfold tWb at x3
      by_cases hca : tCa T = true
      · have := x4 rfl hca
        rw [if_pos (Or.inr ⟨rfl, rfl, hca⟩)]
        omega
      · by_cases hB : tB T.1 < 15
        · rw [if_pos hB] at x3
          rw [if_pos (Or.inl hB)]; omega
        · rw [if_neg hB] at x3
          rw [if_neg (by rintro (z | z); exact hB z; exact hca z.2.2)]; omega
    have fin : ∀ {s5 : cm_S} {e5 : Int} {t5 : tTk} {sc5 : Int} {lf5 : Bool} {L : List tT}, cSt tx n s5 e5 false t5 (cn + 1 + tSz T + fSz (fo L)) sc5 W → cNo s5 (cn + 1 + tSz T + fSz (fo L)) cn (42, t.2.2.1, 0, 0) cn ([T] ++ L) → e3 + fSz (fo L) ≤ e5 → (∀ x ∈ L, gG tx n x ∧ isE x.1.1) → fWt 42 0 0 (fo ([T] ++ L)) + 2 * (L.length : Int) ≤ fWt 42 0 0 (fo [T]) + 2 * (e5 - e3) → Po tx n t.2.2.1 cn rn d V ((16, y, 0, 0, 0) :: K) S W (xH y t.2.2.1) cn s5 (e5, d, rn + tSz T + fSz (fo L) + 1, sc5, lf5, ((42, t.2.2.1, 0, 0, false), fo ([T] ++ L)) :: V, (16, y, 0, 0, 0) :: K, S) := by
      intro s5 e5 t5 sc5 lf5 L st5 n5' hsz hgL hw
      have f0 := fSz_0 (fo L)
      obtain ⟨tr, nx⟩ := cNo_tr n5' false
      have eS : fSz (fo ([T] ++ L)) = tSz T + fSz (fo L) := by rw [fo_ap, fSz_ap, fSz_1]
      have eT : tSz ((42, t.2.2.1, 0, 0, false), fo ([T] ++ L)) = 1 + (tSz T + fSz (fo L)) := by
        show 1 + fSz (fo ([T] ++ L)) = _
        rw [eS]
      refine ⟨e5, t5, sc5, lf5, ((42, t.2.2.1, 0, 0, false), fo ([T] ++ L)), ?_, ?_, ?_, nx, by omega, ?_, ⟨show (30 : Int) ≤ 42 by decide, show (42 : Int) ≤ 49 by decide, show (42 : Int) ≠ 38 by decide⟩, fun z => absurd z (show (42 : Int) ≠ 34 by decide), ?_, fun _ z => ?_⟩
      · rw [eT, show cn + (1 + (tSz T + fSz (fo L))) = cn + 1 + tSz T + fSz (fo L) by omega]; exact st5
      · rw [eT, show rn + (1 + (tSz T + fSz (fo L))) = rn + tSz T + fSz (fo L) + 1 by omega]
      · rw [eT, show cn + (1 + (tSz T + fSz (fo L))) = cn + 1 + tSz T + fSz (fo L) by omega]; exact tr
      · refine gG_mk (gT_no (by simp) (by show 0 ≤ t.2.2.1; omega) (by show t.2.2.1 ≤ n; omega) rfl) ⟨T.1.1, L.map (·.1.1), rfl, x1, fun x hx => ?_⟩ (gW_no (show (42 : Int) ≠ 5 by decide)) fun x hx => ?_
        · obtain ⟨z, hz, rfl⟩ := List.mem_map.mp hx
          exact (hgL z hz).2
        · rcases List.mem_append.mp hx with hx | hx
          · have : x = T := by simpa using hx
            subst this
            exact g3
          · exact (hgL x hx).1
      · show 4 + 2 * fLn (fo ([T] ++ L)) + fWt 42 0 0 (fo ([T] ++ L)) + (if (15 : Int) < 15 then 2 else 0) ≤ _
        rw [fLn_fo, if_neg (by decide), show ([T] ++ L).length = L.length + 1 by simp]
        omega
      · exact absurd z (show ¬ decide ((42 : Int) = 43) = true by decide)
    by_cases h40 : t3.2.1 = 40
    · obtain ⟨h40', hlt3⟩ := (tok_s ht e03.1 e03.2 st3.lx (c := 40) (by decide) (by decide)).1 h40
      rw [if_pos h40]
      refine OX_to (t_17a ht st3.lx h40' (by simp only [List.length_cons]; omega)) ?_
      refine OX_bv (S_ar_of ht hx s4 e3 t3 (cn + 1 + tSz T) sc3 W d (rn + tSz T) lf3 V ((16, y, 0, 0, 0) :: K) S 42 t.2.2.1 cn cn T st4 (by omega) h40 (Or.inl rfl) ⟨n1, n2, by simp only [List.length_cons]; omega, n4, n5, by omega, by omega, by omega, by simp only [red_co]; simp; omega⟩ n4' hD) (Int.le_refl _) fun s5 c5 f5 k5 q5 => ?_
      obtain ⟨e5, t5, sc5, lf5, L, st5, rfl, n5', sz5, g5, w5⟩ := q5
      refine OX_reti ⟨cn, rfl, fin st5 n5' (by omega) g5 ?_⟩
      split at w5 <;> omega
    · have h40' := (tok_s ht e03.1 e03.2 st3.lx (c := 40) (by decide) (by decide)).2 h40
      rw [if_neg h40]
      refine OX_to (t_17n (Vc := [T]) ht st3.lx h40' (by omega) rfl (by simp only [List.length_cons]; omega) 0) (OX_reti ⟨cn, rfl, ?_⟩)
      have := fin (s5 := s4) (e5 := e3) (t5 := t3) (sc5 := sc3) (lf5 := lf3) (L := []) (by show cSt tx n s4 e3 false t3 (cn + 1 + tSz T + 0) sc3 W; rw [Int.add_zero]; exact st4) (by show cNo s4 (cn + 1 + tSz T + 0) cn _ cn ([T] ++ []); rw [Int.add_zero]; exact n4') (by show e3 + 0 ≤ e3; omega) (fun x hx => by cases hx) (by show fWt 42 0 0 (fo [T]) + 2 * ((0 : Nat) : Int) ≤ _; omega)
      change Po tx n t.2.2.1 cn rn d V _ S W _ cn s4 (e3, d, rn + tSz T + 0 + 1, sc3, lf3, _, _, S) at this
      rw [Int.add_zero] at this
      exact this
  · have h16' : rNo t ≠ 1015 := (tok_w ht e0.1 e0.2 hs.lx (w := 16) (by decide) (by decide)).2 h16
    rw [if_neg h16]
    refine OX_to (hc.2 t hs.lx h16') (OX_im (OI_tail (S_op_of ht hx hE s e t cn sc W d rn lf V ((16, y, 0, 0, 0) :: K) S hs hm ⟨n1, n2, by simp only [List.length_cons]; omega, n4, n5, n6, n7, n8, by simp only [red_co]; simp; omega⟩ hD)) ?_)
    rintro r s' c' ⟨v, rfl, e', t', sc', lf', T, q1, q2, q3, q4, q5, q6, q7, q8, q9, q10⟩
    exact ⟨v, rfl, e', t', sc', lf', T, q1, q2, q3, q4, q5, q6, q7, q8, q9, fun _ => q10⟩
/-- the loop of left() -/
theorem lf_lp (ht : tOk tx n) {m : Nat} (hx : S_x tx n m) {b cn d rn : Int} {W : List (Int × Int)} {V : List tT} {K : List rTs} {S : List rSg} (hb0 : 0 ≤ b) (hd : 0 ≤ d ∧ d ≤ 20) (hK : (K.length : Int) ≤ 20 * d + 9) (hS : (S.length : Int) = W.length ∧ (S.length : Int) ≤ 10 * d) (hcb : 0 ≤ cn ∧ cn ≤ b + 2) (hrn : 0 ≤ rn ∧ rn + red K ≤ cn) : ∀ (j : Nat) (s : cm_S) (e i v : Int) (t : tTk) (sc : Int) (lf : Bool) (T : tT), n - e < j → n - e ≤ m → cSt tx n s e false t (cn + tSz T) sc W → cTr s cn (cn + tSz T) v T → s.2 11 v = -1 → b + tSz T ≤ e → gG tx n T → xH 1 b s e t lf T → 0 ≤ i → i ≤ e → OI tx n s cn (cm_lp cm_sem cm_k70 7 [some (.inr (.inl 14)), some (.inl d), some (.inl v), some (.inl i)] [] s) (e, d, rn + tSz T, sc, lf, T :: V, (16, 1, 0, 0, 0) :: K, S) (Po tx n b cn rn d V K S W fun s' e' t' lf' T => xH 1 b s' e' t' lf' T ∧ s'.1 1406 = 1) := by
  intro j
  induction j with
  | zero =>
    intro s e i v t sc lf T hj _ hs
    have := hs.e0
    omega
  | succ j ih =>
    intro s e i v t sc lf T hj hm hs htr hnx hsz hg hX hi0 hie
    have e0 := hs.e0
    have num := lxG_r4 ht e0.1 e0.2 hs.lx
    have tz := tSz_1 T
    have go : ∀ {x : Option cm_R}, OI tx n s cn x (e, d, rn + tSz T, sc, lf, T :: V, (16, 1, 0, 0, 0) :: K, S) (Po tx n b cn rn d V ((16, 1, 0, 0, 0) :: K) S W fun s' e' t' lf' T => xH 1 b s' e' t' lf' T ∧ e < e') → OX tx n s cn (cm_bi x fun z1 s1 => cm_lp cm_sem cm_k70 7 [some (.inr (.inl 14)), some (.inl d), some (.inl z1), some (.inl (cm_w (i + 1)))] [] s1) (e, d, rn + tSz T, sc, lf, T :: V, (16, 1, 0, 0, 0) :: K, S) (fun r s' c' => ∃ v, r = some (.inl v) ∧ Po tx n b cn rn d V K S W (fun s' e' t' lf' T => xH 1 b s' e' t' lf' T ∧ s'.1 1406 = 1) v s' c') := by
      intro x hO
      refine OX_bi hO (Int.le_refl _) fun v2 s2 c2 f2 k2 q2 => ?_
      obtain ⟨e2, t2, sc2, lf2, T2, st2, rfl, tr2, nx2, sz2, g2, x2, lt2⟩ := q2
      have e02 := st2.e0
      rw [cm_w_id (by omega) (by omega)]
      exact ih s2 e2 (i + 1) v2 t2 sc2 lf2 T2 (by omega) (by omega) st2 tr2 nx2 sz2 g2 x2 (by omega) (by omega)
    unfold OI
    rw [cE_70_7, cF_70_7, if_neg (by omega), hs.cd]
    have hr0 := red_0 K
    refine OX_ite (fun h => go (ca_of ht hx hs hm h htr hnx ⟨hb0, hsz⟩ hg hX hd hK hS hcb hrn)) fun h40 => OX_ite (fun h => go (ac_of ht hx hs hm (Or.inl h) htr hnx ⟨hb0, hsz⟩ hg hX hd hK hS hcb hrn)) fun h46 => OX_ite (fun h => go (ac_of ht hx hs hm (Or.inr h) htr hnx ⟨hb0, hsz⟩ hg hX hd hK hS hcb hrn)) fun h91 => ?_
    have g1 := (tok_s ht e0.1 e0.2 hs.lx (c := 40) (by decide) (by decide)).2 h40
    have g2 := (tok_s ht e0.1 e0.2 hs.lx (c := 46) (by decide) (by decide)).2 h46
    have g3 := (tok_s ht e0.1 e0.2 hs.lx (c := 91) (by decide) (by decide)).2 h91
    exact OX_to (t_16n ht hs.lx ⟨g2, g3⟩ (Or.inl g1) (by omega)) (OX_retb ⟨v, rfl, e, t, sc, lf, T, cSt_p hs, rfl, cTr_row htr rfl, hnx, hsz, hg, hX, cm_p_at⟩)
/-- LEFT -/
theorem lf_of (ht : tOk tx n) {m : Nat} (hx : S_x tx n m) (hE : S_el tx n m) (hM : S_me tx n m) {s : cm_S} {e : Int} {t : tTk} {cn sc : Int} {W : List (Int × Int)} {d rn : Int} {lf : Bool} {V : List tT} {K : List rTs} {S : List rSg} {c : rC} (hs : cSt tx n s e true t cn sc W) (hm : n - e ≤ m) (hN : Nu t.2.2.1 cn rn d 2 6 K S W) (hc : HdC tx n c e d rn sc lf V K S 1) : OI tx n s cn (cm_sem 70 [.inr (.inl 14), .inl d] s) c (Po tx n t.2.2.1 cn rn d V K S W fun s' e' t' lf' T => xH 1 t.2.2.1 s' e' t' lf' T ∧ s'.1 1406 = 1) := by
  have hN0 := hN
  obtain ⟨n1, n2, n3, n4, n5, n6, n7, n8, n9⟩ := hN
  have e0 := hs.e0
  have num := lxG_r4 ht e0.1 e0.2 hs.lx
  unfold OI
  rw [cS_70, cF_70_0]
  refine OX_bi (hd_of ht hx hE hM (y := 1) hs hm hN0 (dm_16 ht (by omega)) hc) (Int.le_refl _) fun v2 s2 c2 f2 k2 q2 => ?_
  obtain ⟨e2, t2, sc2, lf2, T2, st2, rfl, tr2, nx2, sz2, g2, x2⟩ := q2
  have tz := tSz_1 T2
  have e02 := st2.e0
  exact lf_lp ht hx (by omega) ⟨n1, n2⟩ (by omega) ⟨n4, n5⟩ ⟨n6, n7⟩ ⟨n8, n9⟩ ((n - e2).toNat + 1) s2 e2 0 v2 t2 sc2 lf2 T2 (by omega) (by omega) st2 tr2 nx2 sz2 g2 x2 (by omega) (by omega)
/-- the loop of member() -/
theorem me_lp (ht : tOk tx n) {m : Nat} (hx : S_x tx n m) {b cn d rn : Int} {W : List (Int × Int)} {V : List tT} {K : List rTs} {S : List rSg} (hb0 : 0 ≤ b) (hd : 0 ≤ d ∧ d ≤ 20) (hK : (K.length : Int) ≤ 20 * d + 9) (hS : (S.length : Int) = W.length ∧ (S.length : Int) ≤ 10 * d) (hcb : 0 ≤ cn ∧ cn ≤ b + 2) (hrn : 0 ≤ rn ∧ rn + red K ≤ cn) : ∀ (j : Nat) (s : cm_S) (e i v : Int) (t : tTk) (sc : Int) (lf : Bool) (T : tT), n - e < j → n - e ≤ m → cSt tx n s e false t (cn + tSz T) sc W → cTr s cn (cn + tSz T) v T → s.2 11 v = -1 → b + tSz T ≤ e → gG tx n T → xH 0 b s e t lf T → 0 ≤ i → i ≤ e → OI tx n s cn (cm_lp cm_sem cm_k73 7 [some (.inr (.inl 14)), some (.inl d), some (.inl v), some (.inl i)] [] s) (e, d, rn + tSz T, sc, lf, T :: V, (16, 0, 0, 0, 0) :: K, S) (Po tx n b cn rn d V K S W (xH 0 b)) := by
  intro j
  induction j with
  | zero =>
    intro s e i v t sc lf T hj _ hs
    have := hs.e0
    omega
  | succ j ih =>
    intro s e i v t sc lf T hj hm hs htr hnx hsz hg hX hi0 hie
    have e0 := hs.e0
    have num := lxG_r4 ht e0.1 e0.2 hs.lx
    have tz := tSz_1 T
    have hr0 := red_0 K
    have go : ∀ {x : Option cm_R}, OI tx n s cn x (e, d, rn + tSz T, sc, lf, T :: V, (16, 0, 0, 0, 0) :: K, S) (Po tx n b cn rn d V ((16, 0, 0, 0, 0) :: K) S W fun s' e' t' lf' T => xH 0 b s' e' t' lf' T ∧ e < e') → OX tx n s cn (cm_bi x fun z1 s1 => cm_lp cm_sem cm_k73 7 [some (.inr (.inl 14)), some (.inl d), some (.inl z1), some (.inl (cm_w (i + 1)))] [] s1) (e, d, rn + tSz T, sc, lf, T :: V, (16, 0, 0, 0, 0) :: K, S) (fun r s' c' => ∃ v, r = some (.inl v) ∧ Po tx n b cn rn d V K S W (xH 0 b) v s' c') := by
      intro x hO
      refine OX_bi hO (Int.le_refl _) fun v2 s2 c2 f2 k2 q2 => ?_
      obtain ⟨e2, t2, sc2, lf2, T2, st2, rfl, tr2, nx2, sz2, g2, x2, lt2⟩ := q2
      have e02 := st2.e0
      rw [cm_w_id (by omega) (by omega)]
      exact ih s2 e2 (i + 1) v2 t2 sc2 lf2 T2 (by omega) (by omega) st2 tr2 nx2 sz2 g2 x2 (by omega) (by omega)
    unfold OI
    rw [cE_73_7, cF_73_7, if_neg (by omega), hs.cd]
    refine OX_ite (fun h => go (ac_of ht hx hs hm (Or.inl h) htr hnx ⟨hb0, hsz⟩ hg hX hd hK hS hcb hrn)) fun h46 => OX_ite (fun h => go (ac_of ht hx hs hm (Or.inr h) htr hnx ⟨hb0, hsz⟩ hg hX hd hK hS hcb hrn)) fun h91 => ?_
    have g2 := (tok_s ht e0.1 e0.2 hs.lx (c := 46) (by decide) (by decide)).2 h46
    have g3 := (tok_s ht e0.1 e0.2 hs.lx (c := 91) (by decide) (by decide)).2 h91
    exact OX_to (t_16n ht hs.lx ⟨g2, g3⟩ (Or.inr (by decide)) (by omega)) (OX_reti ⟨v, rfl, e, t, sc, lf, T, hs, rfl, htr, hnx, hsz, hg, hX⟩)
theorem S_me_of (ht : tOk tx n) {m : Nat} (hx : S_x tx n m) (hE : S_el tx n m) (hM : S_me tx n m) : S_me tx n (m + 1) := by
  intro s e t cn sc W d rn lf V K S c hs hm hN hD hc
  have hN0 := hN
  obtain ⟨n1, n2, n3, n4, n5, n6, n7, n8, n9⟩ := hN
  have e0 := hs.e0
  have num := lxG_r4 ht e0.1 e0.2 hs.lx
  unfold OI
  rw [cS_73, cF_73_0]
  refine OX_bi (hd_of ht hx hE hM (y := 0) hs (by omega) ⟨n1, n2, by omega, n4, n5, n6, n7, n8, n9⟩ (dm_16 ht (by omega)) hc) (Int.le_refl _) fun v2 s2 c2 f2 k2 q2 => ?_
  obtain ⟨e2, t2, sc2, lf2, T2, st2, rfl, tr2, nx2, sz2, g2, x2⟩ := q2
  have tz := tSz_1 T2
  have e02 := st2.e0
  exact me_lp ht hx (by omega) ⟨n1, n2⟩ (by omega) ⟨n4, n5⟩ ⟨n6, n7⟩ ⟨n8, n9⟩ ((n - e2).toNat + 1) s2 e2 0 v2 t2 sc2 lf2 T2 (by omega) (by omega) st2 tr2 nx2 sz2 g2 x2 (by omega) (by omega)
end TX51
