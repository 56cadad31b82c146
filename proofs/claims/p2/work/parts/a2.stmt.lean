/-! ===== statements ===== -/
section TX58
variable {tx : Int → Int} {n : Int}
/-- which ones end with ; -/
abbrev semi (k : Int) : Prop := k = 2 ∨ k = 5 ∨ k = 7 ∨ k = 11 ∨ k = 12 ∨ k = 13 ∨ k = 17
/-- a statement up to its ;: complete, or the reference still stands ahead of the ; -/
def PoU (tx : Int → Int) (n : Int) (b cn rn d : Int) (V : List tT) (K : List rTs) (S : List rSg) (W : List (Int × Int)) (v : Int) (s' : cm_S) (c' : rC) : Prop := PoS tx n b cn rn (d + 1) V ((4, 0, 0, 0, 0) :: K) S W (fun k => isS k ∧ ¬ semi k) v s' c' ∨ ∃ (e' : Int) (t' : tTk) (sc' : Int) (lf' : Bool) (T : tT) (rx : Int) (Vx : List tT) (Kx : List rTs), cSt tx n s' e' false t' (cn + tSz T) sc' W ∧ c' = (e', d + 1, rx, sc', lf', Vx, (6, 0, 0, 0, 0) :: Kx, S) ∧ cTr s' cn (cn + tSz T) v T ∧ s'.2 11 v = -1 ∧ b < e' ∧ b + tSz T ≤ e' + 1 ∧ gG tx n T ∧ isS T.1.1 ∧ semi T.1.1 ∧ tWt T ≤ 2 * (e' - b) + 1 ∧ (∀ e'' sc'', ∃ lf'', rTo tx n (e'', d + 1, rx, sc'', lf', Vx, Kx, S) (e'', d, rn + tSz T, sc'', lf'', T :: V, K, S)) ∧ Dm tx n Kx Vx.length S ∧ rx + red Kx ≤ 486 ∧ (Kx.length : Int) ≤ 870
theorem U_ns {s : cm_S} {e b cn rn d sc k p l code v : Int} {t : tTk} {lf : Bool} {V : List tT} {K : List rTs} {S : List rSg} {W : List (Int × Int)} {L : List tT} (hs : cSt tx n s e false t (cn + (1 + fSz (fo L))) sc W) (hn : cNo s (cn + (1 + fSz (fo L))) v (k, p, l, code) cn L) (hk : isS k) (hs2 : ¬ semi k) (hbe : b < e) (hsz : b + (1 + fSz (fo L)) ≤ t.2.2.1 + dl t) (hg : gG tx n ((k, p, l, code, false), fo L)) (hw : tOw (k, p, l, code, false) (L.length : Int) + fWt k code 0 (fo L) ≤ 2 * (t.2.2.1 - b) + dl t) : PoU tx n b cn rn d V K S W v s (e, d + 1, rn + (1 + fSz (fo L)), sc, lf, ((k, p, l, code, false), fo L) :: V, (4, 0, 0, 0, 0) :: K, S) := by
  obtain ⟨tr, nx⟩ := cNo_tr hn false
  refine Or.inl ⟨e, t, sc, lf, ((k, p, l, code, false), fo L), hs, rfl, tr, nx, hbe, hsz, hg, ⟨hk, hs2⟩, ?_⟩
  show tOw (k, p, l, code, false) (fLn (fo L)) + fWt k code 0 (fo L) ≤ _
  rw [fLn_fo]
  exact hw
theorem U_se {s : cm_S} {e b cn rn d sc k p l code v : Int} {t : tTk} {lf : Bool} {V : List tT} {K : List rTs} {S : List rSg} {W : List (Int × Int)} {L : List tT} (hs : cSt tx n s e false t (cn + (1 + fSz (fo L))) sc W) (hn : cNo s (cn + (1 + fSz (fo L))) v (k, p, l, code) cn L) (hk : isS k) (hs2 : semi k) (hbe : b < e) (hsz : b + fSz (fo L) ≤ e) (hg : gG tx n ((k, p, l, code, false), fo L)) (hw : tOw (k, p, l, code, false) (L.length : Int) + fWt k code 0 (fo L) ≤ 2 * (e - b) + 1) (hd : 0 ≤ d ∧ d < 20) (hK : (K.length : Int) ≤ 20 * d + 20) (hrn : 0 ≤ rn ∧ rn + fSz (fo L) + 1 + red K ≤ 486) (hD : Dm tx n K (V.length + 1) S) : PoU tx n b cn rn d V K S W v s (e, d + 1, rn + fSz (fo L), sc, lf, L.reverse ++ V, (6, 0, 0, 0, 0) :: (3, k, p, l, V.length) :: (4, 0, 0, 0, 0) :: K, S) := by
  obtain ⟨tr, nx⟩ := cNo_tr hn false
  have hr0 := red_0 K
  have f0 := fSz_0 (fo L)
  have go : ∀ e'' sc'', rTo tx n (e'', d + 1, rn + fSz (fo L), sc'', lf, L.reverse ++ V, (3, k, p, l, V.length) :: (4, 0, 0, 0, 0) :: K, S) (e'', d, rn + tSz ((k, p, l, code, false), fo L), sc'', lf && decide (k < 44 ∨ 49 < k), ((k, p, l, code, false), fo L) :: V, K, S) := fun e'' sc'' => by
    have h1 := t_red (tx := tx) (n := n) (e := e'') (d := d + 1) (rn := rn + fSz (fo L)) (pu := sc'') (lf := lf) (Vc := L.reverse) (V0 := V) (K := (4, 0, 0, 0, 0) :: K) (S := S) (k := k) (p := p) (l := l) (m := V.length) rfl (by omega) (by simp only [List.length_cons]; omega) code
    rw [foR_rev] at h1
    have h2 := t_lv (tx := tx) (n := n) (e := e'') (d := d) (rn := rn + fSz (fo L) + 1) (pu := sc'') (lf := lf && decide (k < 44 ∨ 49 < k)) (V := ((k, p, l, code, false), fo L) :: V) (K := K) (S := S) (a := 0) (b := 0) (c := 0) (x := 0) (by omega) (by omega) (by omega)
    have : rn + tSz ((k, p, l, code, false), fo L) = rn + fSz (fo L) + 1 := by
      show rn + (1 + fSz (fo L)) = _
      omega
    rw [this]
    exact h1.tr h2
  refine Or.inr ⟨e, t, sc, lf, ((k, p, l, code, false), fo L), rn + fSz (fo L), L.reverse ++ V, (3, k, p, l, V.length) :: (4, 0, 0, 0, 0) :: K, hs, rfl, tr, nx, hbe, ?_, hg, hk, hs2, ?_, fun e'' sc'' => ⟨_, go e'' sc''⟩, dm_red (dm_lv hD) (by simp), by simp only [red_co]; simp; omega, by simp only [List.length_cons]; omega⟩
  · show b + (1 + fSz (fo L)) ≤ e + 1
    omega
  · show tOw (k, p, l, code, false) (fLn (fo L)) + fWt k code 0 (fo L) ≤ _
    rw [fLn_fo]
    exact hw
theorem tWb_0 (T : tT) : tWb 0 T = tWt T := by
  have := tB_0 T.1
  unfold tWb
  rw [if_neg (by omega)]
  omega
/-- if ( X ) s, perhaps else s -/
theorem U_if (ht : tOk tx n) {m : Nat} (hx : S_x tx n m) (hSt : S_st tx n m) {s : cm_S} {e : Int} {t : tTk} {cn sc : Int} {W : List (Int × Int)} {d rn : Int} {lf : Bool} {V : List tT} {K : List rTs} {S : List rSg} (hs : cSt tx n s e true t cn sc W) (hm : n - e ≤ m) (hc : t.2.1 = 13) (hd : 0 ≤ d ∧ d < 20) (hK : (K.length : Int) ≤ 20 * d + 20) (hS : (S.length : Int) = W.length ∧ (S.length : Int) ≤ 10 * d) (hcb : 0 ≤ cn ∧ cn ≤ t.2.2.1 + 1) (hrn : 0 ≤ rn ∧ rn + red K ≤ cn) (hD : Dm tx n K (V.length + 1) S) : OI tx n s cn (cm_sem 91 [.inr (.inl 14), .inl (d + 1)] s) (t.2.2.2.1, d + 1, rn, sc, lf, V, (5, 40, 0, 0, 0) :: (7, 0, 0, 0, 0) :: (5, 41, 0, 0, 0) :: (2, 0, 0, 0, 0) :: (32, 0, 0, 0, 0) :: (3, 6, t.2.2.1, 0, V.length) :: (4, 0, 0, 0, 0) :: K, S) (PoU tx n t.2.2.1 cn rn d V K S W) := by
  have e0 := hs.e0
  have num := lxG_r4 ht e0.1 e0.2 hs.lx
  have hr0 := red_0 K
  obtain ⟨a1, a2⟩ := tok_l ht e0.1 e0.2 hs.lx (w := 13) (by decide) (by decide) hc
  have a3 : wl 13 = 2 := by decide
  unfold OI
  rw [cS_91, cF_91_0]
  refine X_first ht hs hcb.1 (by omega) (Int.le_refl _) (fun hN' => dm_5 ht (m := V.length) _ _ _ _ _ _ (by omega) (by omega) hN' rfl (by simp only [red_co]; simp; omega) (by simp only [List.length_cons]; omega)) fun t1 s1 hT1 k1 b1 n1' st1 => ?_
  have e01 := st1.e0
  have num1 := lxG_r4 ht e01.1 e01.2 st1.lx
  refine OX_bv (S_co_of (a := 0) ht hx (d := d + 1) (rn := rn) (lf := lf) (V := V) (K := (2, 0, 0, 0, 0) :: (32, 0, 0, 0, 0) :: (3, 6, t.2.2.1, 0, V.length) :: (4, 0, 0, 0, 0) :: K) (S := S) st1 (by omega) n1' ⟨by omega, by omega, by simp only [List.length_cons]; omega, hS.1, by omega, by omega, by omega, hrn.1, by simp only [red_co]; simp; omega⟩ (dm_20 ht)) (Int.le_refl _) fun s2 c2 f2 k2 q2 => ?_
  obtain ⟨e2, t2, sc2, lf2, T2, st2, rfl, n2', sz2, g2, x2, w2⟩ := q2
  have tz2 := tSz_1 T2
  have e02 := st2.e0
  have num2 := lxG_r4 ht e02.1 e02.2 st2.lx
  refine OX_bi (hSt s2 e2 false t2 (cn + 1 + tSz T2) sc2 W (d + 1) (rn + tSz T2) 0 lf2 (T2 :: V) ((32, 0, 0, 0, 0) :: (3, 6, t.2.2.1, 0, V.length) :: (4, 0, 0, 0, 0) :: K) S st2 (by omega) (Or.inl rfl) ⟨by omega, by omega, by simp only [List.length_cons]; omega, hS.1, by omega, by omega, by omega, by omega, by simp only [red_co]; simp; omega⟩ (dm_32 ht)) (by omega) fun v3 s3 c3 f3 k3 q3 => ?_
  obtain ⟨e3, t3, sc3, lf3, T3, st3, rfl, tr3, nx3, lt3, sz3, g3, x3, w3⟩ := q3
  have tz3 := tSz_1 T3
  have e03 := st3.e0
  have num3 := lxG_r4 ht e03.1 e03.2 st3.lx
  have dl3 := dl_01 t3
  refine X_add st3 (by omega) (cNo_fr n2' k3 (Int.le_refl _)) tr3 nx3 (Int.le_refl _) fun s4 k4 b4 n4' st4 => ?_
  rw [st4.cd]
  have wa : fWt 6 0 0 (fo ([] ++ [T2])) ≤ 0 + (2 * (e2 - t1.2.2.1) - 4) := fWt_c0 (a := []) (tWn_0 (Or.inl (by decide))) (by omega) (by decide)
  have wa' : fWt 6 0 0 (fo ([] ++ [T2])) = fWt 6 0 0 (fo [T2]) := rfl
  have wb : fWt 6 0 0 (fo ([T2] ++ [T3])) ≤ fWt 6 0 0 (fo [T2]) + (2 * (t3.2.2.1 - t2.2.2.1) + dl t3) := fWt_c0 (a := [T2]) (tWn_0 (Or.inl (by decide))) w3 (by decide)
  have eS3 : fSz (fo ([] ++ [T2] ++ [T3])) = tSz T2 + tSz T3 := by rw [fSz_fo]; show fSz (fo [T2]) + tSz T3 = _; rw [fSz_1]
  by_cases h8 : t3.2.1 = 8
  · obtain ⟨b1', b2'⟩ := tok_l ht e03.1 e03.2 st3.lx (w := 8) (by decide) (by decide) h8
    have b3' : wl 8 = 4 := by decide
    have dl3' : dl t3 = 0 := by unfold dl; rw [if_neg (by omega)]
    rw [if_pos h8]
    refine OX_to (t_32y ht st3.lx b1' (by simp only [List.length_cons]; omega)) ?_
    refine X_next ht st4 (fun hN' => dm_20 ht (m := (T3 :: T2 :: V).length) _ _ _ _ _ _ (by omega) (by omega) hN' rfl (by simp only [red_co]; simp; omega) (by simp only [List.length_cons]; omega)) fun t5 s5 hT5 e5 b5 st5 => ?_
    have e05 := st5.e0
    have num5 := lxG_r4 ht e05.1 e05.2 st5.lx
    refine OX_bi (hSt s5 t3.2.2.2.1 false t5 (cn + 1 + tSz T2 + tSz T3) sc3 W (d + 1) (rn + tSz T2 + tSz T3) 0 lf3 (T3 :: T2 :: V) ((3, 6, t.2.2.1, 0, V.length) :: (4, 0, 0, 0, 0) :: K) S st5 (by omega) (Or.inl rfl) ⟨by omega, by omega, by simp only [List.length_cons]; omega, hS.1, by omega, by omega, by omega, by omega, by simp only [red_co]; simp; omega⟩ (dm_red (dm_lv hD) (by simp only [List.length_cons]; omega))) (by omega) fun v6 s6 c6 f6 k6 q6 => ?_
    obtain ⟨e6, t6, sc6, lf6, T6, st6, rfl, tr6, nx6, lt6, sz6, g6, x6, w6⟩ := q6
    have tz6 := tSz_1 T6
    have e06 := st6.e0
    have num6 := lxG_r4 ht e06.1 e06.2 st6.lx
    have dl6 := dl_01 t6
    refine X_add st6 (by omega) (cNo_fr (cNo_row n4' e5) k6 (Int.le_refl _)) tr6 nx6 (Int.le_refl _) fun s7 k7 b7 n7' st7 => ?_
    have eS6 : fSz (fo ([] ++ [T2] ++ [T3] ++ [T6])) = tSz T2 + tSz T3 + tSz T6 := by rw [fSz_fo, eS3]
    have wc : fWt 6 0 0 (fo ([T2] ++ [T3] ++ [T6])) ≤ fWt 6 0 0 (fo ([T2] ++ [T3])) + (2 * (t6.2.2.1 - t5.2.2.1) + dl t6) := fWt_c0 (a := [T2] ++ [T3]) (tWn_0 (Or.inl (by decide))) w6 (by decide)
    refine OX_to (t_red (Vc := [T6, T3, T2]) rfl (by omega) (by simp only [List.length_cons]; omega) 0) (OX_reti ⟨cn, rfl, ?_⟩)
    have := U_ns (tx := tx) (n := n) (s := s7) (e := e6) (b := t.2.2.1) (cn := cn) (rn := rn) (d := d) (sc := sc6) (k := 6) (p := t.2.2.1) (l := 0) (code := 0) (v := cn) (t := t6) (lf := lf6) (V := V) (K := K) (S := S) (W := W) (L := [] ++ [T2] ++ [T3] ++ [T6]) (by rw [eS6, show cn + (1 + (tSz T2 + tSz T3 + tSz T6)) = cn + 1 + tSz T2 + tSz T3 + tSz T6 by omega]; exact st7) (by rw [eS6, show cn + (1 + (tSz T2 + tSz T3 + tSz T6)) = cn + 1 + tSz T2 + tSz T3 + tSz T6 by omega]; exact n7') (by unfold isS; omega) (by decide) (by omega) (by omega) (gG_mk (gT_no (by simp) (by show 0 ≤ t.2.2.1; omega) (by show t.2.2.1 ≤ n; omega) rfl) ⟨T2.1.1, T3.1.1, x2, x3, Or.inr ⟨T6.1.1, rfl, x6⟩⟩ (gW_no (show (6 : Int) ≠ 5 by decide)) fun x hx => by
      have : x = T2 ∨ x = T3 ∨ x = T6 := by simpa using hx
      rcases this with rfl | rfl | rfl
      · exact g2
      · exact g3
      · exact g6) (by
      show 8 * ((3 : Nat) : Int) - 10 + fWt 6 0 0 (fo ([T2] ++ [T3] ++ [T6])) ≤ _
      omega)
    rw [eS6, show rn + (1 + (tSz T2 + tSz T3 + tSz T6)) = rn + tSz T2 + tSz T3 + tSz T6 + 1 by omega] at this
    simp only [show decide ((6 : Int) < 44 ∨ 49 < (6 : Int)) = true by decide, Bool.and_true]
    exact this
  · have h8' : rNo t3 ≠ 1007 := (tok_w ht e03.1 e03.2 st3.lx (w := 8) (by decide) (by decide)).2 h8
    rw [if_neg h8]
    refine OX_to (t_32n ht st3.lx h8' (by simp only [List.length_cons]; omega)) (OX_to (t_red (Vc := [T3, T2]) rfl (by omega) (by simp only [List.length_cons]; omega) 0) (OX_reti ⟨cn, rfl, ?_⟩))
    have := U_ns (tx := tx) (n := n) (s := s4) (e := e3) (b := t.2.2.1) (cn := cn) (rn := rn) (d := d) (sc := sc3) (k := 6) (p := t.2.2.1) (l := 0) (code := 0) (v := cn) (t := t3) (lf := lf3) (V := V) (K := K) (S := S) (W := W) (L := [] ++ [T2] ++ [T3]) (by rw [eS3, show cn + (1 + (tSz T2 + tSz T3)) = cn + 1 + tSz T2 + tSz T3 by omega]; exact st4) (by rw [eS3, show cn + (1 + (tSz T2 + tSz T3)) = cn + 1 + tSz T2 + tSz T3 by omega]; exact n4') (by unfold isS; omega) (by decide) (by omega) (by omega) (gG_mk (gT_no (by simp) (by show 0 ≤ t.2.2.1; omega) (by show t.2.2.1 ≤ n; omega) rfl) ⟨T2.1.1, T3.1.1, x2, x3, Or.inl rfl⟩ (gW_no (show (6 : Int) ≠ 5 by decide)) fun x hx => by
      have : x = T2 ∨ x = T3 := by simpa using hx
      rcases this with rfl | rfl
      · exact g2
      · exact g3) (by
      show 8 * ((2 : Nat) : Int) - 10 + fWt 6 0 0 (fo ([T2] ++ [T3])) ≤ _
      omega)
    rw [eS3, show rn + (1 + (tSz T2 + tSz T3)) = rn + tSz T2 + tSz T3 + 1 by omega] at this
    simp only [show decide ((6 : Int) < 44 ∨ 49 < (6 : Int)) = true by decide, Bool.and_true]
    exact this
end TX58
