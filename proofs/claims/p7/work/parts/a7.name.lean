/-! ===== break, continue; labels; expressions ===== -/
section TX63
variable {tx : Int → Int} {n : Int}
/-- break, continue: complete, ahead of its ; -/
theorem U_jp (ht : tOk tx n) {s : cm_S} {e b cn rn d sc k p l v : Int} {t : tTk} {lf : Bool} {V : List tT} {K : List rTs} {S : List rSg} {W : List (Int × Int)} (hs : cSt tx n s e false t (cn + 1) sc W) (hn : cNo s (cn + 1) v (k, p, l, 0) cn []) (hk : k = 11 ∨ k = 12) (hbe : b < e) (hg : gT tx n (k, p, l, 0, false)) (hw : tOw (k, p, l, 0, false) 0 ≤ 2 * (e - b) + 1) (hd : 0 ≤ d ∧ d < 20) (hK : (K.length : Int) ≤ 20 * d + 20) (hrn : 0 ≤ rn ∧ rn + 1 + red K ≤ 486) (hD : Dm tx n K (V.length + 1) S) : PoU tx n b cn rn d V K S W v s (e, d + 1, rn + 1, sc, lf, ((k, p, l, 0, false), .leaf) :: V, (6, 0, 0, 0, 0) :: (4, 0, 0, 0, 0) :: K, S) := by
  obtain ⟨tr, nx⟩ := cNo_tr hn false
  have hr0 := red_0 K
  have z : tSz ((k, p, l, 0, false), (.leaf : tF)) = 1 := rfl
  have ks : isS k := by unfold isS; omega
  have km : semi k := by unfold semi; omega
  refine Or.inr ⟨e, t, sc, lf, ((k, p, l, 0, false), .leaf), rn + 1, ((k, p, l, 0, false), .leaf) :: V, (4, 0, 0, 0, 0) :: K, hs, rfl, tr, nx, hbe, by omega, ?_, ks, km, ?_, fun e'' sc'' => ⟨lf, ?_⟩, dm_lv hD, by simp only [red_co]; simp; omega, by simp only [List.length_cons]; omega⟩
  · refine gG_mk (L := []) hg ?_ (gW_no (show k ≠ 5 by omega)) fun x hx => by cases hx
    rcases hk with rfl | rfl <;> rfl
  · show tOw (k, p, l, 0, false) 0 + 0 ≤ _
    omega
  · exact t_lv (by omega) (by omega) (by omega)
theorem U_ju (ht : tOk tx n) {s : cm_S} {e : Int} {t : tTk} {cn sc k : Int} {W : List (Int × Int)} {d rn : Int} {lf : Bool} {V : List tT} {K : List rTs} {S : List rSg} {c0 : rC} (hs : cSt tx n s e true t cn sc W) (hc : t.2.1 = 1 ∧ k = 12 ∨ t.2.1 = 4 ∧ k = 11) (hd : 0 ≤ d ∧ d < 20) (hK : (K.length : Int) ≤ 20 * d + 20) (hcb : 0 ≤ cn ∧ cn ≤ t.2.2.1 + 1) (hrn : 0 ≤ rn ∧ rn + red K ≤ cn) (hD : Dm tx n K (V.length + 1) S) (c1 : lxG tx n false t.2.2.2.1 = none → rBd tx n c0) (c2 : ∀ t2, lxG tx n false t.2.2.2.1 = some t2 → rNo t2 = 1 → t2.2.2.2.2 = false → rTo tx n c0 (t2.2.2.2.1, d + 1, rn + 1, sc, lf, ((k, t2.2.2.1, t2.2.2.2.1 - t2.2.2.1, 0, false), .leaf) :: V, (6, 0, 0, 0, 0) :: (4, 0, 0, 0, 0) :: K, S)) (c3 : ∀ t2, lxG tx n false t.2.2.2.1 = some t2 → ¬ (rNo t2 = 1 ∧ t2.2.2.2.2 = false) → rTo tx n c0 (t.2.2.2.1, d + 1, rn + 1, sc, lf, ((k, t.2.2.1, 0, 0, false), .leaf) :: V, (6, 0, 0, 0, 0) :: (4, 0, 0, 0, 0) :: K, S)) : OI tx n s cn (cm_sem 99 [.inr (.inl 14), .inl k] s) c0 (PoU tx n t.2.2.1 cn rn d V K S W) := by
  have e0 := hs.e0
  have num := lxG_r4 ht e0.1 e0.2 hs.lx
  have hr0 := red_0 K
  have len : k = 12 ∧ t.2.2.2.1 = t.2.2.1 + 5 ∨ k = 11 ∧ t.2.2.2.1 = t.2.2.1 + 8 := by
    rcases hc with ⟨hc, hk⟩ | ⟨hc, hk⟩
    · obtain ⟨a1, a2⟩ := tok_l ht e0.1 e0.2 hs.lx (w := 1) (by decide) (by decide) hc
      exact Or.inl ⟨hk, a2⟩
    · obtain ⟨a1, a2⟩ := tok_l ht e0.1 e0.2 hs.lx (w := 4) (by decide) (by decide) hc
      exact Or.inr ⟨hk, a2⟩
  have w0 : ∀ l p, tOw (k, p, l, 0, false) 0 = (if k = 12 then 11 else 17) + 2 * l := fun l p => by
    rcases len with ⟨rfl, _⟩ | ⟨rfl, _⟩ <;> rfl
  unfold OI
  rw [cS_99, cF_99_0]
  refine X_next ht hs c1 fun t1 s1 hT1 e1 b1 st1 => ?_
  have e01 := st1.e0
  have num1 := lxG_r4 ht e01.1 e01.2 st1.lx
  have sk := tok_k ht e01.1 e01.2 st1.lx
  have oth : ¬ (rNo t1 = 1 ∧ t1.2.2.2.2 = false) → OX tx n s1 cn (cm_bi (cm_sem 45 [.inr (.inl 4), .inl k, .inl (s.1 1505), .inl 0, .inl 0] s1) fun z5 s5 => some (.inl (some (.inl z5)), s5)) c0 (fun r s' c' => ∃ v, r = some (.inl v) ∧ PoU tx n t.2.2.1 cn rn d V K S W v s' c') := fun hh => by
    rw [hs.bg]
    refine X_make st1 hcb.1 (by omega) (Int.le_refl _) fun s2 k2 b2 n2' st2 => ?_
    refine OX_to (c3 t1 hT1 hh) (OX_reti ⟨cn, rfl, ?_⟩)
    refine U_jp ht st2 n2' (by omega) (by omega) ?_ (by rw [w0]; split <;> omega) hd hK (by omega) hD
    refine ⟨by show 0 ≤ t.2.2.1; omega, by show (0 : Int) ≤ 0; omega, by show t.2.2.1 + 0 ≤ n; omega, ?_⟩
    rw [if_neg (by show ¬ (k = 3 ∨ _); omega), if_pos (by show k = 11 ∨ _; omega)]
    exact Or.inl rfl
  rw [st1.kd, st1.ln]
  by_cases h1 : t1.1 = 1
  · rw [if_pos h1]
    by_cases hl : t1.2.2.2.2 = true
    · rw [hl, if_neg (by decide)]
      exact oth (by rw [hl]; simp)
    · have hl : t1.2.2.2.2 = false := by simpa using hl
      have lt1 := (sk.1 h1).2
      have hz := tk_1 ht e01.1 e01.2 st1.lx h1
      rw [hl, if_pos (by decide), cs_40 st1.bg st1.fi (by omega) (by omega) (by omega), cm_bi_i, st1.bg]
      refine OX_to (c2 t1 hT1 (sk.1 h1).1 hl) ?_
      clear sk
      refine X_make st1 hcb.1 (by omega) (Int.le_refl _) fun s2 k2 b2 n2' st2 => ?_
      refine X_next ht st2 (fun hN' => dm_6 ht (m := V.length + 1) _ _ _ _ _ _ (by omega) (by omega) hN' rfl (by simp only [red_co]; simp; omega) (by simp only [List.length_cons]; omega)) fun t3 s3 hT3 e3 b3 st3 => ?_
      refine OX_reti ⟨cn, rfl, U_jp ht st3 (cNo_row n2' e3) (by omega) (by omega) ?_ (by rw [w0]; split <;> omega) hd hK (by omega) hD⟩
      have := gT_tk ht e01.1 e01.2 st1.lx (k := k) false (by rw [if_neg (by omega), if_pos (by omega)]; exact h1)
      rw [hz] at this
      exact this
  · rw [if_neg h1]
    exact oth fun z => sk.2.1 h1 z.1
/-- NAME : s, or an expression that begins with a name -/
theorem U_xn (ht : tOk tx n) {m : Nat} (hx : S_x tx n (m + 1)) (hSt : S_st tx n m) {s : cm_S} {e : Int} {t : tTk} {cn sc : Int} {W : List (Int × Int)} {d rn : Int} {lf : Bool} {V : List tT} {K : List rTs} {S : List rSg} {c0 : rC} (hs : cSt tx n s e true t cn sc W) (hm : n - e ≤ m) (hc : t.1 = 1) (hd : 0 ≤ d ∧ d < 20) (hK : (K.length : Int) ≤ 20 * d + 20) (hS : (S.length : Int) = W.length ∧ (S.length : Int) ≤ 10 * d) (hcb : 0 ≤ cn ∧ cn ≤ t.2.2.1 + 1) (hrn : 0 ≤ rn ∧ rn + red K ≤ cn) (hD : Dm tx n K (V.length + 1) S) (c1 : lxG tx n false t.2.2.2.1 = none → rBd tx n c0) (c2 : ∀ t2, lxG tx n false t.2.2.2.1 = some t2 → rNo t2 = 58 → rTo tx n c0 (t2.2.2.2.1, d + 1, rn, sc, lf, V, (2, 0, 0, 0, 0) :: (3, 16, t.2.2.1, t.2.2.2.1 - t.2.2.1, V.length) :: (4, 0, 0, 0, 0) :: K, S)) (c3 : ∀ t2, lxG tx n false t.2.2.2.1 = some t2 → rNo t2 ≠ 58 → rTo tx n c0 (e, d + 1, rn, sc, lf, V, (7, 0, 0, 0, 0) :: (6, 0, 0, 0, 0) :: (3, 5, t.2.2.1, 0, V.length) :: (4, 0, 0, 0, 0) :: K, S)) : OI tx n s cn (cm_sem 106 [.inr (.inl 14), .inl (d + 1)] s) c0 (PoU tx n t.2.2.1 cn rn d V K S W) := by
  have e0 := hs.e0
  have num := lxG_r4 ht e0.1 e0.2 hs.lx
  have hr0 := red_0 K
  have hz := tk_1 ht e0.1 e0.2 hs.lx hc
  have lt0 := ((tok_k ht e0.1 e0.2 hs.lx).1 hc).2
  have hs' := cSt_q hs (z := cm_n (blE tx n 481 t.2.2.2.1 false).2.1)
  unfold OI
  rw [cS_106, cF_106_0, hs.kd, if_pos hc, cs_107 ht hs, cm_bi_i]
  refine OX_from (s1 := cm_p s 1502 (cm_n (blE tx n 481 t.2.2.2.1 false).2.1)) ?_ ?_ ?_
  · exact ⟨fun _ _ => rfl, fun j hj => cm_p_ne (by omega)⟩
  · exact cKp_row rfl _
  cases hN : lxG tx n false t.2.2.2.1 with
  | none =>
    have bd := c1 hN
    refine OX_ite (fun _ => ?_) (fun _ => ?_)
    · refine X_here hs' hcb.1 (by omega) (Int.le_refl _) fun s1 k1 b1 n1' st1 => ?_
      exact OX_bi (nm_76 ht st1 (by omega) (by omega) hc hN bd _ _) (by omega) fun _ _ _ _ _ q => q.elim
    · refine X_of ht hs' hcb.1 (by omega) (Int.le_refl _) (fun _ => bd) fun t1 s1 hT1 => ?_
      rw [hN] at hT1
      cases hT1
  | some t2 =>
    have e02 : 0 ≤ t.2.2.2.1 ∧ t.2.2.2.1 ≤ n := by omega
    have num2 := lxG_r4 ht e02.1 e02.2 hN
    have co := lxG_co ht e02.1 e02.2 hN
    have s58 := tok_s ht e02.1 e02.2 hN (c := 58) (by decide) (by decide)
    by_cases h58 : t2.2.1 = 58
    · obtain ⟨g1, g2⟩ := s58.1 h58
      clear s58
      rw [show cm_b (tA tx n (blE tx n 481 t.2.2.2.1 false).1 = 58) = 1 from by simp [cm_b, co.2 h58], if_neg (by decide)]
      refine OX_to (c2 t2 hN g1) ?_
      refine X_of ht hs' hcb.1 (by omega) (Int.le_refl _) (fun hN' => by rw [hN] at hN'; cases hN') fun t1 s1 hT1 k1 b1 n1' st1 => ?_
      rw [hN] at hT1
      cases hT1
      refine X_psk ht st1 h58 (fun hN' => dm_20 ht (m := V.length) _ _ _ _ _ _ (by omega) (by omega) hN' rfl (by simp only [red_co]; simp; omega) (by simp only [List.length_cons]; omega)) fun t3 s3 hT3 e3 b3 st3 => ?_
      have e03 := st3.e0
      have num3 := lxG_r4 ht e03.1 e03.2 st3.lx
      refine OX_bi (hSt s3 t2.2.2.2.1 false t3 (cn + 1) sc W (d + 1) rn 0 lf V ((3, 16, t.2.2.1, t.2.2.2.1 - t.2.2.1, V.length) :: (4, 0, 0, 0, 0) :: K) S st3 (by omega) (Or.inl rfl) ⟨by omega, by omega, by simp only [List.length_cons]; omega, hS.1, by omega, by omega, by omega, by omega, by simp only [red_co]; simp; omega⟩ (dm_red (dm_lv hD) (by omega))) (by omega) fun v4 s4 cc4 f4 k4 q4 => ?_
      obtain ⟨e4, t4, sc4, lf4, T, st4, rfl, tr4, nx4, lt4, sz4, g4, x4, w4⟩ := q4
      have tz := tSz_1 T
      have e04 := st4.e0
      have num4 := lxG_r4 ht e04.1 e04.2 st4.lx
      have dl4 := dl_01 t4
      refine X_add st4 (by omega) (cNo_fr (cNo_row n1' e3) k4 (Int.le_refl _)) tr4 nx4 (Int.le_refl _) fun s5 k5 b5 n5' st5 => ?_
      have eL : fSz (fo ([] ++ [T])) = tSz T := fSz_1 T
      have wa : fWt 16 0 0 (fo ([] ++ [T])) ≤ 0 + (2 * (t4.2.2.1 - t3.2.2.1) + dl t4) := fWt_c0 (a := []) (tWn_0 (Or.inl (by decide))) w4 (by decide)
      refine OX_to (t_red (Vc := [T]) rfl (by omega) (by simp only [List.length_cons]; omega) 0) (OX_reti ⟨cn, rfl, ?_⟩)
      rw [hz] at n5'
      have := U_ns (tx := tx) (n := n) (s := s5) (e := e4) (b := t.2.2.1) (cn := cn) (rn := rn) (d := d) (sc := sc4) (k := 16) (p := t.2.2.1) (l := t.2.2.2.1 - t.2.2.1) (code := 0) (v := cn) (t := t4) (lf := lf4) (V := V) (K := K) (S := S) (W := W) (L := [] ++ [T]) (by rw [eL, show cn + (1 + tSz T) = cn + 1 + tSz T by omega]; exact st5) (by rw [eL, show cn + (1 + tSz T) = cn + 1 + tSz T by omega]; exact n5') (by unfold isS; omega) (by decide) (by omega) (by omega) (gG_mk (by
        have := gT_nm ht e0.1 e0.2 hs.lx (k := 16) (by decide) hc false
        rw [hz] at this
        exact this) ⟨_, rfl, x4⟩ (gW_no (show (16 : Int) ≠ 5 by decide)) fun x hx => by
        have : x = T := by simpa using hx
        subst this
        exact g4) (by
        show 2 * (t.2.2.2.1 - t.2.2.1) + 1 + fWt 16 0 0 (fo ([] ++ [T])) ≤ _
        omega)
      rw [eL, show rn + (1 + tSz T) = rn + tSz T + 1 by omega] at this
      simp only [show decide ((16 : Int) < 44 ∨ 49 < (16 : Int)) = true by decide, Bool.and_true]
      exact this
    · have g1 := s58.2 h58
      clear s58
      rw [show cm_b (tA tx n (blE tx n 481 t.2.2.2.1 false).1 = 58) = 0 from by simp only [cm_b, if_neg (fun z => h58 (co.1 z))], if_pos rfl]
      refine OX_to (c3 t2 hN g1) ?_
      refine X_here hs' hcb.1 (by omega) (Int.le_refl _) fun s1 k1 b1 n1' st1 => ?_
      exact U_sq ht hx (k := 5) st1 n1' (by omega) (by decide) hd hK hS (by omega) (by omega) hrn (by show (1 : Int) ≤ _; omega) (fun T h => gW_st h) hD
/-- an expression that begins otherwise -/
theorem U_xo (ht : tOk tx n) {m : Nat} (hx : S_x tx n (m + 1)) {s : cm_S} {e : Int} {t : tTk} {cn sc : Int} {W : List (Int × Int)} {d rn : Int} {lf : Bool} {V : List tT} {K : List rTs} {S : List rSg} (hs : cSt tx n s e true t cn sc W) (hm : n - e ≤ m) (hc : t.1 ≠ 1) (hd : 0 ≤ d ∧ d < 20) (hK : (K.length : Int) ≤ 20 * d + 20) (hS : (S.length : Int) = W.length ∧ (S.length : Int) ≤ 10 * d) (hcb : 0 ≤ cn ∧ cn ≤ t.2.2.1 + 1) (hrn : 0 ≤ rn ∧ rn + red K ≤ cn) (hD : Dm tx n K (V.length + 1) S) : OI tx n s cn (cm_sem 106 [.inr (.inl 14), .inl (d + 1)] s) (e, d + 1, rn, sc, lf, V, (7, 0, 0, 0, 0) :: (6, 0, 0, 0, 0) :: (3, 5, t.2.2.1, 0, V.length) :: (4, 0, 0, 0, 0) :: K, S) (PoU tx n t.2.2.1 cn rn d V K S W) := by
  have e0 := hs.e0
  have num := lxG_r4 ht e0.1 e0.2 hs.lx
  unfold OI
  rw [cS_106, cF_106_0, hs.kd, if_neg hc]
  refine X_here hs hcb.1 (by omega) (Int.le_refl _) fun s1 k1 b1 n1' st1 => ?_
  exact U_sq ht hx (k := 5) st1 n1' (by omega) (by decide) hd hK hS (by omega) (by omega) hrn (by show (1 : Int) ≤ _; omega) (fun T h => gW_st h) hD
end TX63
