/-! ===== throw, return, break, continue ===== -/
section TX61
variable {tx : Int → Int} {n : Int}
theorem tk_1 (ht : tOk tx n) {g : Bool} {e : Int} (h0 : 0 ≤ e) (h1 : e ≤ n) {t : tTk} (h : lxG tx n g e = some t) (hk : t.1 = 1) : t.2.1 = 0 := by
  have := tk_num (lxG_ok ht h0 h1 h).1
  omega
/-- an expression that ends with ; under a node of one child -/
theorem U_sq (ht : tOk tx n) {m : Nat} (hx : S_x tx n m) {s : cm_S} {e : Int} {g : Bool} {t : tTk} {b cn sc k : Int} {W : List (Int × Int)} {d rn : Int} {lf : Bool} {V : List tT} {K : List rTs} {S : List rSg} (hs : cSt tx n s e g t (cn + 1) sc W) (hn : cNo s (cn + 1) cn (k, b, 0, 0) cn []) (hm : n - e < m) (hk : k = 5 ∨ k = 13 ∨ k = 17) (hd : 0 ≤ d ∧ d < 20) (hK : (K.length : Int) ≤ 20 * d + 20) (hS : (S.length : Int) = W.length ∧ (S.length : Int) ≤ 10 * d) (hb : 0 ≤ b ∧ b ≤ t.2.2.1) (hcb : 0 ≤ cn ∧ cn ≤ b + 1) (hrn : 0 ≤ rn ∧ rn + red K ≤ cn) (hw : tOw (k, b, 0, 0, false) 1 ≤ 2 * (t.2.2.1 - b) + 1) (hgw : ∀ T : tT, stO t.2.2.1 T → gW (k, b, 0, 0, false) (fo [T])) (hD : Dm tx n K (V.length + 1) S) : OX tx n s cn (cm_bi (cm_sem 76 [.inr (.inl 14), .inl (d + 1), .inl 0] s) fun z3 s3 => cm_bv (cm_sem 58 [.inr (.inl 4), .inl cn, .inl z3] s3) fun s4 => some (.inl (some (.inl cn)), s4)) (e, d + 1, rn, sc, lf, V, (7, 0, 0, 0, 0) :: (6, 0, 0, 0, 0) :: (3, k, b, 0, V.length) :: (4, 0, 0, 0, 0) :: K, S) (fun r s' c' => ∃ v, r = some (.inl v) ∧ PoU tx n b cn rn d V K S W v s' c') := by
  have e0 := hs.e0
  have num := lxG_r4 ht e0.1 e0.2 hs.lx
  have hr0 := red_0 K
  refine OX_bi (S_seq_of ht hx s e g t (cn + 1) sc W (d + 1) rn 0 lf V ((6, 0, 0, 0, 0) :: (3, k, b, 0, V.length) :: (4, 0, 0, 0, 0) :: K) S hs hm ⟨by omega, by omega, by simp only [List.length_cons]; omega, hS.1, by omega, by omega, by omega, hrn.1, by simp only [red_co]; simp; omega⟩ (Or.inl rfl) (dm_6 ht)) (by omega) fun v2 s2 c2 f2 k2 q2 => ?_
  obtain ⟨e2, t2, sc2, lf2, T, st2, rfl, tr2, nx2, sz2, g2, x1, x2, x3, x4⟩ := q2
  have tz := tSz_1 T
  have e02 := st2.e0
  rw [tWb_0] at x3
  refine X_add st2 (by omega) (cNo_fr hn k2 (Int.le_refl _)) tr2 nx2 (Int.le_refl _) fun s3 k3 b3 n3' st3 => ?_
  have eL : fSz (fo ([] ++ [T])) = tSz T := fSz_1 T
  have hw2 : fWt k 0 0 (fo ([] ++ [T])) ≤ 0 + 2 * (e2 - t.2.2.1) := fWt_c0 (a := []) (tWn_0 (Or.inl (by omega))) x3 (by omega)
  refine OX_reti ⟨cn, rfl, ?_⟩
  have := U_se (tx := tx) (n := n) (s := s3) (e := e2) (b := b) (cn := cn) (rn := rn) (d := d) (sc := sc2) (k := k) (p := b) (l := 0) (code := 0) (v := cn) (t := t2) (lf := lf2) (V := V) (K := K) (S := S) (W := W) (L := [] ++ [T]) (by rw [eL, show cn + (1 + tSz T) = cn + 1 + tSz T by omega]; exact st3) (by rw [eL, show cn + (1 + tSz T) = cn + 1 + tSz T by omega]; exact n3') (by unfold isS; omega) (by unfold semi; omega) (by omega) (by omega) (gG_mk (gT_no (by simp; omega) (by show 0 ≤ b; omega) (by show b ≤ n; omega) rfl) (by
    rcases hk with rfl | rfl | rfl
    · exact ⟨_, rfl, x1⟩
    · exact Or.inr ⟨_, rfl, x1⟩
    · exact ⟨_, rfl, x1⟩) (hgw T x2) fun x hx => by
    have : x = T := by simpa using hx
    subst this
    exact g2) (by
    show tOw (k, b, 0, 0, false) ((1 : Nat) : Int) + fWt k 0 0 (fo ([] ++ [T])) ≤ _
    have : ((1 : Nat) : Int) = 1 := rfl
    rw [this]
    omega) hd hK (by omega) hD
  rw [eL] at this
  exact this
/-- throw X -/
theorem U_th (ht : tOk tx n) {m : Nat} (hx : S_x tx n m) {s : cm_S} {e : Int} {t : tTk} {cn sc : Int} {W : List (Int × Int)} {d rn : Int} {lf : Bool} {V : List tT} {K : List rTs} {S : List rSg} {c0 : rC} (hs : cSt tx n s e true t cn sc W) (hm : n - e ≤ m) (hc : t.2.1 = 21) (hd : 0 ≤ d ∧ d < 20) (hK : (K.length : Int) ≤ 20 * d + 20) (hS : (S.length : Int) = W.length ∧ (S.length : Int) ≤ 10 * d) (hcb : 0 ≤ cn ∧ cn ≤ t.2.2.1 + 1) (hrn : 0 ≤ rn ∧ rn + red K ≤ cn) (hD : Dm tx n K (V.length + 1) S) (c1 : lxG tx n false t.2.2.2.1 = none → rBd tx n c0) (c2 : ∀ t2, lxG tx n false t.2.2.2.1 = some t2 → t2.2.2.2.2 = true → rBd tx n c0) (c3 : ∀ t2, lxG tx n false t.2.2.2.1 = some t2 → t2.2.2.2.2 = false → rTo tx n c0 (t.2.2.2.1, d + 1, rn, sc, lf, V, (7, 0, 0, 0, 0) :: (6, 0, 0, 0, 0) :: (3, 17, t.2.2.1, 0, V.length) :: (4, 0, 0, 0, 0) :: K, S)) : OI tx n s cn (cm_sem 103 [.inr (.inl 14), .inl (d + 1)] s) c0 (PoU tx n t.2.2.1 cn rn d V K S W) := by
  have e0 := hs.e0
  have num := lxG_r4 ht e0.1 e0.2 hs.lx
  have hr0 := red_0 K
  obtain ⟨a1, a2⟩ := tok_l ht e0.1 e0.2 hs.lx (w := 21) (by decide) (by decide) hc
  have a3 : wl 21 = 5 := by decide
  unfold OI
  rw [cS_103, cF_103_0]
  refine X_first ht hs hcb.1 (by omega) (Int.le_refl _) c1 fun t1 s1 hT1 k1 b1 n1' st1 => ?_
  have e01 := st1.e0
  by_cases hl : t1.2.2.2.2 = true
  · have bd := c2 t1 hT1 hl
    refine X_within ht st1 (fun _ => bd) (fun _ _ _ => bd) (fun _ _ _ _ => bd) fun t2 s2 hT2 hz hd2 e2 b2 st2 => ?_
    rw [st2.ln, (lxG_beg hT1 hT2).2, hl, if_neg (by decide)]
    exact X_refuse bd
  · have hl : t1.2.2.2.2 = false := by simpa using hl
    refine OX_to (c3 t1 hT1 hl) ?_
    have hw : rTo tx n (t.2.2.2.1, d + 1, rn, sc, lf, V, (7, 0, 0, 0, 0) :: (6, 0, 0, 0, 0) :: (3, 17, t.2.2.1, 0, V.length) :: (4, 0, 0, 0, 0) :: K, S) (t.2.2.2.1, d + 1, rn, sc, lf, V, (9, 0, 0, 0, 0) :: (8, -1, V.length, 0, 0) :: (6, 0, 0, 0, 0) :: (3, 17, t.2.2.1, 0, V.length) :: (4, 0, 0, 0, 0) :: K, S) := t_wh (by simp only [List.length_cons]; omega)
    refine X_within ht st1 (fun hN' => hw.bd (b_9n (t := t) ht hN' (by simp only [List.length_cons]; omega))) (fun t' hT' hz => hw.bd (be_9 ht hT' hz (by omega) (by omega) (by simp only [List.length_cons]; omega))) (fun t' hT' hz hd2 => hw.bd (b_9d ht hT' (by omega) hz (by simp only [List.length_cons]; omega))) fun t2 s2 hT2 hz hd2 e2 b2 st2 => ?_
    have num2 := lxG_r4 ht e01.1 e01.2 hT2
    rw [st2.ln, (lxG_beg hT1 hT2).2, hl, if_pos (by decide)]
    exact U_sq ht hx (k := 17) st2 (cNo_row n1' e2) (by omega) (by decide) hd hK hS (by omega) (by omega) hrn (by show (11 : Int) ≤ _; omega) (fun T _ => gW_no (show (17 : Int) ≠ 5 by decide)) hD
/-- return, return X -/
theorem U_re (ht : tOk tx n) {m : Nat} (hx : S_x tx n m) {s : cm_S} {e : Int} {t : tTk} {cn sc : Int} {W : List (Int × Int)} {d rn : Int} {lf : Bool} {V : List tT} {K : List rTs} {S : List rSg} {c0 : rC} (hs : cSt tx n s e true t cn sc W) (hm : n - e ≤ m) (hc : t.2.1 = 18) (hd : 0 ≤ d ∧ d < 20) (hK : (K.length : Int) ≤ 20 * d + 20) (hS : (S.length : Int) = W.length ∧ (S.length : Int) ≤ 10 * d) (hcb : 0 ≤ cn ∧ cn ≤ t.2.2.1 + 1) (hrn : 0 ≤ rn ∧ rn + red K ≤ cn) (hD : Dm tx n K (V.length + 1) S) (c1 : lxG tx n false t.2.2.2.1 = none → rBd tx n c0) (c2 : ∀ t2, lxG tx n false t.2.2.2.1 = some t2 → (t2.2.2.2.2 = true ∨ rNo t2 = 59 ∨ rNo t2 = 125 ∨ rNo t2 = 0) → rTo tx n c0 (t.2.2.2.1, d + 1, rn, sc, lf, V, (6, 0, 0, 0, 0) :: (3, 13, t.2.2.1, 0, V.length) :: (4, 0, 0, 0, 0) :: K, S)) (c3 : ∀ t2, lxG tx n false t.2.2.2.1 = some t2 → t2.2.2.2.2 = false → (rNo t2 ≠ 59 ∧ rNo t2 ≠ 125 ∧ rNo t2 ≠ 0) → rTo tx n c0 (t.2.2.2.1, d + 1, rn, sc, lf, V, (7, 0, 0, 0, 0) :: (6, 0, 0, 0, 0) :: (3, 13, t.2.2.1, 0, V.length) :: (4, 0, 0, 0, 0) :: K, S)) : OI tx n s cn (cm_sem 100 [.inr (.inl 14), .inl (d + 1)] s) c0 (PoU tx n t.2.2.1 cn rn d V K S W) := by
  have e0 := hs.e0
  have num := lxG_r4 ht e0.1 e0.2 hs.lx
  have hr0 := red_0 K
  obtain ⟨a1, a2⟩ := tok_l ht e0.1 e0.2 hs.lx (w := 18) (by decide) (by decide) hc
  have a3 : wl 18 = 6 := by decide
  unfold OI
  rw [cS_100, cF_100_0]
  refine X_first ht hs hcb.1 (by omega) (Int.le_refl _) c1 fun t1 s1 hT1 k1 b1 n1' st1 => ?_
  have e01 := st1.e0
  have num1 := lxG_r4 ht e01.1 e01.2 st1.lx
  have fin : (t1.2.2.2.2 = true ∨ rNo t1 = 59 ∨ rNo t1 = 125 ∨ rNo t1 = 0) → OX tx n s1 cn (some (.inl (some (.inl cn)), s1)) c0 (fun r s' c' => ∃ v, r = some (.inl v) ∧ PoU tx n t.2.2.1 cn rn d V K S W v s' c') := fun h => by
    refine OX_to (c2 t1 hT1 h) (OX_reti ⟨cn, rfl, ?_⟩)
    have z0 : fSz (fo []) = 0 := rfl
    have := U_se (tx := tx) (n := n) (s := s1) (e := t.2.2.2.1) (b := t.2.2.1) (cn := cn) (rn := rn) (d := d) (sc := sc) (k := 13) (p := t.2.2.1) (l := 0) (code := 0) (v := cn) (t := t1) (lf := lf) (V := V) (K := K) (S := S) (W := W) (L := []) (by rw [z0]; exact st1) (by rw [z0]; exact n1') (by unfold isS; omega) (by decide) (by omega) (by omega) (gG_mk (gT_no (by simp) (by show 0 ≤ t.2.2.1; omega) (by show t.2.2.1 ≤ n; omega) rfl) (Or.inl rfl) (gW_no (show (13 : Int) ≠ 5 by decide)) fun x hx => by cases hx) (by
      show (13 : Int) + 0 ≤ _
      omega) hd hK (by omega) hD
    rw [z0, Int.add_zero] at this
    exact this
  have s59 := tok_s ht e01.1 e01.2 st1.lx (c := 59) (by decide) (by decide)
  have s125 := tok_s ht e01.1 e01.2 st1.lx (c := 125) (by decide) (by decide)
  have sk := tok_k ht e01.1 e01.2 st1.lx
  rw [st1.ln]
  by_cases hl : t1.2.2.2.2 = true
  · rw [hl, if_neg (by decide)]
    exact fin (Or.inl hl)
  · have hl : t1.2.2.2.2 = false := by simpa using hl
    rw [hl, if_pos (by decide), st1.cd]
    by_cases h59 : t1.2.1 = 59
    · rw [if_pos h59]
      exact fin (Or.inr (Or.inl (s59.1 h59).1))
    · rw [if_neg h59, cs_57 st1, cm_bi_i]
      by_cases h2 : t1.2.1 ≠ 125 ∧ t1.1 ≠ 0
      · rw [show cm_b (t1.2.1 ≠ 125 ∧ t1.1 ≠ 0) = 1 from by simp [cm_b, h2], if_neg (by decide)]
        refine OX_to (c3 t1 hT1 hl ⟨s59.2 h59, s125.2 h2.1, (sk.2.2.2.1 h2.2).1⟩) ?_
        clear s59 s125 sk
        exact U_sq ht hx (k := 13) st1 n1' (by omega) (by decide) hd hK hS (by omega) (by omega) hrn (by show (13 : Int) ≤ _; omega) (fun T _ => gW_no (show (13 : Int) ≠ 5 by decide)) hD
      · rw [show cm_b (t1.2.1 ≠ 125 ∧ t1.1 ≠ 0) = 0 from by simp only [cm_b, if_neg h2], if_pos rfl]
        refine fin ?_
        by_cases h125 : t1.2.1 = 125
        · exact Or.inr (Or.inr (Or.inl (s125.1 h125).1))
        · exact Or.inr (Or.inr (Or.inr (sk.2.2.1 (Decidable.byContradiction fun h => h2 ⟨h125, h⟩))))
end TX61
