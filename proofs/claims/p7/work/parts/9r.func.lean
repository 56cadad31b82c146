/-! ===== function ===== -/
section TX47
variable {tx : Int → Int} {n : Int}
/-- what function() of the reference does behind the word -/
def FnC (tx : Int → Int) (n : Int) (c : rC) (t : tTk) (d rn sc : Int) (lf : Bool) (V : List tT) (K : List rTs) (S : List rSg) (k : Int) : Prop := (lxG tx n false t.2.2.2.1 = none → rBd tx n c) ∧ (∀ t2, lxG tx n false t.2.2.2.1 = some t2 → rNo t2 = 1 → rTo tx n c (t2.2.2.2.1, d, rn, sc, lf, V, (5, 40, 0, 0, 0) :: (25, 1, 0, 0, 0) :: (27, 0, 0, 0, 0) :: (3, k, t2.2.2.1, t2.2.2.2.1 - t2.2.2.1, V.length) :: K, S)) ∧ (∀ t2, lxG tx n false t.2.2.2.1 = some t2 → rNo t2 ≠ 1 → k = 39 → rTo tx n c (t.2.2.2.1, d, rn, sc, lf, V, (5, 40, 0, 0, 0) :: (25, 1, 0, 0, 0) :: (27, 0, 0, 0, 0) :: (3, 39, t.2.2.1, 0, V.length) :: K, S)) ∧ (∀ t2, lxG tx n false t.2.2.2.1 = some t2 → rNo t2 ≠ 1 → k = 20 → rBd tx n c)
/-- the rest: behind ) -/
theorem fn_end (ht : tOk tx n) {m : Nat} (hE : S_el tx n m) {s : cm_S} {e b cn rn d p l code k v : Int} {t : tTk} {sc : Int} {lf : Bool} {V : List tT} {K : List rTs} {S : List rSg} {W : List (Int × Int)} {L : List tT} (hs : cSt tx n s e false t (cn + 1 + fSz (fo L)) sc W) (hm : n - e ≤ m) (hn : cNo s (cn + 1 + fSz (fo L)) v (k, p, l, code) cn L) (hk : k = 20 ∨ k = 39) (hT0 : gT tx n (k, p, l, code, false)) (hD : Dm tx n K (V.length + 1) S) (hd : 0 ≤ d ∧ d ≤ 20) (hK : (K.length : Int) ≤ 20 * d + 20) (hS : (S.length : Int) = W.length ∧ (S.length : Int) ≤ 10 * d) (hcb : 0 ≤ cn ∧ cn ≤ b + 2) (hrn : 0 ≤ rn ∧ rn + red K ≤ cn) (hsz : b + 8 + fSz (fo L) ≤ e) (hg : ∀ x ∈ L, gG tx n x ∧ x.1.1 = 22) (hw : fWt k code 0 (fo L) + L.length + 19 + 2 * l ≤ 2 * (e - b)) : OX tx n s cn (cm_bi (cm_sem 81 [.inr (.inl 14), .inl d] s) fun z2 s2 => cm_bv (cm_sem 58 [.inr (.inl 4), .inl v, .inl z2] s2) fun s3 => some (.inl (some (.inl v)), s3)) (e, d, rn + fSz (fo L), sc, lf, L.reverse ++ V, (27, 0, 0, 0, 0) :: (3, k, p, l, V.length) :: K, S) (fun r s' c' => ∃ v, r = some (.inl v) ∧ Po tx n b cn rn d V K S W (fun s' e' t' lf' T => T.1.1 = k ∧ tWt T ≤ 2 * (e' - b)) v s' c') := by
  have e0 := hs.e0
  have num := lxG_r4 ht e0.1 e0.2 hs.lx
  have hr0 := red_0 K
  have f0 := fSz_0 (fo L)
  refine OX_bi (S_bo_of ht hE (d := d) (rn := rn + fSz (fo L)) (lf := lf) (V := L.reverse ++ V) (K := (3, k, p, l, V.length) :: K) (S := S) hs hm ⟨by omega, by omega, by simp only [List.length_cons]; omega, hS.1, hS.2, by omega, by omega, by omega, by simp only [red_co]; simp; omega⟩ (dm_red hD (by simp only [List.length_append, List.length_reverse]; omega))) (by omega) fun v2 s2 c2 f2 k2 q2 => ?_
  obtain ⟨e2, t2, sc2, lf2, T, st2, rfl, tr2, nx2, sz2, g2, x1, x3⟩ := q2
  have tz := tSz_1 T
  have e02 := st2.e0
  refine X_add st2 (by omega) (cNo_fr hn k2 (Int.le_refl _)) tr2 nx2 (Int.le_refl _) fun s3 k3 b3 n3 st3 => ?_
  obtain ⟨tr, nx⟩ := cNo_tr n3 false
  have eL : fSz (fo (L ++ [T])) = fSz (fo L) + tSz T := fSz_fo L T
  have eT : tSz ((k, p, l, code, false), fo (L ++ [T])) = 1 + fSz (fo L) + tSz T := by
    show 1 + fSz (fo (L ++ [T])) = _
    rw [eL]; omega
  have hw2 : fWt k code 0 (fo (L ++ [T])) ≤ fWt k code 0 (fo L) + 2 * (e2 - t.2.2.1) := fWt_c0 (tWn_0 (by omega)) x3 (by omega)
  have eV : T :: (L.reverse ++ V) = (L ++ [T]).reverse ++ V := by rw [List.reverse_append]; rfl
  rw [eV]
  refine OX_to (t_red (Vc := (L ++ [T]).reverse) rfl (by omega) (by omega) code) (OX_reti ⟨v, rfl, e2, t2, sc2, lf2, ((k, p, l, code, false), fo (L ++ [T])), ?_, ?_, ?_, nx, by omega, ?_, rfl, ?_⟩)
  · rw [eT, show cn + (1 + fSz (fo L) + tSz T) = cn + 1 + fSz (fo L) + tSz T by omega]; exact st3
  · rw [eT, show rn + (1 + fSz (fo L) + tSz T) = rn + fSz (fo L) + tSz T + 1 by omega, foR_rev]
    have : decide (k < 44 ∨ 49 < k) = true := decide_eq_true (by omega)
    rw [this, Bool.and_true]
  · rw [eT, show cn + (1 + fSz (fo L) + tSz T) = cn + 1 + fSz (fo L) + tSz T by omega]; exact tr
  · refine gG_mk hT0 ?_ (gW_no (show k ≠ 5 by omega)) fun x hx => ?_
    · have : ∃ r : List Int, (L ++ [T]).map (·.1.1) = r ++ [23] ∧ ∀ x ∈ r, x = 22 := by
        refine ⟨L.map (·.1.1), by rw [List.map_append]; simp [x1], fun x hx => ?_⟩
        obtain ⟨y, hy, rfl⟩ := List.mem_map.mp hx
        exact (hg y hy).2
      rcases hk with rfl | rfl
      · exact this
      · exact this
    · rcases List.mem_append.mp hx with hx | hx
      · exact (hg x hx).1
      · have : x = T := by simpa using hx
        subst this
        exact g2
  · show tOw (k, p, l, code, false) (fLn (fo (L ++ [T]))) + fWt k code 0 (fo (L ++ [T])) ≤ _
    rw [fLn_fo, show ((L ++ [T]).length : Nat) = L.length + 1 by simp]
    have : tOw (k, p, l, code, false) ((L.length + 1 : Nat) : Int) = 18 + 2 * l + ((L.length + 1 : Nat) : Int) := by
      rcases hk with rfl | rfl
      · rfl
      · rfl
    rw [this]
    omega
theorem fn_lp (ht : tOk tx n) {m : Nat} (hE : S_el tx n m) {b cn rn d p l code k v : Int} {V : List tT} {K : List rTs} {S : List rSg} {W : List (Int × Int)} (hk : k = 20 ∨ k = 39) (hT0 : gT tx n (k, p, l, code, false)) (hD : Dm tx n K (V.length + 1) S) (hd : 0 ≤ d ∧ d ≤ 20) (hK : (K.length : Int) ≤ 20 * d + 20) (hS : (S.length : Int) = W.length ∧ (S.length : Int) ≤ 10 * d) (hcb : 0 ≤ cn ∧ cn ≤ b + 2) (hrn : 0 ≤ rn ∧ rn + red K ≤ cn) (o1 o3 : Option cm_V) : ∀ (j : Nat) (s : cm_S) (e i : Int) (t : tTk) (sc : Int) (lf : Bool) (L : List tT), n - e < j → n - e ≤ m → cSt tx n s e false t (cn + 1 + fSz (fo L)) sc W → cNo s (cn + 1 + fSz (fo L)) v (k, p, l, code) cn L → 1 ≤ L.length → (∀ x ∈ L, gG tx n x ∧ x.1.1 = 22) → 1 ≤ i → i ≤ e → b + 8 + fSz (fo L) ≤ e → fWt k code 0 (fo L) + 2 * (L.length : Int) + 16 + 2 * l ≤ 2 * (e - b) → OI tx n s cn (cm_lp cm_sem cm_k80 35 [some (.inr (.inl 14)), o1, some (.inl d), o3, some (.inl v), some (.inl i)] [] s) (e, d, rn + fSz (fo L), sc, lf, L.reverse ++ V, (26, 0, 0, 0, 0) :: (27, 0, 0, 0, 0) :: (3, k, p, l, V.length) :: K, S) (Po tx n b cn rn d V K S W fun s' e' t' lf' T => T.1.1 = k ∧ tWt T ≤ 2 * (e' - b)) := by
  intro j
  induction j with
  | zero =>
    intro s e i t sc lf L hj _ hs
    have := hs.e0
    omega
  | succ j ih =>
    intro s e i t sc lf L hj hm hs hn hL hg hi0 hie hsz hwt
    have e0 := hs.e0
    have num := lxG_r4 ht e0.1 e0.2 hs.lx
    have f0 := fSz_0 (fo L)
    have hr0 := red_0 K
    unfold OI
    rw [cE_80_35, cF_80_35, if_neg (by omega), hs.cd]
    by_cases hc : t.2.1 = 41
    · obtain ⟨hc', hlt⟩ := (tok_s ht e0.1 e0.2 hs.lx (c := 41) (by decide) (by decide)).1 hc
      rw [if_pos hc]
      refine OX_to (t_26e ht hs.lx hc' (by simp only [List.length_cons]; omega)) ?_
      refine X_psk ht hs hc (fun hN' => dm_27 ht (m := (L.reverse ++ V).length) _ _ _ _ _ _ (by omega) (by omega) hN' rfl (by simp only [red_co]; simp; omega) (by simp only [List.length_cons]; omega)) fun t' s1 hT e1 b1 st1 => ?_
      exact fn_end ht hE st1 (by omega) (cNo_row hn e1) hk hT0 hD hd hK hS hcb hrn (by omega) hg (by omega)
    · have hc1 := (tok_s ht e0.1 e0.2 hs.lx (c := 41) (by decide) (by decide)).2 hc
      rw [if_neg hc, if_pos (by omega)]
      by_cases h44 : t.2.1 = 44
      · obtain ⟨h44', hlt⟩ := (tok_s ht e0.1 e0.2 hs.lx (c := 44) (by decide) (by decide)).1 h44
        refine OX_to (t_26m ht hs.lx h44' (by simp only [List.length_cons]; omega)) ?_
        refine X_psk ht hs h44 (fun hN' => dm_250 ht (m := (L.reverse ++ V).length) _ _ _ _ _ _ (by omega) (by omega) hN' rfl (by simp only [red_co]; simp; omega) (by simp only [List.length_cons]; omega)) fun t1 s1 hT1 e1 b1 st1 => ?_
        have e01 := st1.e0
        have num1 := lxG_r4 ht e01.1 e01.2 st1.lx
        have tk1 := tok_k ht e01.1 e01.2 st1.lx
        rw [cS_63, cF_63_0, st1.kd]
        by_cases hnm : t1.1 = 1
        · obtain ⟨hnm', hlt1⟩ := tk1.1 hnm
          clear tk1
          rw [if_pos hnm, cm_bv_o]
          refine OX_to (t_25p0 ht st1.lx hnm' (by omega) (by simp only [List.length_cons]; omega) t1.2.1) ?_
          refine X_of ht st1 (by omega) (by omega) (by omega) (fun hN' => dm_26 ht (m := (L.reverse ++ V).length + 1) _ _ _ _ _ _ (by omega) (by omega) hN' rfl (by simp only [red_co]; simp; omega) (by simp only [List.length_cons]; omega)) fun t2 s2 hT2 k2 b2 n2' st2 => ?_
          have e02 := st2.e0
          obtain ⟨tr2, nx2⟩ := cNo_tr n2' false
          refine X_add st2 (by omega) (cNo_fr (cNo_row hn e1) k2 (Int.le_refl _)) tr2 nx2 (Int.le_refl _) fun s3 k3 b3 n3 st3 => ?_
          rw [cm_w_id (by omega) (by omega)]
          have eL : fSz (fo (L ++ [((22, t1.2.2.1, t1.2.2.2.1 - t1.2.2.1, t1.2.1, false), fo [])])) = fSz (fo L) + 1 := fSz_fo L _
          have hw2 : fWt k code 0 (fo (L ++ [((22, t1.2.2.1, t1.2.2.2.1 - t1.2.2.1, t1.2.1, false), fo [])])) ≤ fWt k code 0 (fo L) + 2 * (t1.2.2.2.1 - t1.2.2.1) := fWt_c0 (tWn_0 (by omega)) (by show 2 * (t1.2.2.2.1 - t1.2.2.1) + 0 ≤ _; omega) (by omega)
          have := ih s3 t1.2.2.2.1 (i + 1) t2 sc lf (L ++ [((22, t1.2.2.1, t1.2.2.2.1 - t1.2.2.1, t1.2.1, false), fo [])]) (by omega) (by omega) (by rw [eL, show cn + 1 + (fSz (fo L) + 1) = cn + 1 + fSz (fo L) + 1 by omega]; exact st3) (by rw [eL, show cn + 1 + (fSz (fo L) + 1) = cn + 1 + fSz (fo L) + 1 by omega]; exact n3) (by simp) (fun x hx => by
            rcases List.mem_append.mp hx with hx | hx
            · exact hg x hx
            · have : x = ((22, t1.2.2.1, t1.2.2.2.1 - t1.2.2.1, t1.2.1, false), fo []) := by simpa using hx
              subst this
              exact ⟨gG_mk (gT_nm ht e01.1 e01.2 st1.lx (by decide) hnm false) rfl (gW_no (show (22 : Int) ≠ 5 by decide)) (fun x hx => by cases hx), rfl⟩) (by omega) (by omega) (by omega) (by
            rw [show ((L ++ [((22, t1.2.2.1, t1.2.2.2.1 - t1.2.2.1, t1.2.1, false), fo [])] : List tT).length : Nat) = L.length + 1 by simp]
            omega)
          rw [eL, show rn + (fSz (fo L) + 1) = rn + fSz (fo L) + 1 by omega, show (L ++ [((22, t1.2.2.1, t1.2.2.2.1 - t1.2.2.1, t1.2.1, false), fo [])] : List tT).reverse = ((22, t1.2.2.1, t1.2.2.2.1 - t1.2.2.1, t1.2.1, false), fo []) :: L.reverse from List.reverse_append] at this
          exact this
        · have hnm' := tk1.2.1 hnm
          clear tk1
          rw [if_neg hnm]
          refine OX_bv (lo1 := cn) (Q1 := fun _ _ => False) ?_ (Int.le_refl _) fun _ _ _ _ z => z.elim
          exact X_refuse (b_250 ht st1.lx hnm' (by simp only [List.length_cons]; omega))
      · have h44' := (tok_s ht e0.1 e0.2 hs.lx (c := 44) (by decide) (by decide)).2 h44
        exact X_psn hs h44 (b_26 ht hs.lx ⟨h44', hc1⟩ (by simp only [List.length_cons]; omega))
/-- behind the node: ( NAMES ) { .. } -/
theorem fn_mid (ht : tOk tx n) {m : Nat} (hE : S_el tx n m) {b cn rn d p l code k v : Int} {V : List tT} {K : List rTs} {S : List rSg} {W : List (Int × Int)} (hk : k = 20 ∨ k = 39) (hT0 : gT tx n (k, p, l, code, false)) (hD : Dm tx n K (V.length + 1) S) (hd : 0 ≤ d ∧ d ≤ 20) (hK : (K.length : Int) ≤ 20 * d + 20) (hS : (S.length : Int) = W.length ∧ (S.length : Int) ≤ 10 * d) (hcb : 0 ≤ cn ∧ cn ≤ b + 2) (hrn : 0 ≤ rn ∧ rn + red K ≤ cn) (o1 o3 : Option cm_V) {s : cm_S} {e : Int} {t : tTk} {sc : Int} {lf : Bool} (hs : cSt tx n s e false t (cn + 1) sc W) (hm : n - e ≤ m) (hn : cNo s (cn + 1) v (k, p, l, code) cn []) (hsz : b + 8 ≤ e) (hwt : 16 + 2 * l ≤ 2 * (e - b)) : OX tx n s cn (cm_bv (cm_sem 60 [.inr (.inl 14), .inl 40] s) fun s4 => cm_lp cm_sem cm_k80 35 [some (.inr (.inl 14)), o1, some (.inl d), o3, some (.inl v), some (.inl 0)] [] s4) (e, d, rn, sc, lf, V, (5, 40, 0, 0, 0) :: (25, 1, 0, 0, 0) :: (27, 0, 0, 0, 0) :: (3, k, p, l, V.length) :: K, S) (fun r s' c' => ∃ v, r = some (.inl v) ∧ Po tx n b cn rn d V K S W (fun s' e' t' lf' T => T.1.1 = k ∧ tWt T ≤ 2 * (e' - b)) v s' c') := by
  have e0 := hs.e0
  have num := lxG_r4 ht e0.1 e0.2 hs.lx
  have hr0 := red_0 K
  have tk := tok_s ht e0.1 e0.2 hs.lx (c := 40) (by decide) (by decide)
  refine X_pass ht hs (by apply propext; exact ⟨fun z => (tk.1 z).1, fun z => Decidable.byContradiction fun y => tk.2 y z⟩) (by simp only [List.length_cons]; omega) (fun hN' => dm_251 ht (m := V.length) _ _ _ _ _ _ (by omega) (by omega) hN' rfl (by simp only [red_co]; simp; omega) (by simp only [List.length_cons]; omega)) fun t1 s1 h40 hT1 e1 b1 st1 => ?_
  have hlt := (tk.1 h40).2
  clear tk
  have e01 := st1.e0
  have num1 := lxG_r4 ht e01.1 e01.2 st1.lx
  rw [cE_80_35, cF_80_35, if_neg (by omega), st1.cd]
  by_cases hc : t1.2.1 = 41
  · obtain ⟨hc', hlt1⟩ := (tok_s ht e01.1 e01.2 st1.lx (c := 41) (by decide) (by decide)).1 hc
    rw [if_pos hc]
    refine OX_to (t_25e ht st1.lx hc' (by simp only [List.length_cons]; omega)) ?_
    refine X_psk ht st1 hc (fun hN' => dm_27 ht (m := V.length) _ _ _ _ _ _ (by omega) (by omega) hN' rfl (by simp only [red_co]; simp; omega) (by simp only [List.length_cons]; omega)) fun t' s2 hT e2 b2 st2 => ?_
    have := fn_end ht hE (L := []) (s := s2) (e := t1.2.2.2.1) (b := b) (cn := cn) (rn := rn) (d := d) (v := v) (sc := sc) (lf := lf) (V := V) (K := K) (S := S) (W := W) (by show cSt tx n s2 _ false t' (cn + 1 + 0) sc W; rw [Int.add_zero]; exact st2) (by omega) (by show cNo s2 (cn + 1 + 0) v _ cn []; rw [Int.add_zero]; exact cNo_row (cNo_row hn e1) e2) hk hT0 hD hd hK hS hcb hrn (by show b + 8 + 0 ≤ _; omega) (fun x hx => by cases hx) (by show (0 : Int) + ((0 : Nat) : Int) + 19 + 2 * l ≤ _; omega)
    change OX tx n s2 cn _ (t1.2.2.2.1, d, rn + 0, sc, lf, [] ++ V, _, S) _ at this
    rw [Int.add_zero] at this
    exact this
  · have hc1 := (tok_s ht e01.1 e01.2 st1.lx (c := 41) (by decide) (by decide)).2 hc
    rw [if_neg hc, if_neg (by decide), cS_63, cF_63_0, st1.kd]
    have tk1 := tok_k ht e01.1 e01.2 st1.lx
    by_cases hnm : t1.1 = 1
    · obtain ⟨hnm', hlt1⟩ := tk1.1 hnm
      clear tk1
      rw [if_pos hnm, cm_bv_o]
      refine OX_to (t_25p1 ht st1.lx hnm' (by omega) (by simp only [List.length_cons]; omega) t1.2.1) ?_
      refine X_of ht st1 (by omega) (by omega) (by omega) (fun hN' => dm_26 ht (m := V.length + 1) _ _ _ _ _ _ (by omega) (by omega) hN' rfl (by simp only [red_co]; simp; omega) (by simp only [List.length_cons]; omega)) fun t2 s2 hT2 k2 b2 n2' st2 => ?_
      have e02 := st2.e0
      obtain ⟨tr2, nx2⟩ := cNo_tr n2' false
      refine X_add st2 (by omega) (cNo_fr (cNo_row hn e1) k2 (Int.le_refl _)) tr2 nx2 (Int.le_refl _) fun s3 k3 b3 n3 st3 => ?_
      rw [cm_w_id (by omega) (by omega)]
      have hw2 : fWt k code 0 (fo ([] ++ [((22, t1.2.2.1, t1.2.2.2.1 - t1.2.2.1, t1.2.1, false), fo [])])) ≤ 0 + 2 * (t1.2.2.2.1 - t1.2.2.1) := fWt_c0 (a := []) (tWn_0 (by omega)) (by show 2 * (t1.2.2.2.1 - t1.2.2.1) + 0 ≤ _; omega) (by omega)
      have := fn_lp ht hE (b := b) (cn := cn) (rn := rn) (d := d) (p := p) (l := l) (code := code) (k := k) (v := v) (V := V) (K := K) (S := S) (W := W) hk hT0 hD hd hK hS hcb hrn o1 o3 ((n - t1.2.2.2.1).toNat + 1) s3 t1.2.2.2.1 1 t2 sc lf ([] ++ [((22, t1.2.2.1, t1.2.2.2.1 - t1.2.2.1, t1.2.1, false), fo [])]) (by omega) (by omega) (by show cSt tx n s3 _ false t2 (cn + 1 + (1 + 0 + 0)) sc W; exact st3) (by show cNo s3 (cn + 1 + (1 + 0 + 0)) v _ cn _; exact n3) (by simp) (fun x hx => by
        have : x = ((22, t1.2.2.1, t1.2.2.2.1 - t1.2.2.1, t1.2.1, false), fo []) := by simpa using hx
        subst this
        exact ⟨gG_mk (gT_nm ht e01.1 e01.2 st1.lx (by decide) hnm false) rfl (gW_no (show (22 : Int) ≠ 5 by decide)) (fun x hx => by cases hx), rfl⟩) (by omega) (by omega) (by show b + 8 + (1 + 0 + 0) ≤ _; omega) (by
        show _ + 2 * ((1 : Nat) : Int) + 16 + 2 * l ≤ _
        omega)
      exact this
    · have hnm' := tk1.2.1 hnm
      clear tk1
      rw [if_neg hnm]
      refine OX_bv (lo1 := cn) (Q1 := fun _ _ => False) ?_ (Int.le_refl _) fun _ _ _ _ z => z.elim
      exact X_refuse (b_251 ht st1.lx ⟨hnm', hc1⟩ (by simp only [List.length_cons]; omega))
theorem S_fn_of (ht : tOk tx n) {m : Nat} (hE : S_el tx n m) {s : cm_S} {e : Int} {g : Bool} {t : tTk} {cn sc : Int} {W : List (Int × Int)} {d rn k : Int} {lf : Bool} {V : List tT} {K : List rTs} {S : List rSg} {c : rC} (hs : cSt tx n s e g t cn sc W) (hm : n - e ≤ m) (hf : t.2.2.1 + 8 ≤ t.2.2.2.1) (hk : k = 20 ∨ k = 39) (hN : Nu t.2.2.1 cn rn d 2 20 K S W) (hD : Dm tx n K (V.length + 1) S) (hc : FnC tx n c t d rn sc lf V K S k) : OI tx n s cn (cm_sem 80 [.inr (.inl 14), .inl k, .inl d] s) c (Po tx n t.2.2.1 cn rn d V K S W fun s' e' t' lf' T => T.1.1 = k ∧ tWt T ≤ 2 * (e' - t.2.2.1)) := by
  obtain ⟨n1, n2, n3, n4, n5, n6, n7, n8, n9⟩ := hN
  have e0 := hs.e0
  have num := lxG_r4 ht e0.1 e0.2 hs.lx
  have hr0 := red_0 K
  obtain ⟨c1, c2, c3, c4⟩ := hc
  unfold OI
  rw [cS_80, cF_80_0, hs.bg]
  refine X_next ht hs c1 fun t2 s1 hT2 e1 b1 st1 => ?_
  have e01 := st1.e0
  have num1 := lxG_r4 ht e01.1 e01.2 st1.lx
  have tk1 := tok_k ht e01.1 e01.2 st1.lx
  -- with a name
  have named : t2.1 = 1 → OX tx n s1 cn (cm_bi (cm_sem 64 [.inr (.inl 14), .inl k] s1) fun z3 s3 => cm_bv (cm_sem 60 [.inr (.inl 14), .inl 40] s3) fun s4 => cm_lp cm_sem cm_k80 35 [some (.inr (.inl 14)), some (.inl k), some (.inl d), some (.inl t.2.2.1), some (.inl z3), some (.inl 0)] [] s4) c (fun r s' c' => ∃ v, r = some (.inl v) ∧ Po tx n t.2.2.1 cn rn d V K S W (fun s' e' t' lf' T => T.1.1 = k ∧ tWt T ≤ 2 * (e' - t.2.2.1)) v s' c') := by
    intro hnm
    obtain ⟨hnm', hlt1⟩ := tk1.1 hnm
    refine OX_to (c2 t2 hT2 hnm') ?_
    refine X_of ht st1 n6 (by omega) (Int.le_refl _) (fun hN' => dm_5 ht (m := V.length) _ _ _ _ _ _ (by omega) (by omega) hN' rfl (by simp only [red_co]; simp; omega) (by simp only [List.length_cons]; omega)) fun t3 s3 hT3 k3 b3 n3' st3 => ?_
    exact fn_mid ht hE hk (gT_tk ht e01.1 e01.2 st1.lx false (by rcases hk with rfl | rfl <;> exact hnm)) hD ⟨n1, n2⟩ n3 ⟨n4, n5⟩ ⟨n6, n7⟩ ⟨n8, n9⟩ _ _ st3 (by omega) n3' (by omega) (by omega)
  rcases hk with rfl | rfl
  · rw [if_pos rfl, cS_63, cF_63_0, st1.kd]
    by_cases hnm : t2.1 = 1
    · rw [if_pos hnm, cm_bv_o, st1.kd, if_pos hnm]
      exact named hnm
    · rw [if_neg hnm]
      refine OX_bv (lo1 := cn) (Q1 := fun _ _ => False) ?_ (Int.le_refl _) fun _ _ _ _ z => z.elim
      exact X_refuse (c4 t2 hT2 (tk1.2.1 hnm) rfl)
  · rw [if_neg (by decide), st1.kd]
    by_cases hnm : t2.1 = 1
    · rw [if_pos hnm]
      exact named hnm
    · rw [if_neg hnm]
      refine OX_to (c3 t2 hT2 (tk1.2.1 hnm) rfl) ?_
      refine X_make st1 n6 (by omega) (Int.le_refl _) fun s3 k3 b3 n3' st3 => ?_
      refine fn_mid ht hE (Or.inr rfl) ?_ hD ⟨n1, n2⟩ n3 ⟨n4, n5⟩ ⟨n6, n7⟩ ⟨n8, n9⟩ _ _ st3 (by omega) n3' (by omega) (by omega)
      refine ⟨by show 0 ≤ t.2.2.1; omega, by show (0 : Int) ≤ 0; omega, by show t.2.2.1 + 0 ≤ n; omega, ?_⟩
      exact Or.inl rfl
end TX47
