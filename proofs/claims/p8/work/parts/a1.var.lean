/-! ===== var ===== -/
section TX57
variable {tx : Int → Int} {n : Int}
/-- NAME, perhaps = x -/
theorem S_d1_of (ht : tOk tx n) {m : Nat} (hx : S_x tx n m) {s : cm_S} {e : Int} {t : tTk} {cn sc : Int} {W : List (Int × Int)} {d rn noIn : Int} {lf : Bool} {V : List tT} {K : List rTs} {S : List rSg} (hs : cSt tx n s e false t cn sc W) (hm : n - e ≤ m) (hno : noIn = 0 ∨ noIn = 1) (hN : Nu t.2.2.1 cn rn d 2 17 K S W) : OI tx n s cn (cm_sem 62 [.inr (.inl 14), .inl d, .inl noIn] s) (e, d, rn, sc, lf, V, (29, noIn, 0, 0, 0) :: K, S) (Po tx n t.2.2.1 cn rn d V ((31, noIn, 0, 0, 0) :: K) S W fun s' e' t' lf' T => T.1.1 = 3 ∧ tWt T ≤ 2 * (e' - t.2.2.1)) := by
  obtain ⟨n1, n2, n3, n4, n5, n6, n7, n8, n9⟩ := hN
  have e0 := hs.e0
  have num := lxG_r4 ht e0.1 e0.2 hs.lx
  have hr0 := red_0 K
  have tk := tok_k ht e0.1 e0.2 hs.lx
  unfold OI
  rw [cS_62, cF_62_0, cS_63, cF_63_0, hs.kd]
  by_cases h1 : t.1 = 1
  · obtain ⟨h1', hlt⟩ := tk.1 h1
    clear tk
    rw [if_pos h1, cm_bv_o]
    refine OX_to (t_29 ht hs.lx h1' (by omega)) ?_
    refine X_of ht hs n6 (by omega) (Int.le_refl _) (fun hN' => dm_30 ht (m := V.length) _ _ _ _ _ _ (by omega) (by omega) hN' rfl (by simp only [red_co]; simp; omega) (by simp only [List.length_cons]; omega)) fun t1 s1 hT1 k1 b1 n1' st1 => ?_
    have e01 := st1.e0
    have num1 := lxG_r4 ht e01.1 e01.2 st1.lx
    rw [st1.cd]
    have hgT := gT_nm ht e0.1 e0.2 hs.lx (k := 3) (by decide) h1 false
    by_cases h61 : t1.2.1 = 61
    · obtain ⟨h61', hlt1⟩ := (tok_s ht e01.1 e01.2 st1.lx (c := 61) (by decide) (by decide)).1 h61
      rw [if_pos h61]
      refine OX_to (t_30y ht st1.lx h61' (by simp only [List.length_cons]; omega)) ?_
      refine X_next ht st1 (fun hN' => dm_9 ht (m := V.length) _ _ _ _ _ _ (by omega) (by omega) hN' rfl (by simp only [red_co]; simp; omega) (by simp only [List.length_cons]; omega)) fun t2 s2 hT2 e2 b2 st2 => ?_
      have e02 := st2.e0
      have num2 := lxG_r4 ht e02.1 e02.2 st2.lx
      refine OX_bi (hx s2 t1.2.2.2.1 false t2 (cn + 1) sc W d rn noIn lf V ((3, 3, t.2.2.1, t.2.2.2.1 - t.2.2.1, V.length) :: (31, noIn, 0, 0, 0) :: K) S st2 (by omega) ⟨n1, n2, by simp only [List.length_cons]; omega, n4, n5, by omega, by omega, n8, by simp only [red_co]; simp; omega⟩ hno (dm_red (dm_31 ht) (by omega))) (by omega) fun v3 s3 c3 f3 k3 q3 => ?_
      obtain ⟨e3, t3, sc3, lf3, T, st3, rfl, tr3, nx3, sz3, g3, ⟨x1, x2, x3, x4⟩, x5⟩ := q3
      have tz := tSz_1 T
      have e03 := st3.e0
      refine X_add st3 (by omega) (cNo_fr (cNo_row n1' e2) k3 (Int.le_refl _)) tr3 nx3 (Int.le_refl _) fun s4 k4 b4 n4' st4 => ?_
      obtain ⟨tr, nx⟩ := cNo_tr n4' false
      have eT : tSz ((3, t.2.2.1, t.2.2.2.1 - t.2.2.1, t.2.1, false), fo [T]) = 1 + tSz T := by
        show 1 + fSz (fo [T]) = _
        rw [fSz_1]
      refine OX_to (t_red (Vc := [T]) rfl (by omega) (by simp only [List.length_cons]; omega) t.2.1) (OX_reti ⟨cn, rfl, e3, t3, sc3, lf3, ((3, t.2.2.1, t.2.2.2.1 - t.2.2.1, t.2.1, false), fo [T]), ?_, ?_, ?_, nx, by omega, ?_, rfl, ?_⟩)
      · rw [eT, show cn + (1 + tSz T) = cn + 1 + tSz T by omega]; exact st4
      · rw [eT, show rn + (1 + tSz T) = rn + tSz T + 1 by omega]
        simp [foR, fo]
      · rw [eT, show cn + (1 + tSz T) = cn + 1 + tSz T by omega]; exact tr
      · refine gG_mk hgT (Or.inr ⟨T.1.1, rfl, x1⟩) (gW_no (show (3 : Int) ≠ 5 by decide)) fun x hx => ?_
        have : x = T := by simpa using hx
        subst this
        exact g3
      · show 2 * (t.2.2.2.1 - t.2.2.1) + 2 * fLn (fo [T]) + fWt 3 t.2.1 0 (fo ([] ++ [T])) ≤ _
        have w1 : fWt 3 t.2.1 0 (fo ([] ++ [T])) ≤ 0 + 2 * (e3 - t2.2.2.1) := fWt_ch (w := 1) (a := []) rfl x3 (fun z => absurd z (by decide))
        rw [fLn_fo]
        show 2 * (t.2.2.2.1 - t.2.2.1) + 2 * ((1 : Nat) : Int) + _ ≤ _
        omega
    · have h61' := (tok_s ht e01.1 e01.2 st1.lx (c := 61) (by decide) (by decide)).2 h61
      rw [if_neg h61]
      obtain ⟨tr, nx⟩ := cNo_tr n1' false
      refine OX_to (t_30n ht st1.lx h61' (by simp only [List.length_cons]; omega)) (OX_to (t_red (Vc := []) rfl (by omega) (by simp only [List.length_cons]; omega) t.2.1) (OX_reti ⟨cn, rfl, t.2.2.2.1, t1, sc, lf, ((3, t.2.2.1, t.2.2.2.1 - t.2.2.1, t.2.1, false), fo []), st1, ?_, tr, nx, by show t.2.2.1 + (1 + 0) ≤ _; omega, ?_, rfl, ?_⟩))
      · simp [foR, fo, tSz, fSz]
      · exact gG_mk hgT (Or.inl rfl) (gW_no (show (3 : Int) ≠ 5 by decide)) fun x hx => by cases hx
      · show 2 * (t.2.2.2.1 - t.2.2.1) + 2 * 0 + 0 ≤ _
        omega
  · have h1' := tk.2.1 h1
    rw [if_neg h1]
    refine OX_bv (lo1 := cn) (Q1 := fun _ _ => False) ?_ (Int.le_refl _) fun _ _ _ _ z => z.elim
    exact X_refuse (b_29 ht hs.lx h1' (by omega))
/-- var NAME, .. -/
def PoV (tx : Int → Int) (n : Int) (b cn rn d : Int) (V : List tT) (K : List rTs) (S : List rSg) (W : List (Int × Int)) (v : Int) (s' : cm_S) (c' : rC) : Prop := ∃ (e' : Int) (t' : tTk) (sc' : Int) (lf' : Bool) (L : List tT), cSt tx n s' e' false t' (cn + 1 + fSz (fo L)) sc' W ∧ c' = (e', d, rn + fSz (fo L), sc', lf', L.reverse ++ V, K, S) ∧ cNo s' (cn + 1 + fSz (fo L)) v (2, b, 0, 0) cn L ∧ b + 3 + fSz (fo L) ≤ e' ∧ 1 ≤ L.length ∧ (∀ x ∈ L, gG tx n x ∧ x.1.1 = 3) ∧ fWt 2 0 0 (fo L) + 2 * (L.length : Int) + 4 ≤ 2 * (e' - b)
theorem dc_lp (ht : tOk tx n) {m : Nat} (hx : S_x tx n m) {d rn noIn b cn v : Int} {V : List tT} {K : List rTs} {S : List rSg} {W : List (Int × Int)} (hno : noIn = 0 ∨ noIn = 1) (hb : 0 ≤ b) (hd : 0 ≤ d ∧ d ≤ 20) (hK : (K.length : Int) ≤ 20 * d + 16) (hS : (S.length : Int) = W.length ∧ (S.length : Int) ≤ 10 * d) (hcb : 0 ≤ cn ∧ cn ≤ b + 2) (hrn : 0 ≤ rn ∧ rn + red K ≤ cn + 1) : ∀ (j : Nat) (s : cm_S) (e i : Int) (t : tTk) (sc : Int) (lf : Bool) (L : List tT), n - e < j → n - e < m → cSt tx n s e false t (cn + 1 + fSz (fo L)) sc W → cNo s (cn + 1 + fSz (fo L)) v (2, b, 0, 0) cn L → 1 ≤ L.length → (∀ x ∈ L, gG tx n x ∧ x.1.1 = 3) → 0 ≤ i → i ≤ e → b + 3 + fSz (fo L) ≤ e → fWt 2 0 0 (fo L) + 2 * (L.length : Int) + 4 ≤ 2 * (e - b) → OI tx n s cn (cm_lp cm_sem cm_k61 15 [some (.inr (.inl 14)), some (.inl d), some (.inl noIn), some (.inl v), some (.inl i)] [] s) (e, d, rn + fSz (fo L), sc, lf, L.reverse ++ V, (31, noIn, 0, 0, 0) :: K, S) (PoV tx n b cn rn d V K S W) := by
  intro j
  induction j with
  | zero =>
    intro s e i t sc lf L hj _ hs
    have := hs.e0
    omega
  | succ j ih =>
    intro s e i t sc lf L hj hm hs hn hL hg hi0 hie hsz hwt
    have e0 := hs.e0
    have num := lxG_r4 ht e0.1 e0.2 hs.lx
    have f0 := fSz_0 (fo L)
    have hr0 := red_0 K
    unfold OI
    rw [cE_61_15, cF_61_15, if_neg (by omega), hs.cd]
    by_cases h44 : t.2.1 = 44
    · obtain ⟨h44', hlt⟩ := (tok_s ht e0.1 e0.2 hs.lx (c := 44) (by decide) (by decide)).1 h44
      rw [if_pos h44]
      refine OX_to (t_31y ht hs.lx h44' (by omega)) ?_
      refine X_next ht hs (fun hN' => dm_29 ht (m := (L.reverse ++ V).length) _ _ _ _ _ _ (by omega) (by omega) hN' rfl (by simp only [red_co]; simp; omega) (by simp only [List.length_cons]; omega)) fun t1 s1 hT1 e1 b1 st1 => ?_
      have e01 := st1.e0
      have num1 := lxG_r4 ht e01.1 e01.2 st1.lx
      refine OX_bi (S_d1_of ht hx (rn := rn + fSz (fo L)) (noIn := noIn) (lf := lf) (V := L.reverse ++ V) (K := K) (S := S) (d := d) st1 (by omega) hno ⟨by omega, by omega, by omega, hS.1, hS.2, by omega, by omega, by omega, by omega⟩) (by omega) fun v2 s2 c2 f2 k2 q2 => ?_
      obtain ⟨e2, t2, sc2, lf2, T, st2, rfl, tr2, nx2, sz2, g2, x1, x3⟩ := q2
      have tz := tSz_1 T
      have e02 := st2.e0
      refine X_add st2 (by omega) (cNo_fr (cNo_row hn e1) k2 (Int.le_refl _)) tr2 nx2 (Int.le_refl _) fun s3 k3 b3 n3 st3 => ?_
      have eL : fSz (fo (L ++ [T])) = fSz (fo L) + tSz T := fSz_fo L T
      have hw2 : fWt 2 0 0 (fo (L ++ [T])) ≤ fWt 2 0 0 (fo L) + 2 * (e2 - t1.2.2.1) := fWt_c0 (tWn_0 (Or.inl (by decide))) x3 (by decide)
      rw [cm_w_id (by omega) (by omega)]
      have := ih s3 e2 (i + 1) t2 sc2 lf2 (L ++ [T]) (by omega) (by omega) (by rw [eL, show cn + 1 + (fSz (fo L) + tSz T) = cn + 1 + fSz (fo L) + tSz T by omega]; exact st3) (by rw [eL, show cn + 1 + (fSz (fo L) + tSz T) = cn + 1 + fSz (fo L) + tSz T by omega]; exact n3) (by simp) (fun x hx => by
        rcases List.mem_append.mp hx with hx | hx
        · exact hg x hx
        · have : x = T := by simpa using hx
          subst this
          exact ⟨g2, x1⟩) (by omega) (by omega) (by omega) (by rw [show ((L ++ [T]).length : Nat) = L.length + 1 by simp]; omega)
      rw [eL, show rn + (fSz (fo L) + tSz T) = rn + fSz (fo L) + tSz T by omega, show (L ++ [T]).reverse = T :: L.reverse from List.reverse_append] at this
      exact this
    · have h44' := (tok_s ht e0.1 e0.2 hs.lx (c := 44) (by decide) (by decide)).2 h44
      rw [if_neg h44]
      exact OX_to (t_31n ht hs.lx h44' (by omega)) (OX_reti ⟨v, rfl, e, t, sc, lf, L, hs, rfl, hn, hsz, hL, hg, hwt⟩)
theorem S_dc_of (ht : tOk tx n) {m : Nat} (hx : S_x tx n m) {s : cm_S} {e : Int} {g : Bool} {t : tTk} {cn sc : Int} {W : List (Int × Int)} {d rn noIn : Int} {lf : Bool} {V : List tT} {K : List rTs} {S : List rSg} (hs : cSt tx n s e g t cn sc W) (hm : n - e ≤ m) (hv : t.2.2.2.1 = t.2.2.1 + 3) (hno : noIn = 0 ∨ noIn = 1) (hcn : 0 ≤ cn) (hN : Nu t.2.2.1 (cn + 1) rn d 3 16 K S W) : OI tx n s cn (cm_sem 61 [.inr (.inl 14), .inl d, .inl noIn] s) (t.2.2.2.1, d, rn, sc, lf, V, (29, noIn, 0, 0, 0) :: K, S) (PoV tx n t.2.2.1 cn rn d V K S W) := by
  obtain ⟨n1, n2, n3, n4, n5, n6, n7, n8, n9⟩ := hN
  have e0 := hs.e0
  have num := lxG_r4 ht e0.1 e0.2 hs.lx
  have hr0 := red_0 K
  unfold OI
  rw [cS_61, cF_61_0]
  refine X_first ht hs hcn (by omega) (Int.le_refl _) (fun hN' => dm_29 ht (m := V.length) _ _ _ _ _ _ (by omega) (by omega) hN' rfl (by simp only [red_co]; simp; omega) (by simp only [List.length_cons]; omega)) fun t1 s1 hT1 k1 b1 n1' st1 => ?_
  have e01 := st1.e0
  have num1 := lxG_r4 ht e01.1 e01.2 st1.lx
  refine OX_bi (S_d1_of ht hx (rn := rn) (noIn := noIn) (lf := lf) (V := V) (K := K) (S := S) (d := d) st1 (by omega) hno ⟨by omega, by omega, by omega, n4, n5, by omega, by omega, by omega, by omega⟩) (by omega) fun v2 s2 c2 f2 k2 q2 => ?_
  obtain ⟨e2, t2, sc2, lf2, T, st2, rfl, tr2, nx2, sz2, g2, x1, x3⟩ := q2
  have tz := tSz_1 T
  have e02 := st2.e0
  refine X_add st2 (by omega) (cNo_fr n1' k2 (Int.le_refl _)) tr2 nx2 (Int.le_refl _) fun s3 k3 b3 n3' st3 => ?_
  have eL : fSz (fo ([] ++ [T])) = tSz T := fSz_1 T
  have hw2 : fWt 2 0 0 (fo ([] ++ [T])) ≤ 0 + 2 * (e2 - t1.2.2.1) := fWt_c0 (a := []) (tWn_0 (Or.inl (by decide))) x3 (by decide)
  have := dc_lp ht hx (b := t.2.2.1) (cn := cn) (rn := rn) (noIn := noIn) (d := d) (v := cn) (V := V) (K := K) (S := S) (W := W) hno (by omega) ⟨n1, n2⟩ n3 ⟨n4, n5⟩ ⟨hcn, by omega⟩ ⟨n8, n9⟩ ((n - e2).toNat + 1) s3 e2 0 t2 sc2 lf2 ([] ++ [T]) (by omega) (by omega) (by rw [eL]; exact st3) (by rw [eL]; exact n3') (by simp) (fun x hx => by
    have : x = T := by simpa using hx
    subst this
    exact ⟨g2, x1⟩) (by omega) (by omega) (by omega) (by
    show _ + 2 * ((1 : Nat) : Int) + 4 ≤ _
    omega)
  rw [eL] at this
  exact this
end TX57
