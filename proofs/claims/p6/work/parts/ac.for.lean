/-! ===== for: the end of it, and for .. in ===== -/
section TX68
variable {tx : Int → Int} {n : Int}
/-- ) s -/
theorem F_end (ht : tOk tx n) {m : Nat} (hSt : S_st tx n m) {s : cm_S} {e : Int} {t : tTk} {b cn sc k v : Int} {W : List (Int × Int)} {d rn : Int} {lf : Bool} {V : List tT} {K : List rTs} {S : List rSg} {L : List tT} (hs : cSt tx n s e false t (cn + 1 + fSz (fo L)) sc W) (hn : cNo s (cn + 1 + fSz (fo L)) v (k, b, 0, 0) cn L) (hm : n - e ≤ m) (hk : k = 9 ∨ k = 10) (hb : 0 ≤ b) (hd : 0 ≤ d ∧ d < 20) (hK : (K.length : Int) ≤ 20 * d + 20) (hS : (S.length : Int) = W.length ∧ (S.length : Int) ≤ 10 * d) (hcb : 0 ≤ cn ∧ cn ≤ b + 1) (hrn : 0 ≤ rn ∧ rn + red K ≤ cn) (hD : Dm tx n K (V.length + 1) S) (hsz : b + 1 + fSz (fo L) ≤ e) (hw : (if k = 9 then 10 else 12) + fWt k 0 0 (fo L) ≤ 2 * (e - b) + 2) (hgl : ∀ x ∈ L, gG tx n x) (hgc : ∀ y, isS y → gC k (L.map (·.1.1) ++ [y])) : OX tx n s cn (cm_bv (cm_sem 60 [.inr (.inl 14), .inl 41] s) fun s9 => cm_bi (cm_sem 47 [.inr (.inl 14), .inl (d + 1)] s9) fun z10 s10 => cm_bv (cm_sem 58 [.inr (.inl 4), .inl v, .inl z10] s10) fun s11 => some (.inl (some (.inl v)), s11)) (e, d + 1, rn + fSz (fo L), sc, lf, L.reverse ++ V, (5, 41, 0, 0, 0) :: (2, 0, 0, 0, 0) :: (3, k, b, 0, V.length) :: (4, 0, 0, 0, 0) :: K, S) (fun r s' c' => ∃ v, r = some (.inl v) ∧ PoU tx n b cn rn d V K S W v s' c') := by
  have e0 := hs.e0
  have num := lxG_r4 ht e0.1 e0.2 hs.lx
  have hr0 := red_0 K
  have f0 := fSz_0 (fo L)
  have hlen : (((L.reverse ++ V).length : Nat) : Int) = L.length + V.length := by rw [List.length_append, List.length_reverse]; omega
  have tk := tok_s ht e0.1 e0.2 hs.lx (c := 41) (by decide) (by decide)
  refine X_pass ht hs (by apply propext; exact ⟨fun z => (tk.1 z).1, fun z => Decidable.byContradiction fun y => tk.2 y z⟩) (by simp only [List.length_cons]; omega) (fun hN' => dm_20 ht (m := (L.reverse ++ V).length) _ _ _ _ _ _ (by omega) (by omega) hN' rfl (by simp only [red_co]; simp; omega) (by simp only [List.length_cons]; omega)) fun t1 s1 h41 hT1 e1 b1 st1 => ?_
  have lt1 := (tk.1 h41).2
  clear tk
  have e01 := st1.e0
  have num1 := lxG_r4 ht e01.1 e01.2 st1.lx
  refine OX_bi (hSt s1 t.2.2.2.1 false t1 _ sc W (d + 1) (rn + fSz (fo L)) 0 lf (L.reverse ++ V) ((3, k, b, 0, V.length) :: (4, 0, 0, 0, 0) :: K) S st1 (by omega) (Or.inl rfl) ⟨by omega, by omega, by simp only [List.length_cons]; omega, hS.1, by omega, by omega, by omega, by omega, by simp only [red_co]; simp; omega⟩ (dm_red (dm_lv hD) (by omega))) (by omega) fun v2 s2 c2 f2 k2 q2 => ?_
  obtain ⟨e2, t2, sc2, lf2, T, st2, rfl, tr2, nx2, lt2, sz2, g2, x2, w2⟩ := q2
  have tz := tSz_1 T
  have e02 := st2.e0
  have num2 := lxG_r4 ht e02.1 e02.2 st2.lx
  have dl2 := dl_01 t2
  refine X_add st2 (by omega) (cNo_fr (cNo_row hn e1) k2 (Int.le_refl _)) tr2 nx2 (Int.le_refl _) fun s3 k3 b3 n3' st3 => ?_
  have eL : fSz (fo (L ++ [T])) = fSz (fo L) + tSz T := fSz_fo L T
  have hw2 : fWt k 0 0 (fo (L ++ [T])) ≤ fWt k 0 0 (fo L) + (2 * (t2.2.2.1 - t1.2.2.1) + dl t2) := fWt_c0 (tWn_0 (Or.inl (by omega))) w2 (by omega)
  refine OX_to (t_red (Vc := T :: L.reverse) rfl (by omega) (by simp only [List.length_cons]; omega) 0) (OX_reti ⟨v, rfl, ?_⟩)
  have tw : tOw (k, b, 0, 0, false) ((L ++ [T]).length : Int) = if k = 9 then 10 else 12 := by
    rcases hk with rfl | rfl <;> rfl
  have := U_ns (tx := tx) (n := n) (s := s3) (e := e2) (b := b) (cn := cn) (rn := rn) (d := d) (sc := sc2) (k := k) (p := b) (l := 0) (code := 0) (v := v) (t := t2) (lf := lf2 && decide (k < 44 ∨ 49 < k)) (V := V) (K := K) (S := S) (W := W) (L := L ++ [T]) (by rw [eL, show cn + (1 + (fSz (fo L) + tSz T)) = cn + 1 + fSz (fo L) + tSz T by omega]; exact st3) (by rw [eL, show cn + (1 + (fSz (fo L) + tSz T)) = cn + 1 + fSz (fo L) + tSz T by omega]; exact n3') (by unfold isS; omega) (by unfold semi; omega) (by omega) (by omega) (gG_mk (gT_no (by simp; omega) hb (by show b ≤ n; omega) rfl) (by rw [List.map_append]; exact hgc _ x2) (gW_no (show k ≠ 5 by omega)) fun x hx => by
    rcases List.mem_append.mp hx with hx | hx
    · exact hgl x hx
    · have : x = T := by simpa using hx
      subst this
      exact g2) (by
    rw [tw]
    omega)
  rw [eL, show rn + (1 + (fSz (fo L) + tSz T)) = rn + fSz (fo L) + tSz T + 1 by omega] at this
  rw [show foR .leaf (T :: L.reverse) = fo (L ++ [T]) from by rw [← foR_rev, List.reverse_append]; rfl]
  exact this
/-- for ( .. in X ) s -/
theorem F_in (ht : tOk tx n) {m : Nat} (hx : S_x tx n m) (hSt : S_st tx n m) {s : cm_S} {e : Int} {t : tTk} {b cn sc z : Int} {W : List (Int × Int)} {d rn : Int} {lf : Bool} {V : List tT} {K : List rTs} {S : List rSg} {T1 : tT} (hs : cSt tx n s e false t (cn + tSz T1) sc W) (htr : cTr s cn (cn + tSz T1) z T1) (hnx : s.2 11 z = -1) (hc : t.2.1 = 14) (hm : n - e ≤ m) (hb : 0 ≤ b) (hd : 0 ≤ d ∧ d < 20) (hK : (K.length : Int) ≤ 20 * d + 20) (hS : (S.length : Int) = W.length ∧ (S.length : Int) ≤ 10 * d) (hcb : 0 ≤ cn ∧ cn ≤ b + 1) (hrn : 0 ≤ rn ∧ rn + red K ≤ cn) (hD : Dm tx n K (V.length + 1) S) (hsz : b + 3 + tSz T1 ≤ e) (hw : tWt T1 + 7 ≤ 2 * (e - b)) (g1 : gG tx n T1) (x1 : isE T1.1.1 ∨ T1.1.1 = 2) : OI tx n s cn (cm_sem 98 [.inr (.inl 14), .inl b, .inl z, .inl (d + 1)] s) (t.2.2.2.1, d + 1, rn + tSz T1, sc, lf, T1 :: V, (7, 0, 0, 0, 0) :: (5, 41, 0, 0, 0) :: (2, 0, 0, 0, 0) :: (3, 10, b, 0, V.length) :: (4, 0, 0, 0, 0) :: K, S) (PoU tx n b cn rn d V K S W) := by
  have e0 := hs.e0
  have num := lxG_r4 ht e0.1 e0.2 hs.lx
  have hr0 := red_0 K
  have tz1 := tSz_1 T1
  obtain ⟨a1, a2⟩ := tok_l ht e0.1 e0.2 hs.lx (w := 14) (by decide) (by decide) hc
  have a3 : wl 14 = 2 := by decide
  unfold OI
  rw [cS_98, cF_98_0]
  refine X_make hs (by omega) (by omega) (by omega) fun s1 k1 b1 n1' st1 => ?_
  refine X_add0 st1 (by omega) n1' (cTr_fr htr k1 (Int.le_refl _)) (by rw [k1 11 z (by omega) (by omega) (by have := cTr_in htr; omega)]; exact hnx) hcb.1 (Int.le_refl _) fun s2 k2 b2 n2' st2 => ?_
  refine X_next ht st2 (fun hN' => dm_wh ht (m := (T1 :: V).length) _ _ _ _ _ _ (by omega) (by omega) hN' rfl (by simp only [red_co]; simp; omega) (by simp only [List.length_cons]; omega)) fun t3 s3 hT3 e3 b3 st3 => ?_
  have e03 := st3.e0
  have num3 := lxG_r4 ht e03.1 e03.2 st3.lx
  refine OX_bi (S_seq_of ht hx s3 t.2.2.2.1 false t3 (cn + tSz T1 + 1) sc W (d + 1) (rn + tSz T1) 0 lf (T1 :: V) ((5, 41, 0, 0, 0) :: (2, 0, 0, 0, 0) :: (3, 10, b, 0, V.length) :: (4, 0, 0, 0, 0) :: K) S st3 (by omega) ⟨by omega, by omega, by simp only [List.length_cons]; omega, hS.1, by omega, by omega, by omega, by omega, by simp only [red_co]; simp; omega⟩ (Or.inl rfl) (dm_5 ht)) (by omega) fun v4 s4 c4 f4 k4 q4 => ?_
  obtain ⟨e4, t4, sc4, lf4, T, st4, rfl, tr4, nx4, sz4, g4, x4, y2, y3, y4⟩ := q4
  rw [tWb_0] at y3
  have tz := tSz_1 T
  have e04 := st4.e0
  refine X_add st4 (by omega) (cNo_fr (cNo_row n2' e3) k4 (by omega)) tr4 nx4 (by omega) fun s5 k5 b5 n5' st5 => ?_
  have eL : fSz (fo ([T1] ++ [T])) = tSz T1 + tSz T := by rw [fSz_fo, fSz_1]
  have wa : fWt 10 0 0 (fo ([] ++ [T1])) ≤ 0 + tWt T1 := fWt_c0 (a := []) (tWn_0 (Or.inl (by decide))) (Int.le_refl _) (by decide)
  have wb : fWt 10 0 0 (fo ([T1] ++ [T])) ≤ fWt 10 0 0 (fo ([] ++ [T1])) + 2 * (e4 - t3.2.2.1) := fWt_c0 (a := [T1]) (tWn_0 (Or.inl (by decide))) y3 (by decide)
  have := F_end ht hSt (s := s5) (e := e4) (t := t4) (b := b) (cn := cn) (sc := sc4) (k := 10) (v := cn + tSz T1) (W := W) (d := d) (rn := rn) (lf := lf4) (V := V) (K := K) (S := S) (L := [T1] ++ [T]) (by rw [eL, show cn + 1 + (tSz T1 + tSz T) = cn + tSz T1 + 1 + tSz T by omega]; exact st5) (by rw [eL, show cn + 1 + (tSz T1 + tSz T) = cn + tSz T1 + 1 + tSz T by omega]; exact n5') (by omega) (Or.inr rfl) hb hd hK hS hcb hrn hD (by omega) (by rw [if_neg (by decide)]; omega) (fun x hx => by
    have : x = T1 ∨ x = T := by simpa using hx
    rcases this with rfl | rfl
    · exact g1
    · exact g4) (fun y hy => ⟨T1.1.1, T.1.1, y, rfl, x1, x4, hy⟩)
  rw [eL, show rn + (tSz T1 + tSz T) = rn + tSz T1 + tSz T by omega] at this
  exact this
/-- what may be left out between ; and ; or ) -/
theorem F_op (ht : tOk tx n) {m : Nat} (hx : S_x tx n m) {s : cm_S} {e : Int} {t : tTk} {cn sc v x : Int} {l : Int × Int × Int × Int} {W : List (Int × Int)} {d rn : Int} {lf : Bool} {V : List tT} {K : List rTs} {S : List rSg} {L : List tT} {f : cm_S → Option cm_R} {Q : Option cm_V → cm_S → rC → Prop} (hs : cSt tx n s e false t (cn + 1 + fSz (fo L)) sc W) (hn : cNo s (cn + 1 + fSz (fo L)) v l cn L) (hm : n - e < m) (h33 : 33 ≤ x ∧ x < 1000) (h47 : x ≠ 47) (hN : Nu t.2.2.1 (cn + 1 + fSz (fo L)) (rn + fSz (fo L)) d 2 19 K S W) (hcb : 0 ≤ cn) (hrn : 0 ≤ rn) (hD : Dm tx n K ((L.reverse ++ V).length + 1) S) (hf : ∀ s' e' t' sc' lf' T, cSt tx n s' e' false t' (cn + 1 + fSz (fo L) + tSz T) sc' W → cNo s' (cn + 1 + fSz (fo L) + tSz T) v l cn (L ++ [T]) → e ≤ e' → e + tSz T ≤ e' + 1 → (isE T.1.1 ∨ T.1.1 = 21) → gG tx n T → tWt T ≤ 2 * (e' - e) → OX tx n s' cn (f s') (e', d, rn + fSz (fo L) + tSz T, sc', lf', T :: (L.reverse ++ V), K, S) Q) : OX tx n s cn (if t.2.1 = x then cm_bi (cm_sem 83 [.inr (.inl 14)] s) fun z4 s4 => cm_bv (cm_sem 58 [.inr (.inl 4), .inl v, .inl z4] s4) f else cm_bi (cm_sem 76 [.inr (.inl 14), .inl d, .inl 0] s) fun z4 s4 => cm_bv (cm_sem 58 [.inr (.inl 4), .inl v, .inl z4] s4) f) (e, d, rn + fSz (fo L), sc, lf, L.reverse ++ V, (36, x, 0, 0, 0) :: K, S) Q := by
  obtain ⟨n1, n2, n3, n4, n5, n6, n7, n8, n9⟩ := hN
  have e0 := hs.e0
  have num := lxG_r4 ht e0.1 e0.2 hs.lx
  have hr0 := red_0 K
  have f0 := fSz_0 (fo L)
  have tk := tok_s ht e0.1 e0.2 hs.lx (c := x) h33.1 (Or.inl h33.2)
  by_cases hc : t.2.1 = x
  · obtain ⟨g1, lt⟩ := tk.1 hc
    clear tk
    rw [if_pos hc]
    refine OX_to (t_36n ht (lxG_tc ht e0.1 e0.2 hs.lx (by omega)) g1 (by omega) (by omega)) ?_
    refine X_noth hs (by omega) (by omega) (by omega) fun s1 k1 b1 tr1 nx1 st1 => ?_
    refine X_add st1 (by omega) (cNo_fr hn k1 (Int.le_refl _)) tr1 nx1 (Int.le_refl _) fun s2 k2 b2 n2' st2 => ?_
    exact hf s2 e t sc lf tN0 st2 n2' (Int.le_refl _) (by rw [tSz_n0]; omega) (Or.inr rfl) (gG_n0 ht) (by rw [tWt_n0]; omega)
  · have g1 := tk.2 hc
    clear tk
    rw [if_neg hc]
    cases hT' : lxG tx n true e with
    | none =>
      obtain ⟨s', e3, e4⟩ := seq_none ht hs hT' d 0
      exact X_thri e3 e4 (b_36n (t := t) ht hT' (by omega) (by omega))
    | some t1 =>
      refine OX_to (t_36x ht hT' (rNo_tf ht e0.1 e0.2 hs.lx hT' h33.1 (Or.inl h33.2) hc) (by omega)) ?_
      refine OX_bi (S_seq_of ht hx s e false t _ sc W d (rn + fSz (fo L)) 0 lf (L.reverse ++ V) K S hs hm ⟨n1, n2, n3, n4, n5, n6, n7, n8, n9⟩ (Or.inl rfl) hD) (by omega) fun v4 s4 c4 f4 k4 q4 => ?_
      obtain ⟨e4, t4, sc4, lf4, T, st4, rfl, tr4, nx4, sz4, g4, x4, y2, y3, y4⟩ := q4
      rw [tWb_0] at y3
      have tz := tSz_1 T
      have e04 := st4.e0
      refine X_add st4 (by omega) (cNo_fr hn k4 (Int.le_refl _)) tr4 nx4 (Int.le_refl _) fun s5 k5 b5 n5' st5 => ?_
      exact hf s5 e4 t4 sc4 lf4 T st5 n5' (by omega) (by omega) (Or.inl x4) g4 (by omega)
end TX68
