/-! ===== { statements } of a function, function ===== -/
section TX46
variable {tx : Int → Int} {n : Int}
/-- one more, where } or the end is next -/
def dl (t : tTk) : Int := if rNo t = 125 ∨ rNo t = 0 then 1 else 0
theorem dl_01 (t : tTk) : 0 ≤ dl t ∧ dl t ≤ 1 := by
  unfold dl
  split <;> omega
def PoS (tx : Int → Int) (n : Int) (b cn rn d : Int) (V : List tT) (K : List rTs) (S : List rSg) (W : List (Int × Int)) (P : Int → Prop) (v : Int) (s' : cm_S) (c' : rC) : Prop := ∃ (e' : Int) (t' : tTk) (sc' : Int) (lf' : Bool) (T : tT), cSt tx n s' e' false t' (cn + tSz T) sc' W ∧ c' = (e', d, rn + tSz T, sc', lf', T :: V, K, S) ∧ cTr s' cn (cn + tSz T) v T ∧ s'.2 11 v = -1 ∧ b < e' ∧ b + tSz T ≤ t'.2.2.1 + dl t' ∧ gG tx n T ∧ P T.1.1 ∧ tWt T ≤ 2 * (t'.2.2.1 - b) + dl t'
/-- statements; what may stand in a text or a body -/
def S_st (tx : Int → Int) (n : Int) (m : Nat) : Prop := ∀ (s : cm_S) (e : Int) (g : Bool) (t : tTk) (cn sc : Int) (W : List (Int × Int)) (d rn f : Int) (lf : Bool) (V : List tT) (K : List rTs) (S : List rSg), cSt tx n s e g t cn sc W → n - e < m → (f = 0 ∨ f = 1 ∧ t.2.1 ≠ 12) → Nu t.2.2.1 cn rn d 1 20 K S W → Dm tx n K (V.length + 1) S → OI tx n s cn (cm_sem 47 [.inr (.inl 14), .inl d] s) (e, d, rn, sc, lf, V, (2, f, 0, 0, 0) :: K, S) (PoS tx n t.2.2.1 cn rn d V K S W isS)
def S_el (tx : Int → Int) (n : Int) (m : Nat) : Prop := ∀ (s : cm_S) (e : Int) (g : Bool) (t : tTk) (cn sc : Int) (W : List (Int × Int)) (d rn : Int) (lf : Bool) (V : List tT) (K : List rTs) (S : List rSg), cSt tx n s e g t cn sc W → n - e < m → Nu t.2.2.1 cn rn d 1 20 K S W → Dm tx n K (V.length + 1) S → OI tx n s cn (cm_sem 46 [.inr (.inl 14), .inl d] s) (e, d, rn, sc, lf, V, (2, 1, 0, 0, 0) :: K, S) (PoS tx n t.2.2.1 cn rn d V K S W fun k => isS k ∨ k = 20)
theorem cs_57 {s : cm_S} {e : Int} {g : Bool} {t : tTk} {cn sc : Int} {W : List (Int × Int)} (h : cSt tx n s e g t cn sc W) : cm_sem 57 [.inr (.inl 14)] s = some (.inl (some (.inl (cm_b (t.2.1 ≠ 125 ∧ t.1 ≠ 0)))), s) := by
  rw [cS_57, cF_57_0, h.cd, h.kd]
  by_cases h1 : t.2.1 = 125
  · rw [if_pos h1, show cm_b (t.2.1 ≠ 125 ∧ t.1 ≠ 0) = 0 from if_neg (fun z => z.1 h1)]
  · rw [if_neg h1]
    by_cases h2 : t.1 = 0
    · rw [if_pos h2, show cm_b (t.2.1 ≠ 125 ∧ t.1 ≠ 0) = 0 from if_neg (fun z => z.2 h2)]
    · rw [if_neg h2, show cm_b (t.2.1 ≠ 125 ∧ t.1 ≠ 0) = 1 from if_pos ⟨h1, h2⟩]
/-- the weight of a child that needs no brackets -/
theorem fWt_c0 {k c i : Int} {a : List tT} {t : tT} {z : Int} (hw : tWn k c (i + a.length) = 0) (h : tWt t ≤ z) (hk : k ≠ 42) : fWt k c i (fo (a ++ [t])) ≤ fWt k c i (fo a) + z := by
  refine fWt_ch hw ?_ (fun y => absurd y hk)
  unfold tWb
  have := tB_0 t.1
  rw [if_neg (by omega)]
  omega
theorem tWn_0 {k c i : Int} (hk : k < 30 ∧ k ≠ 3 ∨ k = 39 ∨ k = 37) : tWn k c i = 0 := by
  unfold tWn
  rw [if_neg (by omega), if_neg (by omega), if_neg (by omega), if_neg (by omega), if_neg (by omega), if_neg (by omega), if_neg (by omega)]
theorem bo_lp (ht : tOk tx n) {m : Nat} (hE : S_el tx n m) {d rn b cn v : Int} {V : List tT} {K : List rTs} {S : List rSg} {W : List (Int × Int)} (hD : Dm tx n K (V.length + 1) S) (hb : 0 ≤ b ∧ b ≤ n) (hd : 0 ≤ d ∧ d < 20) (hK : (K.length : Int) ≤ 20 * d + 30) (hS : (S.length : Int) = W.length ∧ (S.length : Int) ≤ 10 * d) (hcb : 0 ≤ cn ∧ cn ≤ b + 1) (hrn : 0 ≤ rn ∧ rn + red K ≤ cn) : ∀ (j : Nat) (s : cm_S) (e i : Int) (t : tTk) (sc : Int) (lf : Bool) (L : List tT), n - e < j → n - e < m → cSt tx n s e false t (cn + 1 + fSz (fo L)) sc W → cNo s (cn + 1 + fSz (fo L)) v (23, b, 0, 0) cn L → (∀ x ∈ L, gG tx n x ∧ (isS x.1.1 ∨ x.1.1 = 20)) → 0 ≤ i → i ≤ e → b < e → b + 1 + fSz (fo L) ≤ t.2.2.1 + dl t → fWt 23 0 0 (fo L) ≤ 2 * (t.2.2.1 - b) - 2 + dl t → OI tx n s cn (cm_lp cm_sem cm_k81 13 [some (.inr (.inl 14)), some (.inl d), some (.inl v), some (.inl i)] [] s) (e, d + 1, rn + fSz (fo L), sc, lf, L.reverse ++ V, (1, 3, 0, 0, 0) :: (3, 23, b, 0, V.length) :: (4, 0, 0, 0, 0) :: K, S) (Po tx n b cn rn d V K S W fun s' e' t' lf' T => T.1.1 = 23 ∧ tWt T ≤ 2 * (e' - b)) := by
  intro j
  induction j with
  | zero =>
    intro s e i t sc lf L hj _ hs
    have := hs.e0
    omega
  | succ j ih =>
    intro s e i t sc lf L hj hm hs hn hg hi0 hie hbe hsz hwt
    have e0 := hs.e0
    have num := lxG_r4 ht e0.1 e0.2 hs.lx
    have f0 := fSz_0 (fo L)
    have hr0 := red_0 K
    have hdl := dl_01 t
    have hlen : (((L.reverse ++ V).length : Nat) : Int) = L.length + V.length := by rw [List.length_append, List.length_reverse]; omega
    unfold OI
    rw [cE_81_13, cF_81_13, if_neg (by omega), cs_57 hs, cm_bi_i]
    by_cases hc : t.2.1 = 125
    · obtain ⟨hc', hlt⟩ := (tok_s ht e0.1 e0.2 hs.lx (c := 125) (by decide) (by decide)).1 hc
      rw [if_pos (by rw [cm_b0]; exact fun z => z.1 hc)]
      refine OX_to (t_13e ht (lxG_tc ht e0.1 e0.2 hs.lx (by omega)) hc' (by simp only [List.length_cons]; omega)) ?_
      refine X_psk ht hs hc (fun hN' => dm_red (m := (L.reverse ++ V).length) (dm_lv hD) (by simp) _ _ _ _ _ _ (by omega) (by omega) hN' rfl (by simp only [red_co]; simp; omega) (by simp only [List.length_cons]; omega)) fun t' s1 hT e1 b1 st1 => ?_
      refine OX_to (t_red (Vc := L.reverse) rfl (by omega) (by simp only [List.length_cons]; omega) 0) (OX_to (t_lv (by omega) (by omega) (by omega)) (OX_reti ⟨v, rfl, ?_⟩))
      obtain ⟨tr, nx⟩ := cNo_tr (cNo_row hn e1) false
      have eT : tSz ((23, b, 0, 0, false), fo L) = 1 + fSz (fo L) := rfl
      refine ⟨t.2.2.2.1, t', sc, lf, ((23, b, 0, 0, false), fo L), ?_, ?_, ?_, nx, by omega, ?_, rfl, ?_⟩
      · rw [eT, show cn + (1 + fSz (fo L)) = cn + 1 + fSz (fo L) by omega]; exact st1
      · rw [eT, show rn + (1 + fSz (fo L)) = rn + fSz (fo L) + 1 by omega, foR_rev]
        simp
      · rw [eT, show cn + (1 + fSz (fo L)) = cn + 1 + fSz (fo L) by omega]; exact tr
      · refine gG_mk (gT_no (by simp) hb.1 hb.2 rfl) ?_ (gW_no (show (23 : Int) ≠ 5 by decide)) fun x hx => (hg x hx).1
        show ∀ x ∈ L.map (·.1.1), isS x ∨ x = 20
        intro x hx
        obtain ⟨y, hy, rfl⟩ := List.mem_map.mp hx
        exact (hg y hy).2
      · show 3 + fWt 23 0 0 (fo L) ≤ _
        omega
    · have hc1 := (tok_s ht e0.1 e0.2 hs.lx (c := 125) (by decide) (by decide)).2 hc
      have tkk := tok_k ht e0.1 e0.2 hs.lx
      by_cases hz : t.1 = 0
      · have hz' := tkk.2.2.1 hz
        clear tkk
        rw [if_pos (by rw [cm_b0]; exact fun z => z.2 hz)]
        have tn := tk_num (lxG_ok ht e0.1 e0.2 hs.lx).1
        have hT' : lxG tx n true e = some t := lxG_tc ht e0.1 e0.2 hs.lx (by omega)
        exact X_psn hs (by omega) ((t_13m ht hT' hc1 (by simp only [List.length_cons]; omega)).bd (be_21 ht hT' hz' (by omega) (by omega) (by simp only [List.length_cons]; omega)))
      · have hz' := (tkk.2.2.2.1 hz).1
        clear tkk
        have hdl0 : dl t = 0 := by unfold dl; rw [if_neg (by omega)]
        rw [if_neg (by rw [cm_b0]; exact fun z => z ⟨hc, hz⟩), cm_w_id (show -2147483648 ≤ d + 1 by omega) (by omega)]
        cases hT' : lxG tx n true e with
        | none =>
          obtain ⟨s', e3, e4⟩ := el_none ht hs hT' (d + 1)
          exact X_thri e3 e4 (b_13 (t := t) ht hT' (by omega) (by simp only [List.length_cons]; omega))
        | some t1 =>
          refine OX_to (t_13m ht hT' (rNo_tf ht e0.1 e0.2 hs.lx hT' (by decide) (by decide) hc) (by simp only [List.length_cons]; omega)) ?_
          refine OX_bi (hE s e false t _ sc W (d + 1) (rn + fSz (fo L)) lf (L.reverse ++ V) ((1, 3, 0, 0, 0) :: (3, 23, b, 0, V.length) :: (4, 0, 0, 0, 0) :: K) S hs hm ⟨by omega, by omega, by simp only [List.length_cons]; omega, hS.1, by omega, by omega, by omega, by omega, by simp only [red_co]; simp; omega⟩ (dm_1 ht)) (by omega) fun v2 s2 c2 f2 k2 q2 => ?_
          obtain ⟨e2, t2, sc2, lf2, T, st2, rfl, tr2, nx2, lt2, sz2, g2, x1, x3⟩ := q2
          have tz := tSz_1 T
          have e02 := st2.e0
          have num2 := lxG_r4 ht e02.1 e02.2 st2.lx
          have hdl2 := dl_01 t2
          refine X_add st2 (by omega) (cNo_fr hn k2 (Int.le_refl _)) tr2 nx2 (Int.le_refl _) fun s3 k3 b3 n3 st3 => ?_
          have eL : fSz (fo (L ++ [T])) = fSz (fo L) + tSz T := fSz_fo L T
          have hw2 : fWt 23 0 0 (fo (L ++ [T])) ≤ fWt 23 0 0 (fo L) + (2 * (t2.2.2.1 - t.2.2.1) + dl t2) := fWt_c0 (tWn_0 (Or.inl (by decide))) x3 (by decide)
          rw [cm_w_id (by omega) (by omega)]
          have := ih s3 e2 (i + 1) t2 sc2 lf2 (L ++ [T]) (by omega) (by omega) (by rw [eL, show cn + 1 + (fSz (fo L) + tSz T) = cn + 1 + fSz (fo L) + tSz T by omega]; exact st3) (by rw [eL, show cn + 1 + (fSz (fo L) + tSz T) = cn + 1 + fSz (fo L) + tSz T by omega]; exact n3) (fun x hx => by
            rcases List.mem_append.mp hx with hx | hx
            · exact hg x hx
            · have : x = T := by simpa using hx
              subst this
              exact ⟨g2, x1⟩) (by omega) (by omega) (by omega) (by omega) (by omega)
          rw [eL, show rn + (fSz (fo L) + tSz T) = rn + fSz (fo L) + tSz T by omega, show (L ++ [T]).reverse = T :: L.reverse from List.reverse_append] at this
          exact this
/-- body(): from its { on -/
theorem S_bo_of (ht : tOk tx n) {m : Nat} (hE : S_el tx n m) {s : cm_S} {e : Int} {t : tTk} {cn sc : Int} {W : List (Int × Int)} {d rn : Int} {lf : Bool} {V : List tT} {K : List rTs} {S : List rSg} (hs : cSt tx n s e false t cn sc W) (hm : n - e ≤ m) (hN : Nu t.2.2.1 cn rn d 1 30 K S W) (hD : Dm tx n K (V.length + 1) S) : OI tx n s cn (cm_sem 81 [.inr (.inl 14), .inl d] s) (e, d, rn, sc, lf, V, (27, 0, 0, 0, 0) :: K, S) (Po tx n t.2.2.1 cn rn d V K S W fun s' e' t' lf' T => T.1.1 = 23 ∧ tWt T ≤ 2 * (e' - t.2.2.1)) := by
  obtain ⟨n1, n2, n3, n4, n5, n6, n7, n8, n9⟩ := hN
  have e0 := hs.e0
  have num := lxG_r4 ht e0.1 e0.2 hs.lx
  have hr0 := red_0 K
  unfold OI
  rw [cS_81, cF_81_0, cS_55, cF_55_0, hs.cd]
  by_cases hc : t.2.1 = 123
  · obtain ⟨hc', hlt⟩ := (tok_s ht e0.1 e0.2 hs.lx (c := 123) (by decide) (by decide)).1 hc
    have hT' := lxG_tc ht e0.1 e0.2 hs.lx (by omega)
    rw [if_pos hc, cm_bv_o]
    refine X_within ht hs (fun hN' => (by rw [hT'] at hN'; cases hN')) (fun t' ht' hz => ?_) (fun t' ht' hz hd => ?_) fun t' s1 hT1 hz hd e1 b1 st1 => ?_
    · rw [hT'] at ht'; cases ht'; omega
    · exact b_27d ht hs.lx hT' hc' (by omega) (by omega)
    · rw [hT'] at hT1
      cases hT1
      refine OX_to (t_27 ht hs.lx hT' hc' n1 hd (by omega)) ?_
      refine X_first ht st1 n6 (by omega) (Int.le_refl _) (fun hN' => dm_1 ht (m := V.length) _ _ _ _ _ _ (by omega) (by omega) hN' rfl (by simp only [red_co]; simp; omega) (by simp only [List.length_cons]; omega)) fun t2 s2 hT2 k2 b2 n2' st2 => ?_
      have e02 := st2.e0
      have num2 := lxG_r4 ht e02.1 e02.2 st2.lx
      have hdl2 := dl_01 t2
      have := bo_lp ht hE (b := t.2.2.1) (cn := cn) (rn := rn) (v := cn) (d := d) (V := V) (K := K) (S := S) (W := W) hD (by omega) ⟨n1, hd⟩ n3 ⟨n4, n5⟩ ⟨n6, n7⟩ ⟨n8, n9⟩ ((n - t.2.2.2.1).toNat + 1) s2 t.2.2.2.1 0 t2 sc lf [] (by omega) (by omega) (by show cSt tx n s2 _ false t2 (cn + 1 + 0) sc W; rw [Int.add_zero]; exact st2) (by show cNo s2 (cn + 1 + 0) cn _ cn []; rw [Int.add_zero]; exact n2') (fun x hx => by cases hx) (by omega) (by omega) (by omega) (by show t.2.2.1 + 1 + 0 ≤ _; omega) (by show (0 : Int) ≤ _; omega)
      change OI tx n s2 cn _ (t.2.2.2.1, d + 1, rn + 0, sc, lf, [] ++ V, _, S) _ at this
      rw [Int.add_zero] at this
      exact this
  · have hc1 := (tok_s ht e0.1 e0.2 hs.lx (c := 123) (by decide) (by decide)).2 hc
    rw [if_neg hc]
    refine OX_bv (lo1 := cn) (Q1 := fun _ _ => False) ?_ (Int.le_refl _) fun _ _ _ _ z => z.elim
    exact X_refuse (b_27 ht hs.lx hc1 (by omega))
end TX46
