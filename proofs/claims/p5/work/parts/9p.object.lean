/-! ===== KEY : x ===== -/
section TX45
variable {tx : Int → Int} {n : Int}
/-- the demands of a key, and a node of it -/
theorem S_pr_of (ht : tOk tx n) {m : Nat} (hx : S_x tx n m) {s : cm_S} {e : Int} {t : tTk} {cn sc : Int} {W : List (Int × Int)} {d rn : Int} {lf : Bool} {V : List tT} {K : List rTs} {S : List rSg} (hs : cSt tx n s e false t cn sc W) (hm : n - e ≤ m) (hk : t.1 = 1 ∨ t.1 = 2 ∨ t.1 = 3 ∨ t.1 = 4) (hN : Nu t.2.2.1 cn rn d 2 18 K S W) (hD : Dm tx n K (V.length + 1) S) : OI tx n s cn (cm_sem 85 [.inr (.inl 14), .inl d] s) (t.2.2.2.1, d, rn, sc, lf, V, (5, 58, 0, 0, 0) :: (9, 0, 0, 0, 0) :: (3, 38, t.2.2.1, t.2.2.2.1 - t.2.2.1, V.length) :: K, S) (Po tx n t.2.2.1 cn rn d V K S W fun s' e' t' lf' T => T.1.1 = 38 ∧ tWt T + 1 ≤ 2 * (e' - t.2.2.1)) := by
  obtain ⟨n1, n2, n3, n4, n5, n6, n7, n8, n9⟩ := hN
  have e0 := hs.e0
  have num := lxG_r4 ht e0.1 e0.2 hs.lx
  have hr0 := red_0 K
  have hlt : t.2.2.1 < t.2.2.2.1 := ((tok_k ht e0.1 e0.2 hs.lx).2.2.2.1 (by omega)).2
  have main : OX tx n s cn (cm_bi (cm_sem 64 [.inr (.inl 14), .inl 38] s) fun z1 s1 => cm_bv (cm_sem 60 [.inr (.inl 14), .inl 58] s1) fun s2 => cm_bi (cm_sem 65 [.inr (.inl 14), .inl d, .inl 0] s2) fun z3 s3 => cm_bv (cm_sem 58 [.inr (.inl 4), .inl z1, .inl z3] s3) fun s4 => some (.inl (some (.inl z1)), s4)) (t.2.2.2.1, d, rn, sc, lf, V, (5, 58, 0, 0, 0) :: (9, 0, 0, 0, 0) :: (3, 38, t.2.2.1, t.2.2.2.1 - t.2.2.1, V.length) :: K, S) (fun r s' c' => ∃ v, r = some (.inl v) ∧ Po tx n t.2.2.1 cn rn d V K S W (fun s' e' t' lf' T => T.1.1 = 38 ∧ tWt T + 1 ≤ 2 * (e' - t.2.2.1)) v s' c') := by
    refine X_of ht hs n6 (by omega) (Int.le_refl _) (fun hN' => dm_5 ht (m := V.length) _ _ _ _ _ _ (by omega) (by omega) hN' rfl (by simp only [red_co]; simp; omega) (by simp only [List.length_cons]; omega)) fun t1 s1 hT1 k1 b1 n1' st1 => ?_
    have e01 := st1.e0
    have num1 := lxG_r4 ht e01.1 e01.2 st1.lx
    have tk1 := tok_s ht e01.1 e01.2 st1.lx (c := 58) (by decide) (by decide)
    refine X_pass ht st1 (by apply propext; exact ⟨fun z => (tk1.1 z).1, fun z => Decidable.byContradiction fun y => tk1.2 y z⟩) (by simp only [List.length_cons]; omega) (fun hN' => dm_9 ht (m := V.length) _ _ _ _ _ _ (by omega) (by omega) hN' rfl (by simp only [red_co]; simp; omega) (by simp only [List.length_cons]; omega)) fun t2 s2 h58 hT2 e2 b2 st2 => ?_
    have hlt1 := (tk1.1 h58).2
    clear tk1
    have e02 := st2.e0
    have num2 := lxG_r4 ht e02.1 e02.2 st2.lx
    refine OX_bi (hx s2 t1.2.2.2.1 false t2 (cn + 1) sc W d rn 0 lf V ((3, 38, t.2.2.1, t.2.2.2.1 - t.2.2.1, V.length) :: K) S st2 (by omega) ⟨n1, n2, by simp only [List.length_cons]; omega, n4, n5, by omega, by omega, n8, by simp only [red_co]; simp; omega⟩ (Or.inl rfl) (dm_red hD (by omega))) (by omega) fun v3 s3 c3 f3 k3 q3 => ?_
    obtain ⟨e3, t3, sc3, lf3, T, st3, rfl, tr3, nx3, sz3, g3, ⟨x1, x2, x3, x4⟩, x5⟩ := q3
    have tz := tSz_1 T
    have e03 := st3.e0
    refine X_add st3 (by omega) (cNo_fr (cNo_row n1' e2) k3 (Int.le_refl _)) tr3 nx3 (Int.le_refl _) fun s4 k4 b4 n4' st4 => ?_
    obtain ⟨tr, nx⟩ := cNo_tr n4' false
    have eT : tSz ((38, t.2.2.1, t.2.2.2.1 - t.2.2.1, t.2.1, false), fo [T]) = 1 + tSz T := by
      show 1 + (1 + fSz T.2 + 0) = 1 + (1 + fSz T.2)
      omega
    refine OX_to (t_red (Vc := [T]) rfl (by omega) (by omega) t.2.1) (OX_reti ⟨cn, rfl, e3, t3, sc3, lf3, ((38, t.2.2.1, t.2.2.2.1 - t.2.2.1, t.2.1, false), fo [T]), ?_, ?_, ?_, nx, by omega, ?_, rfl, ?_⟩)
    · rw [eT, show cn + (1 + tSz T) = cn + 1 + tSz T by omega]; exact st4
    · rw [eT, show rn + (1 + tSz T) = rn + tSz T + 1 by omega]
      simp [foR, fo]
    · rw [eT, show cn + (1 + tSz T) = cn + 1 + tSz T by omega]; exact tr
    · refine gG_mk (gT_tk ht e0.1 e0.2 hs.lx false hk) ⟨T.1.1, rfl, x1⟩ (gW_no (show (38 : Int) ≠ 5 by decide)) fun x hx => ?_
      have : x = T := by simpa using hx
      subst this
      exact g3
    · show 2 * (t.2.2.2.1 - t.2.2.1) + 1 + fWt 38 t.2.1 0 (fo ([] ++ [T])) + 1 ≤ _
      have : fWt 38 t.2.1 0 (fo ([] ++ [T])) ≤ 0 + 2 * (e3 - t2.2.2.1) := fWt_ch (w := 1) (a := []) (by unfold tWn; rw [if_pos (by omega)]) x3 (fun z => absurd z (by decide))
      omega
  unfold OI
  rw [cS_85, cF_85_0, hs.kd]
  refine OX_ite (fun _ => main) fun _ => OX_ite (fun _ => main) fun _ => OX_ite (fun _ => main) fun _ => OX_ite (fun _ => main) fun _ => ?_
  exfalso; omega
def S_ob (tx : Int → Int) (n : Int) (m : Nat) : Prop := ∀ (s : cm_S) (e : Int) (g : Bool) (t : tTk) (cn sc : Int) (W : List (Int × Int)) (d rn : Int) (lf : Bool) (V : List tT) (K : List rTs) (S : List rSg), cSt tx n s e g t cn sc W → n - e ≤ m → t.2.1 = 123 → Nu t.2.2.1 cn rn d 2 10 K S W → Dm tx n K (V.length + 1) S → OI tx n s cn (cm_sem 84 [.inr (.inl 14), .inl d] s) (t.2.2.2.1, d, rn, sc, lf, V, (23, t.2.2.1, V.length, 0, 0) :: K, S) (Po tx n t.2.2.1 cn rn d V K S W (xO t.2.2.1))
theorem ob_end {s : cm_S} {e b cn rn d p sc v : Int} {t : tTk} {lf : Bool} {V : List tT} {K : List rTs} {S : List rSg} {W : List (Int × Int)} {L : List tT} (hs : cSt tx n s e false t (cn + 1 + fSz (fo L)) sc W) (hn : cNo s (cn + 1 + fSz (fo L)) v (37, p, 0, 0) cn L) (hp : 0 ≤ p ∧ p ≤ n) (hsz : b + 2 + fSz (fo L) ≤ e) (hg : ∀ x ∈ L, gG tx n x ∧ x.1.1 = 38) (hw : fWt 37 0 0 (fo L) + L.length + 4 ≤ 2 * (e - b)) : Po tx n b cn rn d V K S W (xO b) v s (e, d, rn + fSz (fo L) + 1, sc, lf, ((37, p, 0, 0, false), fo L) :: V, K, S) := by
  obtain ⟨tr, nx⟩ := cNo_tr hn false
  have eT : tSz ((37, p, 0, 0, false), fo L) = 1 + fSz (fo L) := rfl
  refine ⟨e, t, sc, lf, ((37, p, 0, 0, false), fo L), ?_, ?_, ?_, nx, by omega, ?_, (show isE 37 by unfold isE; decide), fun z => absurd z (show (37 : Int) ≠ 34 by decide), ?_, ?_⟩
  · rw [eT, show cn + (1 + fSz (fo L)) = cn + 1 + fSz (fo L) by omega]; exact hs
  · rw [eT, show rn + (1 + fSz (fo L)) = rn + fSz (fo L) + 1 by omega]
  · rw [eT, show cn + (1 + fSz (fo L)) = cn + 1 + fSz (fo L) by omega]; exact tr
  · refine gG_mk (gT_no (by simp) hp.1 hp.2 rfl) ?_ (gW_no (show (37 : Int) ≠ 5 by decide)) fun x hx => (hg x hx).1
    show ∀ x ∈ L.map (·.1.1), x = 38
    intro x hx
    obtain ⟨y, hy, rfl⟩ := List.mem_map.mp hx
    exact (hg y hy).2
  · show (4 + fLn (fo L)) + fWt 37 0 0 (fo L) + (if (15 : Int) < 15 then 2 else 0) ≤ _
    rw [fLn_fo, if_neg (by decide)]
    omega
  · intro z
    exact absurd z (show tCa ((37, p, 0, 0, false), fo L) ≠ true from by show decide ((37 : Int) = 43) ≠ true; decide)
theorem ob_lp (ht : tOk tx n) {m : Nat} (hx : S_x tx n m) {d rn b cn v : Int} {V : List tT} {K : List rTs} {S : List rSg} {W : List (Int × Int)} (hD : Dm tx n K (V.length + 1) S) (hb : 0 ≤ b ∧ b ≤ n) (hd : 0 ≤ d ∧ d ≤ 20) (hK : (K.length : Int) ≤ 20 * d + 10) (hS : (S.length : Int) = W.length ∧ (S.length : Int) ≤ 10 * d) (hcb : 0 ≤ cn ∧ cn ≤ b + 2) (hrn : 0 ≤ rn ∧ rn + red K ≤ cn) : ∀ (j : Nat) (s : cm_S) (e i : Int) (t : tTk) (sc : Int) (lf : Bool) (L : List tT), n - e < j → n - e < m → cSt tx n s e false t (cn + 1 + fSz (fo L)) sc W → cNo s (cn + 1 + fSz (fo L)) v (37, b, 0, 0) cn L → (∀ x ∈ L, gG tx n x ∧ x.1.1 = 38) → 0 ≤ i → i ≤ e → b + 1 + fSz (fo L) ≤ e → fWt 37 0 0 (fo L) + 3 * L.length + 2 ≤ 2 * (e - b) → OI tx n s cn (cm_lp cm_sem cm_k84 7 [some (.inr (.inl 14)), some (.inl d), some (.inl v), some (.inl i)] [] s) (e, d, rn + fSz (fo L), sc, lf, L.reverse ++ V, (23, b, V.length, 0, 0) :: K, S) (Po tx n b cn rn d V K S W (xO b)) := by
  intro j
  induction j with
  | zero =>
    intro s e i t sc lf L hj _ hs
    have := hs.e0
    omega
  | succ j ih =>
    intro s e i t sc lf L hj hm hs hn hg hi0 hie hsz hwt
    have e0 := hs.e0
    have num := lxG_r4 ht e0.1 e0.2 hs.lx
    have f0 := fSz_0 (fo L)
    have hr0 := red_0 K
    have hlen : (((L.reverse ++ V).length : Nat) : Int) = L.length + V.length := by rw [List.length_append, List.length_reverse]; omega
    unfold OI
    rw [cE_84_7, cF_84_7, if_neg (by omega), hs.cd]
    by_cases hc : t.2.1 = 125
    · obtain ⟨hc', hlt⟩ := (tok_s ht e0.1 e0.2 hs.lx (c := 125) (by decide) (by decide)).1 hc
      rw [if_pos hc]
      refine OX_to (t_23e (Vc := L.reverse) ht hs.lx hc' (by omega) rfl (by omega) 0) ?_
      refine X_psk ht hs hc (fun hN' => hD _ _ _ _ _ _ (by omega) (by omega) hN' (by simp) (by omega) (by omega)) fun t' s1 hT e1 b1 st1 => OX_reti ⟨v, rfl, ?_⟩
      rw [foR_rev]
      exact ob_end st1 (cNo_row hn e1) hb (by omega) hg (by omega)
    · have hc1 := (tok_s ht e0.1 e0.2 hs.lx (c := 125) (by decide) (by decide)).2 hc
      rw [if_neg hc]
      by_cases hkk : t.1 = 1 ∨ t.1 = 2 ∨ t.1 = 3 ∨ t.1 = 4
      · have hk2 : rNo t = 1 ∨ rNo t = 3 ∨ rNo t = 2 ∨ 1000 ≤ rNo t ∧ rNo t ≤ 1026 := by
          have tn := tk_num (lxG_ok ht e0.1 e0.2 hs.lx).1
          omega
        refine OX_to (t_23m ht hs.lx hc1 hk2 (by omega)) ?_
        refine OX_bi (S_pr_of ht hx (rn := rn + fSz (fo L)) (lf := lf) (V := L.reverse ++ V) (K := (24, b, V.length, 0, 0) :: K) (S := S) hs (by omega) hkk ⟨by omega, by omega, by simp only [List.length_cons]; omega, hS.1, hS.2, by omega, by omega, by omega, by rw [red_co, if_neg (by omega)]; omega⟩ (dm_24 ht (by constructor <;> omega))) (by omega) fun v2 s2 c2 f2 k2 q2 => ?_
        obtain ⟨e2, t2, sc2, lf2, T, st2, rfl, tr2, nx2, sz2, g2, x1, x3⟩ := q2
        have tz := tSz_1 T
        have e02 := st2.e0
        have num2 := lxG_r4 ht e02.1 e02.2 st2.lx
        refine X_add st2 (by omega) (cNo_fr hn k2 (Int.le_refl _)) tr2 nx2 (Int.le_refl _) fun s3 k3 b3 n3 st3 => ?_
        have eL : fSz (fo (L ++ [T])) = fSz (fo L) + tSz T := fSz_fo L T
        have hw2 : fWt 37 0 0 (fo (L ++ [T])) ≤ fWt 37 0 0 (fo L) + (2 * (e2 - t.2.2.1) - 1) := fWt_ch (w := 0) (by unfold tWn; rw [if_neg (by omega), if_neg (by omega), if_neg (by omega), if_neg (by omega), if_neg (by omega), if_neg (by omega), if_neg (by omega)]) (by unfold tWb; have := tB_0 T.1; rw [if_neg (by omega)]; omega) (fun z => absurd z (by decide))
        have hln : ((L ++ [T]).length : Nat) = L.length + 1 := by simp
        have hgL : ∀ x ∈ L ++ [T], gG tx n x ∧ x.1.1 = 38 := fun x hx => by
          rcases List.mem_append.mp hx with hx | hx
          · exact hg x hx
          · have : x = T := by simpa using hx
            subst this
            exact ⟨g2, x1⟩
        have st3' : cSt tx n s3 e2 false t2 (cn + 1 + fSz (fo (L ++ [T]))) sc2 W := by rw [eL, show cn + 1 + (fSz (fo L) + tSz T) = cn + 1 + fSz (fo L) + tSz T by omega]; exact st3
        have n3' : cNo s3 (cn + 1 + fSz (fo (L ++ [T]))) v (37, b, 0, 0) cn (L ++ [T]) := by rw [eL, show cn + 1 + (fSz (fo L) + tSz T) = cn + 1 + fSz (fo L) + tSz T by omega]; exact n3
        have eV : T :: (L.reverse ++ V) = (L ++ [T]).reverse ++ V := by rw [List.reverse_append]; rfl
        have eR : rn + fSz (fo L) + tSz T = rn + fSz (fo (L ++ [T])) := by omega
        rw [st3.cd, cm_w_id (by omega) (by omega), eV, eR]
        by_cases h93 : t2.2.1 = 125
        · obtain ⟨h93', hlt2⟩ := (tok_s ht e02.1 e02.2 st2.lx (c := 125) (by decide) (by decide)).1 h93
          rw [if_pos h93, cE_84_7, cF_84_7, if_neg (by omega), st3.cd, if_pos h93]
          refine OX_to (t_24e (Vc := (L ++ [T]).reverse) ht st2.lx h93' (by omega) rfl (by omega) 0) ?_
          refine X_psk ht st3' h93 (fun hN' => hD _ _ _ _ _ _ (by omega) (by omega) hN' (by simp) (by omega) (by omega)) fun t' s4 hT4 e4 b4 st4 => OX_reti ⟨v, rfl, ?_⟩
          rw [foR_rev]
          exact ob_end st4 (cNo_row n3' e4) hb (by omega) hgL (by omega)
        · have h93' := (tok_s ht e02.1 e02.2 st2.lx (c := 125) (by decide) (by decide)).2 h93
          rw [if_neg h93]
          by_cases h44 : t2.2.1 = 44
          · obtain ⟨h44', hlt2⟩ := (tok_s ht e02.1 e02.2 st2.lx (c := 44) (by decide) (by decide)).1 h44
            refine OX_to (t_24m ht st2.lx h44' (by omega)) ?_
            refine X_psk ht st3' h44 (fun hN' => dm_23 ht (m := ((L ++ [T]).reverse ++ V).length) (by constructor; omega; simp only [List.length_append, List.length_reverse]; omega) _ _ _ _ _ _ (by omega) (by omega) hN' rfl (by rw [red_co, if_neg (by omega)]; omega) (by simp only [List.length_cons]; omega)) fun t' s4 hT4 e4 b4 st4 => ?_
            exact ih s4 t2.2.2.2.1 (i + 1) t' sc2 lf2 (L ++ [T]) (by omega) (by omega) st4 (cNo_row n3' e4) hgL (by omega) (by omega) (by omega) (by omega)
          · have h44' := (tok_s ht e02.1 e02.2 st2.lx (c := 44) (by decide) (by decide)).2 h44
            exact X_psn st3' h44 (b_24 ht st2.lx ⟨h44', h93'⟩ (by omega))
      · have hk2 : ¬ (rNo t = 1 ∨ rNo t = 3 ∨ rNo t = 2 ∨ 1000 ≤ rNo t ∧ rNo t ≤ 1026) := by
          have tn := tk_num (lxG_ok ht e0.1 e0.2 hs.lx).1
          omega
        refine OX_bi (lo1 := cn) (Q1 := fun _ _ _ => False) ?_ (Int.le_refl _) fun _ _ _ _ _ z => z.elim
        unfold OI
        rw [cS_85, cF_85_0, hs.kd, if_neg (by omega), if_neg (by omega), if_neg (by omega), if_neg (by omega)]
        exact X_refuse (b_23 ht hs.lx hc1 hk2 (by omega))
theorem S_ob_of (ht : tOk tx n) {m : Nat} (hx : S_x tx n m) : S_ob tx n m := by
  intro s e g t cn sc W d rn lf V K S hs hm h91 hN hD
  obtain ⟨n1, n2, n3, n4, n5, n6, n7, n8, n9⟩ := hN
  have e0 := hs.e0
  have num := lxG_r4 ht e0.1 e0.2 hs.lx
  have hr0 := red_0 K
  obtain ⟨h91', hlt⟩ := (tok_s ht e0.1 e0.2 hs.lx (c := 123) (by decide) (by decide)).1 h91
  unfold OI
  rw [cS_84, cF_84_0]
  refine X_first ht hs n6 (by omega) (Int.le_refl _) (fun hN' => dm_23 ht (m := V.length) (by constructor <;> omega) _ _ _ _ _ _ (by omega) (by omega) hN' rfl (by rw [red_co, if_neg (by omega)]; omega) (by simp only [List.length_cons]; omega)) fun t1 s1 hT1 k1 b1 n1' st1 => ?_
  have e01 := st1.e0
  have := ob_lp ht hx (b := t.2.2.1) (cn := cn) (rn := rn) (v := cn) (V := V) (K := K) (S := S) (W := W) hD (by omega) ⟨n1, n2⟩ n3 ⟨n4, n5⟩ ⟨n6, n7⟩ ⟨n8, n9⟩ ((n - t.2.2.2.1).toNat + 1) s1 t.2.2.2.1 0 t1 sc lf [] (by omega) (by omega) (by show cSt tx n s1 _ false t1 (cn + 1 + 0) sc W; rw [Int.add_zero]; exact st1) (by show cNo s1 (cn + 1 + 0) cn _ cn []; rw [Int.add_zero]; exact n1') (fun x hx => by cases hx) (by omega) (by omega) (by show t.2.2.1 + 1 + 0 ≤ _; omega) (by show (0 : Int) + 3 * ((0 : Nat) : Int) + 2 ≤ _; omega)
  change OI tx n s1 cn _ (t.2.2.2.1, d, rn + 0, sc, lf, [] ++ V, _, S) _ at this
  rw [Int.add_zero] at this
  exact this
end TX45
