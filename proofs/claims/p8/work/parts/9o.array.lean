/-! ===== [ .. ], { .. } ===== -/
section TX44
variable {tx : Int → Int} {n : Int}
theorem lxG_tc (ht : tOk tx n) {e : Int} (h0 : 0 ≤ e) (h1 : e ≤ n) {t : tTk} (h : lxG tx n false e = some t) (hc : t.2.1 ≠ 47 ∧ t.2.1 ≠ 12093) : lxG tx n true e = some t := by
  rw [lxG_same (g' := false) (by rw [lxG_sl ht h0 h1 h]; omega)]
  exact h
theorem rNo_tf (ht : tOk tx n) {e : Int} (h0 : 0 ≤ e) (h1 : e ≤ n) {t t' : tTk} (h : lxG tx n false e = some t) (h' : lxG tx n true e = some t') {c : Int} (hc : 33 ≤ c) (hg : c < 1000 ∨ 1026 < c) (hn : t.2.1 ≠ c) : rNo t' ≠ c := by
  rcases lxG_tf ht h0 h1 h h' with z | z
  · rw [z]; exact (tok_s ht h0 h1 h hc hg).2 hn
  · have tn := tk_num (lxG_ok ht h0 h1 h').1
    omega
abbrev tN0 : tT := ((21, 0, 0, 0, false), .leaf)
/-- of an operand -/
def xO (b : Int) (_ : cm_S) (e' : Int) (_ : tTk) (_ : Bool) (T : tT) : Prop := isE T.1.1 ∧ stO b T ∧ tWb 15 T ≤ 2 * (e' - b) ∧ (tCa T = true → tWt T + 2 ≤ 2 * (e' - b))
def S_arr (tx : Int → Int) (n : Int) (m : Nat) : Prop := ∀ (s : cm_S) (e : Int) (g : Bool) (t : tTk) (cn sc : Int) (W : List (Int × Int)) (d rn : Int) (lf : Bool) (V : List tT) (K : List rTs) (S : List rSg), cSt tx n s e g t cn sc W → n - e ≤ m → t.2.1 = 91 → Nu t.2.2.1 cn rn d 2 10 K S W → Dm tx n K (V.length + 1) S → OI tx n s cn (cm_sem 82 [.inr (.inl 14), .inl d] s) (t.2.2.2.1, d, rn, sc, lf, V, (21, t.2.2.1, V.length, 0, 0) :: K, S) (Po tx n t.2.2.1 cn rn d V K S W (xO t.2.2.1))
theorem arr_end {s : cm_S} {e b cn rn d p sc v : Int} {t : tTk} {lf : Bool} {V : List tT} {K : List rTs} {S : List rSg} {W : List (Int × Int)} {L : List tT} (hs : cSt tx n s e false t (cn + 1 + fSz (fo L)) sc W) (hn : cNo s (cn + 1 + fSz (fo L)) v (36, p, 0, 0) cn L) (hp : 0 ≤ p ∧ p ≤ n) (hsz : b + 2 + fSz (fo L) ≤ e) (hg : ∀ x ∈ L, gG tx n x ∧ (isE x.1.1 ∨ x.1.1 = 21)) (hw : fWt 36 0 0 (fo L) + L.length + 3 ≤ 2 * (e - b)) : Po tx n b cn rn d V K S W (xO b) v s (e, d, rn + fSz (fo L) + 1, sc, lf, ((36, p, 0, 0, false), fo L) :: V, K, S) := by
  obtain ⟨tr, nx⟩ := cNo_tr hn false
  have eT : tSz ((36, p, 0, 0, false), fo L) = 1 + fSz (fo L) := rfl
  refine ⟨e, t, sc, lf, ((36, p, 0, 0, false), fo L), ?_, ?_, ?_, nx, by omega, ?_, (show isE 36 by unfold isE; decide), fun z => absurd z (show (36 : Int) ≠ 34 by decide), ?_, ?_⟩
  · rw [eT, show cn + (1 + fSz (fo L)) = cn + 1 + fSz (fo L) by omega]; exact hs
  · rw [eT, show rn + (1 + fSz (fo L)) = rn + fSz (fo L) + 1 by omega]
  · rw [eT, show cn + (1 + fSz (fo L)) = cn + 1 + fSz (fo L) by omega]; exact tr
  · refine gG_mk (gT_no (by simp) hp.1 hp.2 rfl) ?_ (gW_no (show (36 : Int) ≠ 5 by decide)) fun x hx => (hg x hx).1
    show ∀ x ∈ L.map (·.1.1), isE x ∨ x = 21
    intro x hx
    obtain ⟨y, hy, rfl⟩ := List.mem_map.mp hx
    exact (hg y hy).2
  · show (3 + fLn (fo L)) + fWt 36 0 0 (fo L) + (if (15 : Int) < 15 then 2 else 0) ≤ _
    rw [fLn_fo, if_neg (by decide)]
    omega
  · intro z
    exact absurd z (show tCa ((36, p, 0, 0, false), fo L) ≠ true from by show decide ((36 : Int) = 43) ≠ true; decide)
theorem arr_lp (ht : tOk tx n) {m : Nat} (hx : S_x tx n m) {d rn b cn v : Int} {V : List tT} {K : List rTs} {S : List rSg} {W : List (Int × Int)} (hD : Dm tx n K (V.length + 1) S) (hb : 0 ≤ b ∧ b ≤ n) (hd : 0 ≤ d ∧ d ≤ 20) (hK : (K.length : Int) ≤ 20 * d + 10) (hS : (S.length : Int) = W.length ∧ (S.length : Int) ≤ 10 * d) (hcb : 0 ≤ cn ∧ cn ≤ b + 2) (hrn : 0 ≤ rn ∧ rn + red K ≤ cn) : ∀ (j : Nat) (s : cm_S) (e i : Int) (t : tTk) (sc : Int) (lf : Bool) (L : List tT), n - e < j → n - e < m → cSt tx n s e false t (cn + 1 + fSz (fo L)) sc W → cNo s (cn + 1 + fSz (fo L)) v (36, b, 0, 0) cn L → (∀ x ∈ L, gG tx n x ∧ (isE x.1.1 ∨ x.1.1 = 21)) → 0 ≤ i → i ≤ e → b + 1 + fSz (fo L) ≤ e → fWt 36 0 0 (fo L) + 2 * L.length + 2 ≤ 2 * (e - b) → OI tx n s cn (cm_lp cm_sem cm_k82 7 [some (.inr (.inl 14)), some (.inl d), some (.inl v), some (.inl i)] [] s) (e, d, rn + fSz (fo L), sc, lf, L.reverse ++ V, (21, b, V.length, 0, 0) :: K, S) (Po tx n b cn rn d V K S W (xO b)) := by
  intro j
  induction j with
  | zero =>
    intro s e i t sc lf L hj _ hs
    have := hs.e0
    omega
  | succ j ih =>
    intro s e i t sc lf L hj hm hs hn hg hi0 hie hsz hwt
    have e0 := hs.e0
    have num := lxG_r4 ht e0.1 e0.2 hs.lx
    have f0 := fSz_0 (fo L)
    have hr0 := red_0 K
    have hlen : (((L.reverse ++ V).length : Nat) : Int) = L.length + V.length := by rw [List.length_append, List.length_reverse]; omega
    unfold OI
    rw [cE_82_7, cF_82_7, if_neg (by omega), hs.cd]
    by_cases hc : t.2.1 = 93
    · obtain ⟨hc', hlt⟩ := (tok_s ht e0.1 e0.2 hs.lx (c := 93) (by decide) (by decide)).1 hc
      rw [if_pos hc]
      refine OX_to (t_21e (Vc := L.reverse) ht (lxG_tc ht e0.1 e0.2 hs.lx (by omega)) hc' (by omega) rfl (by omega) 0) ?_
      refine X_psk ht hs hc (fun hN' => hD _ _ _ _ _ _ (by omega) (by omega) hN' (by simp) (by omega) (by omega)) fun t' s1 hT e1 b1 st1 => OX_reti ⟨v, rfl, ?_⟩
      rw [foR_rev]
      exact arr_end st1 (cNo_row hn e1) hb (by omega) hg (by omega)
    · have hc1 := (tok_s ht e0.1 e0.2 hs.lx (c := 93) (by decide) (by decide)).2 hc
      rw [if_neg hc]
      by_cases hc2 : t.2.1 = 44
      · obtain ⟨hc', hlt⟩ := (tok_s ht e0.1 e0.2 hs.lx (c := 44) (by decide) (by decide)).1 hc2
        rw [if_pos hc2]
        refine OX_to (t_21h ht (lxG_tc ht e0.1 e0.2 hs.lx (by omega)) hc' (by omega) (by omega)) ?_
        refine X_noth hs (by omega) (by omega) (by omega) fun s1 k1 b1 tr1 nx1 st1 => ?_
        refine X_add st1 (by omega) (cNo_fr hn k1 (Int.le_refl _)) tr1 nx1 (Int.le_refl _) fun s2 k2 b2 n2 st2 => ?_
        rw [st2.cd, if_neg hc]
        refine X_psk ht st2 hc2 (fun hN' => dm_21E ht (m := (L.reverse ++ V).length + 1) (by constructor <;> omega) _ _ _ _ _ _ (by omega) (by omega) hN' rfl (by rw [red_co, if_neg (by omega)]; omega) (by simp only [List.length_cons]; omega)) fun t' s3 hT e3 b3 st3 => ?_
        rw [cm_w_id (by omega) (by omega)]
        have eL : fSz (fo (L ++ [tN0])) = fSz (fo L) + 1 := fSz_fo L _
        have hw2 : fWt 36 0 0 (fo (L ++ [tN0])) ≤ fWt 36 0 0 (fo L) + 0 := fWt_ch (w := 1) (by unfold tWn; rw [if_pos (by omega)]) (by decide) (fun z => absurd z (by decide))
        have := ih s3 t.2.2.2.1 (i + 1) t' sc lf (L ++ [tN0]) (by omega) (by omega) (by rw [eL, show cn + 1 + (fSz (fo L) + 1) = cn + 1 + fSz (fo L) + 1 by omega]; exact st3) (by rw [eL, show cn + 1 + (fSz (fo L) + 1) = cn + 1 + fSz (fo L) + 1 by omega]; exact cNo_row n2 e3) (fun x hx => by
          rcases List.mem_append.mp hx with hx | hx
          · exact hg x hx
          · have : x = tN0 := by simpa using hx
            subst this
            refine ⟨⟨gT_no (by simp) (by show (0 : Int) ≤ 0; omega) (by show (0 : Int) ≤ n; omega) rfl, rfl, gW_no (show (21 : Int) ≠ 5 by decide), trivial⟩, Or.inr rfl⟩) (by omega) (by omega) (by omega) (by
          rw [show ((L ++ [tN0]).length : Nat) = L.length + 1 by simp]
          omega)
        rw [eL, show rn + (fSz (fo L) + 1) = rn + fSz (fo L) + 1 by omega, show (L ++ [tN0]).reverse = tN0 :: L.reverse from List.reverse_append] at this
        exact this
      · rw [if_neg hc2]
        cases hT' : lxG tx n true e with
        | none =>
          obtain ⟨s', e3, e4⟩ := x_none ht hs hT' d 0
          exact X_thri e3 e4 (b_21n ht hT' (by omega) (by constructor <;> omega) (by omega))
        | some t1 =>
          refine OX_to (t_21m ht hT' ⟨rNo_tf ht e0.1 e0.2 hs.lx hT' (by decide) (by decide) hc, rNo_tf ht e0.1 e0.2 hs.lx hT' (by decide) (by decide) hc2⟩ (by omega)) ?_
          refine OX_bi (hx s e false t _ sc W d (rn + fSz (fo L)) 0 lf (L.reverse ++ V) ((22, b, V.length, 0, 0) :: K) S hs hm ⟨by omega, by omega, by simp only [List.length_cons]; omega, hS.1, hS.2, by omega, by omega, by omega, by rw [red_co, if_neg (by omega)]; omega⟩ (Or.inl rfl) (dm_22 ht (by constructor <;> omega))) (by omega) fun v2 s2 c2 f2 k2 q2 => ?_
          obtain ⟨e2, t2, sc2, lf2, T, st2, rfl, tr2, nx2, sz2, g2, ⟨x1, x2, x3, x4⟩, x5⟩ := q2
          have tz := tSz_1 T
          have e02 := st2.e0
          have num2 := lxG_r4 ht e02.1 e02.2 st2.lx
          refine X_add st2 (by omega) (cNo_fr hn k2 (Int.le_refl _)) tr2 nx2 (Int.le_refl _) fun s3 k3 b3 n3 st3 => ?_
          have eL : fSz (fo (L ++ [T])) = fSz (fo L) + tSz T := fSz_fo L T
          have hw2 : fWt 36 0 0 (fo (L ++ [T])) ≤ fWt 36 0 0 (fo L) + 2 * (e2 - t.2.2.1) := fWt_ch (w := 1) (by unfold tWn; rw [if_pos (by omega)]) x3 (fun z => absurd z (by decide))
          have hln : ((L ++ [T]).length : Nat) = L.length + 1 := by simp
          have hgL : ∀ x ∈ L ++ [T], gG tx n x ∧ (isE x.1.1 ∨ x.1.1 = 21) := fun x hx => by
            rcases List.mem_append.mp hx with hx | hx
            · exact hg x hx
            · have : x = T := by simpa using hx
              subst this
              exact ⟨g2, Or.inl x1⟩
          have st3' : cSt tx n s3 e2 false t2 (cn + 1 + fSz (fo (L ++ [T]))) sc2 W := by rw [eL, show cn + 1 + (fSz (fo L) + tSz T) = cn + 1 + fSz (fo L) + tSz T by omega]; exact st3
          have n3' : cNo s3 (cn + 1 + fSz (fo (L ++ [T]))) v (36, b, 0, 0) cn (L ++ [T]) := by rw [eL, show cn + 1 + (fSz (fo L) + tSz T) = cn + 1 + fSz (fo L) + tSz T by omega]; exact n3
          have eV : T :: (L.reverse ++ V) = (L ++ [T]).reverse ++ V := by rw [List.reverse_append]; rfl
          have eR : rn + fSz (fo L) + tSz T = rn + fSz (fo (L ++ [T])) := by omega
          rw [st3.cd, cm_w_id (by omega) (by omega), eV, eR]
          by_cases h93 : t2.2.1 = 93
          · obtain ⟨h93', hlt2⟩ := (tok_s ht e02.1 e02.2 st2.lx (c := 93) (by decide) (by decide)).1 h93
            rw [if_pos h93, cE_82_7, cF_82_7, if_neg (by omega), st3.cd, if_pos h93]
            refine OX_to (t_22e (Vc := (L ++ [T]).reverse) ht st2.lx h93' (by omega) rfl (by omega) 0) ?_
            refine X_psk ht st3' h93 (fun hN' => hD _ _ _ _ _ _ (by omega) (by omega) hN' (by simp) (by omega) (by omega)) fun t' s4 hT4 e4 b4 st4 => OX_reti ⟨v, rfl, ?_⟩
            rw [foR_rev]
            exact arr_end st4 (cNo_row n3' e4) hb (by omega) hgL (by omega)
          · have h93' := (tok_s ht e02.1 e02.2 st2.lx (c := 93) (by decide) (by decide)).2 h93
            rw [if_neg h93]
            by_cases h44 : t2.2.1 = 44
            · obtain ⟨h44', hlt2⟩ := (tok_s ht e02.1 e02.2 st2.lx (c := 44) (by decide) (by decide)).1 h44
              refine OX_to (t_22m ht st2.lx h44' (by omega)) ?_
              refine X_psk ht st3' h44 (fun hN' => dm_21E ht (m := ((L ++ [T]).reverse ++ V).length) (by constructor; omega; simp only [List.length_append, List.length_reverse]; omega) _ _ _ _ _ _ (by omega) (by omega) hN' rfl (by rw [red_co, if_neg (by omega)]; omega) (by simp only [List.length_cons]; omega)) fun t' s4 hT4 e4 b4 st4 => ?_
              exact ih s4 t2.2.2.2.1 (i + 1) t' sc2 lf2 (L ++ [T]) (by omega) (by omega) st4 (cNo_row n3' e4) hgL (by omega) (by omega) (by omega) (by omega)
            · have h44' := (tok_s ht e02.1 e02.2 st2.lx (c := 44) (by decide) (by decide)).2 h44
              exact X_psn st3' h44 (b_22 ht st2.lx ⟨h44', h93'⟩ (by omega))
theorem S_arr_of (ht : tOk tx n) {m : Nat} (hx : S_x tx n m) : S_arr tx n m := by
  intro s e g t cn sc W d rn lf V K S hs hm h91 hN hD
  obtain ⟨n1, n2, n3, n4, n5, n6, n7, n8, n9⟩ := hN
  have e0 := hs.e0
  have num := lxG_r4 ht e0.1 e0.2 hs.lx
  have hr0 := red_0 K
  obtain ⟨h91', hlt⟩ := (tok_s ht e0.1 e0.2 hs.lx (c := 91) (by decide) (by decide)).1 h91
  unfold OI
  rw [cS_82, cF_82_0]
  refine X_first ht hs n6 (by omega) (Int.le_refl _) (fun hN' => dm_21E ht (m := V.length) (by constructor <;> omega) _ _ _ _ _ _ (by omega) (by omega) hN' rfl (by rw [red_co, if_neg (by omega)]; omega) (by simp only [List.length_cons]; omega)) fun t1 s1 hT1 k1 b1 n1' st1 => ?_
  have e01 := st1.e0
  have := arr_lp ht hx (b := t.2.2.1) (cn := cn) (rn := rn) (v := cn) (V := V) (K := K) (S := S) (W := W) hD (by omega) ⟨n1, n2⟩ n3 ⟨n4, n5⟩ ⟨n6, n7⟩ ⟨n8, n9⟩ ((n - t.2.2.2.1).toNat + 1) s1 t.2.2.2.1 0 t1 sc lf [] (by omega) (by omega) (by show cSt tx n s1 _ false t1 (cn + 1 + 0) sc W; rw [Int.add_zero]; exact st1) (by show cNo s1 (cn + 1 + 0) cn _ cn []; rw [Int.add_zero]; exact n1') (fun x hx => by cases hx) (by omega) (by omega) (by show t.2.2.1 + 1 + 0 ≤ _; omega) (by show (0 : Int) + 2 * ((0 : Nat) : Int) + 2 ≤ _; omega)
  change OI tx n s1 cn _ (t.2.2.2.1, d, rn + 0, sc, lf, [] ++ V, _, S) _ at this
  rw [Int.add_zero] at this
  exact this
end TX44
