/-! ===== x, .. , x ===== -/
section TX42
variable {tx : Int → Int} {n : Int}
/-- x is read alike, up to m characters ahead of the end -/
def S_x (tx : Int → Int) (n : Int) (m : Nat) : Prop := ∀ (s : cm_S) (e : Int) (g : Bool) (t : tTk) (cn sc : Int) (W : List (Int × Int)) (d rn noIn : Int) (lf : Bool) (V : List tT) (K : List rTs) (S : List rSg), cSt tx n s e g t cn sc W → n - e < m → Nu t.2.2.1 cn rn d 2 20 K S W → (noIn = 0 ∨ noIn = 1) → Dm tx n K (V.length + 1) S → OI tx n s cn (cm_sem 65 [.inr (.inl 14), .inl d, .inl noIn] s) (e, d, rn, sc, lf, V, (9, noIn, 0, 0, 0) :: K, S) (Po tx n t.2.2.1 cn rn d V K S W fun s' e' t' lf' T => xE t.2.2.1 1 s' e' t' lf' T ∧ ¬ asP (rNo t'))
/-- X -/
def S_seq (tx : Int → Int) (n : Int) (m : Nat) : Prop := ∀ (s : cm_S) (e : Int) (g : Bool) (t : tTk) (cn sc : Int) (W : List (Int × Int)) (d rn noIn : Int) (lf : Bool) (V : List tT) (K : List rTs) (S : List rSg), cSt tx n s e g t cn sc W → n - e < m → Nu t.2.2.1 cn rn d 2 19 K S W → (noIn = 0 ∨ noIn = 1) → Dm tx n K (V.length + 1) S → OI tx n s cn (cm_sem 76 [.inr (.inl 14), .inl d, .inl noIn] s) (e, d, rn, sc, lf, V, (7, noIn, 0, 0, 0) :: K, S) (Po tx n t.2.2.1 cn rn d V K S W fun s' e' t' lf' T => xE t.2.2.1 0 s' e' t' lf' T)
theorem seq_lp (ht : tOk tx n) {m : Nat} (hx : S_x tx n m) {d rn noIn b cn p v : Int} {V : List tT} {K : List rTs} {S : List rSg} {W : List (Int × Int)} (hN : noIn = 0 ∨ noIn = 1) (hD : Dm tx n K (V.length + 1) S) (hp : 0 ≤ p ∧ p ≤ n) (hd : 0 ≤ d ∧ d ≤ 20) (hK : (K.length : Int) ≤ 20 * d + 19) (hS : (S.length : Int) = W.length ∧ (S.length : Int) ≤ 10 * d) (hcb : 0 ≤ cn ∧ cn ≤ b + 2) (hrn : 0 ≤ rn ∧ rn + red K ≤ cn) : ∀ (k : Nat) (s : cm_S) (e i : Int) (t : tTk) (sc : Int) (lf : Bool) (L : List tT) (o3 : Option cm_V), n - e < k → n - e < m → cSt tx n s e false t (cn + 1 + fSz (fo L)) sc W → cNo s (cn + 1 + fSz (fo L)) v (49, p, 0, 0) cn L → 2 ≤ L.length → (∀ x ∈ L, gG tx n x ∧ isE x.1.1) → 0 ≤ i → i ≤ e → b + 1 + fSz (fo L) ≤ e → fWt 49 0 0 (fo L) + 2 * L.length - 2 ≤ 2 * (e - b) → OI tx n s cn (cm_lp cm_sem cm_k76 24 [some (.inr (.inl 14)), some (.inl d), some (.inl noIn), o3, some (.inl v), some (.inl i)] [] s) (e, d, rn + fSz (fo L), sc, lf, L.reverse ++ V, (8, p, V.length, noIn, 0) :: K, S) (Po tx n b cn rn d V K S W fun s' e' t' lf' T => xE b 0 s' e' t' lf' T) := by
  intro k
  induction k with
  | zero =>
    intro s e i t sc lf L o3 hk _ hs
    have := hs.e0
    omega
  | succ k ih =>
    intro s e i t sc lf L o3 hk hm hs hn hL hg hi0 hie hsz hwt
    have e0 := hs.e0
    have num := lxG_r4 ht e0.1 e0.2 hs.lx
    have tk := tok_s ht e0.1 e0.2 hs.lx (c := 44) (by decide) (by decide)
    have f0 := fSz_0 (fo L)
    have hr0 := red_0 K
    have hlen : (((L.reverse ++ V).length : Nat) : Int) = L.length + V.length := by rw [List.length_append, List.length_reverse]; omega
    unfold OI
    rw [cE_76_24, cF_76_24, if_neg (by omega), hs.cd]
    by_cases hc : t.2.1 = 44
    · obtain ⟨hc', hlt⟩ := tk.1 hc
      clear tk
      rw [if_pos hc]
      refine OX_to (t_8b ht (by omega) hs.lx hc' (by omega)) ?_
      refine X_next ht hs (fun hN' => dm_9 ht _ _ _ _ _ _ (by omega) (by omega) hN' rfl (by rw [red_co, red_co, if_neg (by omega), if_neg (by omega)]; omega) (by simp only [List.length_cons]; omega)) fun t' s1 hT e1 b1 st1 => ?_
      have num' := lxG_r4 ht (show 0 ≤ t.2.2.2.1 by omega) (by omega) hT
      refine OX_bi (hx s1 t.2.2.2.1 false t' _ sc W d (rn + fSz (fo L)) noIn lf (L.reverse ++ V) ((8, p, V.length, noIn, 0) :: K) S st1 (by omega) ⟨by omega, by omega, by simp only [List.length_cons]; omega, hS.1, hS.2, by omega, by omega, by omega, by rw [red_co, if_neg (by omega)]; omega⟩ hN (dm_8 ht (fun _ => by constructor <;> omega))) (by omega) fun v2 s2 c2 f2 k2 q2 => ?_
      obtain ⟨e2, t2, sc2, lf2, T, st2, rfl, tr2, nx2, sz2, g2, ⟨x1, x2, x3, x4⟩, x5⟩ := q2
      have tz := tSz_1 T
      have e02 := st2.e0
      refine X_add st2 (by omega) (cNo_fr (cNo_row hn e1) k2 (Int.le_refl _)) tr2 nx2 (Int.le_refl _) fun s3 k3 b3 n3 st3 => ?_
      rw [cm_w_id (by omega) (by omega)]
      have eL : fSz (fo (L ++ [T])) = fSz (fo L) + tSz T := fSz_fo L T
      have := ih s3 e2 (i + 1) t2 sc2 lf2 (L ++ [T]) o3 (by omega) (by omega) (by rw [eL, show cn + 1 + (fSz (fo L) + tSz T) = cn + 1 + fSz (fo L) + tSz T by omega]; exact st3) (by rw [eL, show cn + 1 + (fSz (fo L) + tSz T) = cn + 1 + fSz (fo L) + tSz T by omega]; exact n3) (by rw [List.length_append]; omega) (fun x hx => by
        rcases List.mem_append.mp hx with hx | hx
        · exact hg x hx
        · have : x = T := by simpa using hx
          subst this
          exact ⟨g2, x1⟩) (by omega) (by omega) (by omega) (by
        rw [fWt_fo, List.length_append, List.length_singleton]
        unfold tWb at x3
        have w1 : tWn 49 0 (0 + (L.length : Int)) = 1 := by unfold tWn; rw [if_pos (by omega)]
        rw [w1]
        have : ¬ (49 = (42 : Int) ∧ 0 + (L.length : Int) = 0 ∧ tCa T = true) := by omega
        by_cases hb : tB T.1 < 1
        · rw [if_pos hb] at x3
          rw [if_pos (Or.inl hb)]
          omega
        · rw [if_neg hb] at x3
          rw [if_neg (by intro z; rcases z with z | z; exact hb z; exact this z)]
          omega)
      rw [eL, show rn + (fSz (fo L) + tSz T) = rn + fSz (fo L) + tSz T by omega, List.reverse_append] at this
      exact this
    · have hc' := tk.2 hc
      clear tk
      rw [if_neg hc]
      obtain ⟨tr, nx⟩ := cNo_tr hn false
      have eT : tSz ((49, p, 0, 0, false), fo L) = 1 + fSz (fo L) := rfl
      refine OX_to (t_8d (Vc := L.reverse) ht (by omega) hs.lx hc' (by omega) rfl (by omega) 0) (OX_retb ⟨v, rfl, e, t, sc, false, ((49, p, 0, 0, false), fo L), ?_, ?_, ?_, nx, ?_, ?_, ?_⟩)
      · rw [eT, show cn + (1 + fSz (fo L)) = cn + 1 + fSz (fo L) by omega]
        exact cSt_p hs
      · rw [eT, show rn + (1 + fSz (fo L)) = rn + fSz (fo L) + 1 by omega, foR_rev]
        simp
      · rw [eT, show cn + (1 + fSz (fo L)) = cn + 1 + fSz (fo L) by omega]
        exact cTr_row tr rfl
      · omega
      · refine gG_mk (gT_no (by simp) hp.1 hp.2 rfl) ?_ (gW_no (show (49 : Int) ≠ 5 by decide)) fun x hx => (hg x hx).1
        show 2 ≤ (L.map (·.1.1)).length ∧ ∀ x ∈ L.map (·.1.1), isE x
        refine ⟨by rw [List.length_map]; exact hL, fun x hx => ?_⟩
        obtain ⟨y, hy, rfl⟩ := List.mem_map.mp hx
        exact (hg y hy).2
      · refine ⟨⟨show (30 : Int) ≤ 49 by decide, show (49 : Int) ≤ 49 by decide, show (49 : Int) ≠ 38 by decide⟩, fun z => absurd z (show (49 : Int) ≠ 34 by decide), ?_, cm_p_at, fun z => by cases z⟩
        show tOw (49, p, 0, 0, false) (fLn (fo L)) + fWt 49 0 0 (fo L) + (if (0 : Int) < 0 then 2 else 0) ≤ _
        rw [fLn_fo, show tOw (49, p, 0, 0, false) (L.length : Int) = 2 * (L.length : Int) - 2 from rfl, if_neg (show ¬ (0 : Int) < 0 by decide)]
        omega
theorem S_seq_of (ht : tOk tx n) {m : Nat} (hx : S_x tx n m) : S_seq tx n m := by
  intro s e g t cn sc W d rn noIn lf V K S hs hm hN hno hD
  obtain ⟨n1, n2, n3, n4, n5, n6, n7, n8, n9⟩ := hN
  have e0 := hs.e0
  have num := lxG_r4 ht e0.1 e0.2 hs.lx
  have hr0 := red_0 K
  unfold OI
  rw [cS_76, cF_76_0]
  refine OX_to (t_wh (by omega)) ?_
  refine OX_bi (hx s e g t cn sc W d rn noIn lf V ((8, -1, V.length, noIn, 0) :: K) S hs hm ⟨n1, n2, by simp only [List.length_cons]; omega, n4, n5, n6, n7, n8, by rw [red_co, if_neg (by omega)]; omega⟩ hno (dm_8 ht (fun z => absurd rfl z))) (Int.le_refl _) fun v1 s1 c1 f1 k1 q1 => ?_
  obtain ⟨e1, t1, sc1, lf1, T1, st1, rfl, tr1, nx1, sz1, g1, ⟨x1, x2, x3, x4⟩, x5⟩ := q1
  have tz := tSz_1 T1
  have e01 := st1.e0
  have num1 := lxG_r4 ht e01.1 e01.2 st1.lx
  have tk1 := tok_s ht e01.1 e01.2 st1.lx (c := 44) (by decide) (by decide)
  rw [st1.cd]
  have hw0 : tWt T1 + (if tB T1.1 < 1 then 2 else 0) ≤ 2 * (e1 - t.2.2.1) := x3
  by_cases hc : t1.2.1 = 44
  · obtain ⟨hc', hlt⟩ := tk1.1 hc
    clear tk1
    rw [if_pos hc]
    refine X_here st1 (by omega) (by omega) (by omega) fun s2 k2 b2 n2' st2 => ?_
    refine X_add0 st2 (by omega) n2' (cTr_fr tr1 k2 (Int.le_refl _)) (by rw [k2 11 v1 (by omega) (by omega) (by have := cTr_in tr1; omega)]; exact nx1) n6 (Int.le_refl _) fun s3 k3 b3 n3' st3 => ?_
    -- the first comma
    rw [cE_76_24, cF_76_24, if_neg (by omega), st3.cd, if_pos hc]
    refine OX_to (t_8a ht st1.lx hc' (by omega)) ?_
    refine X_next ht st3 (fun hN' => dm_9 ht _ _ _ _ _ _ (by omega) (by omega) hN' rfl (by rw [red_co, red_co, if_neg (by omega), if_neg (by omega)]; omega) (by simp only [List.length_cons]; omega)) fun t4 s4 hT4 e4 b4 st4 => ?_
    have num4 := lxG_r4 ht (show 0 ≤ t1.2.2.2.1 by omega) (by omega) hT4
    refine OX_bi (hx s4 t1.2.2.2.1 false t4 _ sc1 W d (rn + tSz T1) noIn lf1 (T1 :: V) ((8, t1.2.2.1, V.length, noIn, 0) :: K) S st4 (by omega) ⟨by omega, by omega, by simp only [List.length_cons]; omega, n4, n5, by omega, by omega, by omega, by rw [red_co, if_neg (by omega)]; omega⟩ hno (dm_8 ht (fun _ => by constructor; omega; simp only [List.length_cons]; omega))) (by omega) fun v5 s5 c5 f5 k5 q5 => ?_
    obtain ⟨e5, t5, sc5, lf5, T5, st5, rfl, tr5, nx5, sz5, g5, ⟨y1, y2, y3, y4⟩, y5⟩ := q5
    have tz5 := tSz_1 T5
    have e05 := st5.e0
    have hw5 : tWt T5 + (if tB T5.1 < 1 then 2 else 0) ≤ 2 * (e5 - t4.2.2.1) := y3
    refine X_add st5 (by omega) (cNo_fr (cNo_row n3' e4) k5 (Int.le_refl _)) tr5 nx5 (Int.le_refl _) fun s6 k6 b6 n6' st6 => ?_
    rw [cm_w_id (by omega) (by omega)]
    have eL : fSz (fo ([T1] ++ [T5])) = tSz T1 + tSz T5 := by
      rw [fSz_fo]
      show 1 + fSz T1.2 + 0 + tSz T5 = 1 + fSz T1.2 + tSz T5
      omega
    have := seq_lp ht hx (b := t.2.2.1) (cn := cn) (rn := rn) (p := t1.2.2.1) (v := cn + tSz T1) (V := V) (K := K) (S := S) (W := W) hno hD (by omega) ⟨n1, n2⟩ n3 ⟨n4, n5⟩ ⟨n6, n7⟩ ⟨n8, n9⟩ ((n - e5).toNat + 1) s6 e5 1 t5 sc5 lf5 ([T1] ++ [T5]) (some (.inl v1)) (by omega) (by omega) (by rw [eL, show cn + 1 + (tSz T1 + tSz T5) = cn + tSz T1 + 1 + tSz T5 by omega]; exact st6) (by rw [eL, show cn + 1 + (tSz T1 + tSz T5) = cn + tSz T1 + 1 + tSz T5 by omega]; exact n6') (by simp) (fun x hx => by
      have : x = T1 ∨ x = T5 := by simpa using hx
      rcases this with rfl | rfl
      · exact ⟨g1, x1⟩
      · exact ⟨g5, y1⟩) (by omega) (by omega) (by omega) (by
      rw [fWt_fo, fWt_1]
      have w1 : tWn 49 0 0 = 1 := rfl
      have w2 : tWn 49 0 (0 + (([T1] : List tT).length : Int)) = 1 := rfl
      rw [w1, w2]
      have a1 : (if tB T1.1 < 1 ∨ (49 : Int) = 42 ∧ (0 : Int) = 0 ∧ tCa T1 = true then (2 : Int) else 0) = if tB T1.1 < 1 then 2 else 0 := by
        by_cases hb : tB T1.1 < 1
        · rw [if_pos hb, if_pos (Or.inl hb)]
        · rw [if_neg hb, if_neg (by intro z; rcases z with z | z; exact hb z; omega)]
      have a2 : (if tB T5.1 < 1 ∨ (49 : Int) = 42 ∧ 0 + (([T1] : List tT).length : Int) = 0 ∧ tCa T5 = true then (2 : Int) else 0) = if tB T5.1 < 1 then 2 else 0 := by
        by_cases hb : tB T5.1 < 1
        · rw [if_pos hb, if_pos (Or.inl hb)]
        · rw [if_neg hb, if_neg (by intro z; rcases z with z | z; exact hb z; omega)]
      rw [a1, a2]
      show _ + 2 * ((2 : Nat) : Int) - 2 ≤ _
      omega)
    rw [eL, show rn + (tSz T1 + tSz T5) = rn + tSz T1 + tSz T5 by omega] at this
    exact this
  · rw [if_neg hc]
    refine OX_to (t_8c ht st1.lx (tk1.2 hc) (by omega)) (OX_reti ⟨v1, rfl, e1, t1, sc1, lf1, T1, st1, rfl, tr1, nx1, sz1, g1, x1, x2, ?_, x4⟩)
    have := tB_0 T1.1
    show tWt T1 + (if tB T1.1 < 0 then 2 else 0) ≤ _
    rw [if_neg (by omega)]
    split at hw0 <;> omega
end TX42
