/-! ===== at the text's end; where an operand's begin is no token ===== -/
section TX43
variable {tx : Int → Int} {n : Int}
theorem be_9 (ht : tOk tx n) {e d rn pu : Int} {lf : Bool} {V : List tT} {K : List rTs} {S : List rSg} {t : tTk} {a b c x : Int} (hT : lxG tx n true e = some t) (hz : rNo t = 0) (h0 : 0 ≤ d) (h9 : d ≤ 30) (hK : (K.length : Int) ≤ 860) : rBd tx n (e, d, rn, pu, lf, V, (9, a, b, c, x) :: K, S) :=
  (t_9 ht hT h0 (by omega) (by omega)).bd ((t_120l ht hT (by omega) (by simp only [List.length_cons]; omega)).bd ((t_14o ht hT (by omega) (by simp only [List.length_cons]; omega)).bd (b_20 ht hT (by omega) (by simp only [List.length_cons]; omega))))
theorem be_20 (ht : tOk tx n) {e d rn pu : Int} {lf : Bool} {V : List tT} {K : List rTs} {S : List rSg} {t : tTk} {b c x : Int} (hT : lxG tx n true e = some t) (hz : rNo t = 0) (h0 : 0 ≤ d) (h9 : d ≤ 29) (hK : (K.length : Int) ≤ 850) : rBd tx n (e, d, rn, pu, lf, V, (2, 0, b, c, x) :: K, S) :=
  (t_2x0 ht hT (by omega) (by omega) h0 (by omega) (by omega)).bd ((t_wh (by simp only [List.length_cons]; omega)).bd (be_9 ht hT hz (by omega) (by omega) (by simp only [List.length_cons]; omega)))
theorem be_21 (ht : tOk tx n) {e d rn pu : Int} {lf : Bool} {V : List tT} {K : List rTs} {S : List rSg} {t : tTk} {b c x : Int} (hT : lxG tx n true e = some t) (hz : rNo t = 0) (h0 : 0 ≤ d) (h9 : d ≤ 29) (hK : (K.length : Int) ≤ 850) : rBd tx n (e, d, rn, pu, lf, V, (2, 1, b, c, x) :: K, S) :=
  (t_2x1 ht hT (by omega) (by omega) h0 (by omega) (by omega)).bd ((t_wh (by simp only [List.length_cons]; omega)).bd (be_9 ht hT hz (by omega) (by omega) (by simp only [List.length_cons]; omega)))
theorem be_12 (ht : tOk tx n) {e d rn pu : Int} {lf : Bool} {V : List tT} {K : List rTs} {S : List rSg} {t : tTk} {b c x : Int} (hT : lxG tx n true e = some t) (hz : rNo t = 0) (h0 : 0 ≤ d) (h9 : d ≤ 30) (hK : (K.length : Int) ≤ 860) : rBd tx n (e, d, rn, pu, lf, V, (12, 1, b, c, x) :: K, S) :=
  (t_121l ht hT (by omega) h0 (by omega) (by omega)).bd ((t_14o ht hT (by omega) (by simp only [List.length_cons]; omega)).bd (b_20 ht hT (by omega) (by simp only [List.length_cons]; omega)))
theorem be_15 (ht : tOk tx n) {e d rn pu : Int} {lf : Bool} {V : List tT} {K : List rTs} {S : List rSg} {t : tTk} {a b c x : Int} (hT : lxG tx n true e = some t) (hz : rNo t = 0) (h0 : 0 ≤ d) (h9 : d ≤ 30) (hK : (K.length : Int) ≤ 860) : rBd tx n (e, d, rn, pu, lf, V, (15, a, b, c, x) :: K, S) :=
  (t_15o ht hT (by omega) h0 (by omega) (by omega)).bd (b_20 ht hT (by omega) (by simp only [List.length_cons]; omega))
theorem b_18n (ht : tOk tx n) {e d rn pu : Int} {lf : Bool} {V : List tT} {K : List rTs} {S : List rSg} {a b c x : Int} (hN : lxG tx n true e = none) (hr : rn ≤ 486) (hc : 0 ≤ c ∧ c ≤ V.length) (hK : (K.length : Int) ≤ 880) : rBd tx n (e, d, rn, pu, lf, V, (18, a, b, c, x) :: K, S) := by
  refine rBd_mk fun s q => rd_18 q (by omega) fun s q => ?_
  rw [cS_245, cF_245_0]
  refine RO_n1 ht q hN fun s1 q1 g1 x1 f1 => ?_
  have z := rZ_of q1 g1 x1 f1 (by omega) hr
  repeat' first
      | exact Z_ret ‹_›
      | refine Z_pu ‹_› (by omega) fun _ _ => ?_
      | refine Z_la ‹_› (by omega) fun _ _ => ?_
      | refine Z_tk ‹_› fun _ _ => ?_
      | refine Z_re ‹_› (by omega) (by omega) (by omega) fun _ _ => ?_
      | refine RO_ite (fun _ => ?_) (fun _ => ?_)
theorem b_21n (ht : tOk tx n) {e d rn pu : Int} {lf : Bool} {V : List tT} {K : List rTs} {S : List rSg} {a b c x : Int} (hN : lxG tx n true e = none) (hr : rn ≤ 486) (hc : 0 ≤ b ∧ b ≤ V.length) (hK : (K.length : Int) ≤ 880) : rBd tx n (e, d, rn, pu, lf, V, (21, a, b, c, x) :: K, S) := by
  refine rBd_mk fun s q => rd_21E q (by omega) fun s q => ?_
  rw [cS_248, cF_248_0]
  refine RO_n1 ht q hN fun s1 q1 g1 x1 f1 => ?_
  have z := rZ_of q1 g1 x1 f1 (by omega) hr
  repeat' first
      | exact Z_ret ‹_›
      | refine Z_pu ‹_› (by omega) fun _ _ => ?_
      | refine Z_la ‹_› (by omega) fun _ _ => ?_
      | refine Z_tk ‹_› fun _ _ => ?_
      | refine Z_no ‹_› (by omega) fun _ _ => ?_
      | refine Z_re ‹_› (by omega) (by omega) (by omega) fun _ _ => ?_
      | refine RO_ite (fun _ => ?_) (fun _ => ?_)
/-- where a / begins the token, an operand's begin there is a pattern -/
theorem lxG_st (ht : tOk tx n) {e : Int} (h0 : 0 ≤ e) (h1 : e ≤ n) {t t' : tTk} (h : lxG tx n false e = some t) (hs : t.2.1 = 47 ∨ t.2.1 = 12093) (h' : lxG tx n true e = some t') : t'.1 = 5 := by
  rw [← lxG_sl ht h0 h1 h] at hs
  unfold lxG at h'
  rw [if_pos ⟨rfl, hs⟩] at h'
  split at h'
  · cases h'
  · cases h'; rfl
/-- else it is the same token -/
theorem lxG_tf (ht : tOk tx n) {e : Int} (h0 : 0 ≤ e) (h1 : e ≤ n) {t t' : tTk} (h : lxG tx n false e = some t) (h' : lxG tx n true e = some t') : t' = t ∨ t'.1 = 5 ∧ (t.2.1 = 47 ∨ t.2.1 = 12093) := by
  by_cases hs : t.2.1 = 47 ∨ t.2.1 = 12093
  · exact Or.inr ⟨lxG_st ht h0 h1 h hs h', hs⟩
  · left
    rw [lxG_same (g' := false) (by rw [lxG_sl ht h0 h1 h]; exact hs), h] at h'
    exact (Option.some.inj h').symm
/-! the class -/
theorem w_none (ht : tOk tx n) {s : cm_S} {e : Int} {g : Bool} {t : tTk} {cn sc : Int} {W : List (Int × Int)} (h : cSt tx n s e g t cn sc W) (hN : lxG tx n true e = none) (d : Int) : ∃ s', cm_sem 48 [.inr (.inl 14), .inl d] s = some (.inr 0, s') ∧ cFm s s' := by
  obtain ⟨s', e1, e2⟩ := (c_due ht h.1).2 hN
  exact ⟨s', by rw [cS_48, cF_48_0, e1, cm_bv_t], e2.fm⟩
theorem x_none (ht : tOk tx n) {s : cm_S} {e : Int} {g : Bool} {t : tTk} {cn sc : Int} {W : List (Int × Int)} (h : cSt tx n s e g t cn sc W) (hN : lxG tx n true e = none) (d i : Int) : ∃ s', cm_sem 65 [.inr (.inl 14), .inl d, .inl i] s = some (.inr 0, s') ∧ cFm s s' := by
  obtain ⟨s', e1, e2⟩ := w_none ht h hN d
  exact ⟨s', by rw [cS_65, cF_65_0, e1, cm_bv_t], e2⟩
theorem seq_none (ht : tOk tx n) {s : cm_S} {e : Int} {g : Bool} {t : tTk} {cn sc : Int} {W : List (Int × Int)} (h : cSt tx n s e g t cn sc W) (hN : lxG tx n true e = none) (d i : Int) : ∃ s', cm_sem 76 [.inr (.inl 14), .inl d, .inl i] s = some (.inr 0, s') ∧ cFm s s' := by
  obtain ⟨s', e1, e2⟩ := x_none ht h hN d i
  exact ⟨s', by rw [cS_76, cF_76_0, e1, cm_bi_t], e2⟩
theorem st_none (ht : tOk tx n) {s : cm_S} {e : Int} {g : Bool} {t : tTk} {cn sc : Int} {W : List (Int × Int)} (h : cSt tx n s e g t cn sc W) (hN : lxG tx n true e = none) (d : Int) : ∃ s', cm_sem 47 [.inr (.inl 14), .inl d] s = some (.inr 0, s') ∧ cFm s s' := by
  obtain ⟨s', e1, e2⟩ := w_none ht h hN d
  exact ⟨s', by rw [cS_47, cF_47_0, e1, cm_bv_t], e2⟩
theorem el_none (ht : tOk tx n) {s : cm_S} {e : Int} {g : Bool} {t : tTk} {cn sc : Int} {W : List (Int × Int)} (h : cSt tx n s e g t cn sc W) (hN : lxG tx n true e = none) (d : Int) : ∃ s', cm_sem 46 [.inr (.inl 14), .inl d] s = some (.inr 0, s') ∧ cFm s s' := by
  obtain ⟨s1, e1, e2⟩ := w_none ht h hN d
  obtain ⟨s2, e3, e4⟩ := st_none ht h hN d
  rw [cS_46, cF_46_0]
  by_cases hc : s.1 1504 = 12
  · exact ⟨s1, by rw [if_pos hc, e1, cm_bv_t], e2⟩
  · exact ⟨s2, by rw [if_neg hc, e3, cm_bi_t], e4⟩
/-- both end badly -/
theorem X_thri {s s' : cm_S} {lo : Int} {x : Option cm_R} {f : Int → cm_S → Option cm_R} {c : rC} {Q : Option cm_V → cm_S → rC → Prop} (h : x = some (.inr 0, s')) (hf : cFm s s') (hb : rBd tx n c) : OX tx n s lo (cm_bi x f) c Q := by
  rw [h, cm_bi_t]
  exact Or.inr ⟨s', rfl, hf, hb⟩
/-- pass(x), where x stands there -/
theorem X_psk (ht : tOk tx n) {s : cm_S} {e : Int} {g : Bool} {t : tTk} {cn sc : Int} {W : List (Int × Int)} (h : cSt tx n s e g t cn sc W) {lo x : Int} {c : rC} (hx : t.2.1 = x) (hb : lxG tx n false t.2.2.2.1 = none → rBd tx n c) {f : cm_S → Option cm_R} {Q : Option cm_V → cm_S → rC → Prop} (h2 : ∀ t' s', lxG tx n false t.2.2.2.1 = some t' → s'.2 = s.2 → s'.1 1406 = s.1 1406 → cSt tx n s' t.2.2.2.1 false t' cn sc W → OX tx n s' lo (f s') c Q) : OX tx n s lo (cm_bv (cm_sem 60 [.inr (.inl 14), .inl x] s) f) c Q := by
  refine OX_bv (lo1 := lo) (Q1 := fun s' c' => c' = c ∧ s'.2 = s.2 ∧ s'.1 1406 = s.1 1406 ∧ ∃ t', lxG tx n false t.2.2.2.1 = some t' ∧ cSt tx n s' t.2.2.2.1 false t' cn sc W) ?_ (Int.le_refl _) ?_
  · rw [cS_60, cF_60_0, cS_55, cF_55_0, h.cd, if_pos hx, cm_bv_o]
    exact X_next ht h hb fun t' s' hT e2 b2 st2 => OX_retv ⟨rfl, rfl, e2, b2, t', hT, st2⟩
  · rintro s' c' - - ⟨rfl, e2, b2, t', hT, st⟩
    exact h2 t' s' hT e2 b2 st
/-- pass(x), where x does not stand there -/
theorem X_psn {s : cm_S} {e : Int} {g : Bool} {t : tTk} {cn sc : Int} {W : List (Int × Int)} (h : cSt tx n s e g t cn sc W) {lo x : Int} {c : rC} (hx : t.2.1 ≠ x) (hb : rBd tx n c) {f : cm_S → Option cm_R} {Q : Option cm_V → cm_S → rC → Prop} : OX tx n s lo (cm_bv (cm_sem 60 [.inr (.inl 14), .inl x] s) f) c Q := by
  rw [cS_60, cF_60_0, cS_55, cF_55_0, h.cd, if_neg hx, cS_52, cF_52_0, cs_34, cm_bv_t, cm_bv_t, cm_bv_t, cm_bv_t]
  exact Or.inr ⟨_, rfl, cFm_p (cFm_p (cFm_rf s) (by omega)) (by omega), hb⟩
/-- the weight of a child -/
theorem fWt_ch {k c i : Int} {a : List tT} {t : tT} {w z : Int} (hw : tWn k c (i + a.length) = w) (h : tWb w t ≤ z) (hk : k = 42 → i + a.length ≠ 0) : fWt k c i (fo (a ++ [t])) ≤ fWt k c i (fo a) + z := by
  rw [fWt_fo, hw]
  unfold tWb at h
  by_cases hb : tB t.1 < w
  · rw [if_pos hb] at h
    rw [if_pos (Or.inl hb)]
    omega
  · rw [if_neg hb] at h
    rw [if_neg (by rintro (y | y); exact hb y; exact hk y.1 y.2.1)]
    omega
/-! ( x, .. ) -/
def S_ar (tx : Int → Int) (n : Int) (m : Nat) : Prop := ∀ (s : cm_S) (e : Int) (t : tTk) (cn sc : Int) (W : List (Int × Int)) (d rn : Int) (lf : Bool) (V : List tT) (K : List rTs) (S : List rSg) (k p v lb : Int) (T0 : tT), cSt tx n s e false t cn sc W → n - e ≤ m → t.2.1 = 40 → (k = 42 ∨ k = 43) → Nu t.2.2.1 cn rn d 3 19 K S W → cNo s cn v (k, p, 0, 0) lb [T0] → Dm tx n K (V.length + 1) S → OV tx n s lb (cm_sem 77 [.inr (.inl 14), .inl v, .inl d] s) (t.2.2.2.1, d, rn, sc, lf, T0 :: V, (18, k, p, V.length, 0) :: K, S) fun s' c' => ∃ (e' : Int) (t' : tTk) (sc' : Int) (lf' : Bool) (L : List tT), cSt tx n s' e' false t' (cn + fSz (fo L)) sc' W ∧ c' = (e', d, rn + fSz (fo L) + 1, sc', lf', ((k, p, 0, 0, false), fo ([T0] ++ L)) :: V, K, S) ∧ cNo s' (cn + fSz (fo L)) v (k, p, 0, 0) lb ([T0] ++ L) ∧ t.2.2.1 + 2 + fSz (fo L) ≤ e' ∧ (∀ x ∈ L, gG tx n x ∧ isE x.1.1) ∧ fWt k 0 0 (fo ([T0] ++ L)) + (if L.length = 0 then 4 else 2 * (L.length : Int) + 2) ≤ fWt k 0 0 (fo [T0]) + 2 * (e' - t.2.2.1)
theorem t_18k (ht : tOk tx n) {e d rn pu : Int} {lf : Bool} {V : List tT} {K : List rTs} {S : List rSg} {t : tTk} {k b x : Int} {Vc : List tT} (hk : k = 42 ∨ k = 43) (hT : lxG tx n true e = some t) (hc : rNo t = 41) (hn : rn < 499) (hK : (K.length : Int) ≤ 880) : rTo tx n (e, d, rn, pu, lf, Vc ++ V, (18, k, b, V.length, x) :: K, S) (t.2.2.2.1, d, rn + 1, pu, lf, ((k, b, 0, 0, false), foR .leaf Vc) :: V, K, S) := by
  rcases hk with rfl | rfl
  · exact t_18e42 ht hT hc hn rfl hK 0
  · exact t_18e43 ht hT hc hn rfl hK 0
theorem t_19k (ht : tOk tx n) {e d rn pu : Int} {lf : Bool} {V : List tT} {K : List rTs} {S : List rSg} {t : tTk} {k b x : Int} {Vc : List tT} (hk : k = 42 ∨ k = 43) (hT : lxG tx n false e = some t) (hc : rNo t = 41) (hn : rn < 499) (hK : (K.length : Int) ≤ 880) : rTo tx n (e, d, rn, pu, lf, Vc ++ V, (19, k, b, V.length, x) :: K, S) (t.2.2.2.1, d, rn + 1, pu, lf, ((k, b, 0, 0, false), foR .leaf Vc) :: V, K, S) := by
  rcases hk with rfl | rfl
  · exact t_19e42 ht hT hc hn rfl hK 0
  · exact t_19e43 ht hT hc hn rfl hK 0
theorem ar_lp (ht : tOk tx n) {m : Nat} (hx : S_x tx n m) {d rn b cn p v k lb : Int} {T0 : tT} {V : List tT} {K : List rTs} {S : List rSg} {W : List (Int × Int)} (hk : k = 42 ∨ k = 43) (hD : Dm tx n K (V.length + 1) S) (hd : 0 ≤ d ∧ d ≤ 20) (hK : (K.length : Int) ≤ 20 * d + 19) (hS : (S.length : Int) = W.length ∧ (S.length : Int) ≤ 10 * d) (hcb : 0 ≤ cn ∧ cn ≤ b + 3) (hrn : 0 ≤ rn ∧ rn + red K ≤ cn) (hlb : lb ≤ cn) : ∀ (j : Nat) (s : cm_S) (e i : Int) (t : tTk) (sc : Int) (lf : Bool) (L : List tT), n - e < j → n - e < m → cSt tx n s e false t (cn + fSz (fo L)) sc W → cNo s (cn + fSz (fo L)) v (k, p, 0, 0) lb ([T0] ++ L) → 1 ≤ L.length → (∀ x ∈ L, gG tx n x ∧ isE x.1.1) → 1 ≤ i → i ≤ e → b + 1 + fSz (fo L) ≤ e → fWt k 0 0 (fo ([T0] ++ L)) + 2 * (L.length : Int) ≤ fWt k 0 0 (fo [T0]) + 2 * (e - b) → OV tx n s lb (cm_lp cm_sem cm_k77 6 [some (.inr (.inl 14)), some (.inl v), some (.inl d), some (.inl i)] [] s) (e, d, rn + fSz (fo L), sc, lf, ([T0] ++ L).reverse ++ V, (19, k, p, V.length, 0) :: K, S) fun s' c' => ∃ (e' : Int) (t' : tTk) (sc' : Int) (lf' : Bool) (L : List tT), cSt tx n s' e' false t' (cn + fSz (fo L)) sc' W ∧ c' = (e', d, rn + fSz (fo L) + 1, sc', lf', ((k, p, 0, 0, false), fo ([T0] ++ L)) :: V, K, S) ∧ cNo s' (cn + fSz (fo L)) v (k, p, 0, 0) lb ([T0] ++ L) ∧ b + 2 + fSz (fo L) ≤ e' ∧ (∀ x ∈ L, gG tx n x ∧ isE x.1.1) ∧ fWt k 0 0 (fo ([T0] ++ L)) + (if L.length = 0 then 4 else 2 * (L.length : Int) + 2) ≤ fWt k 0 0 (fo [T0]) + 2 * (e' - b) := by
  intro j
  induction j with
  | zero =>
    intro s e i t sc lf L hj _ hs
    have := hs.e0
    omega
  | succ j ih =>
    intro s e i t sc lf L hj hm hs hn hL hg hi0 hie hsz hwt
    have e0 := hs.e0
    have num := lxG_r4 ht e0.1 e0.2 hs.lx
    have tk1 := tok_s ht e0.1 e0.2 hs.lx (c := 41) (by decide) (by decide)
    have tk2 := tok_s ht e0.1 e0.2 hs.lx (c := 44) (by decide) (by decide)
    have f0 := fSz_0 (fo L)
    have hr0 := red_0 K
    have hlen : (((([T0] ++ L).reverse ++ V).length : Nat) : Int) = 1 + L.length + V.length := by simp only [List.length_append, List.length_reverse, List.length_singleton]; omega
    unfold OV
    rw [cE_77_6, cF_77_6, if_neg (by omega), hs.cd]
    by_cases hc : t.2.1 = 41
    · obtain ⟨hc', hlt⟩ := tk1.1 hc
      clear tk1 tk2
      rw [if_pos hc]
      refine OX_to (t_19k (Vc := ([T0] ++ L).reverse) ht hk hs.lx hc' (by omega) (by omega)) ?_
      refine X_psk ht hs hc (fun hN' => hD _ _ _ _ _ _ (by omega) (by omega) hN' (by simp) (by omega) (by omega)) fun t' s1 hT e1 b1 st1 => OX_retv ⟨rfl, t.2.2.2.1, t', sc, lf, L, st1, ?_, cNo_row hn e1, by omega, hg, ?_⟩
      · rw [foR_rev]
      · rw [if_neg (by omega)]
        omega
    · have hc1 := tk1.2 hc
      clear tk1
      rw [if_neg hc, if_pos (by omega)]
      by_cases hc2 : t.2.1 = 44
      · obtain ⟨hc', hlt⟩ := tk2.1 hc2
        clear tk2
        refine OX_to (t_19m ht hs.lx hc' (by omega)) ?_
        refine X_psk ht hs hc2 (fun hN' => dm_9 ht _ _ _ _ _ _ (by omega) (by omega) hN' rfl (by rw [red_co, red_co, if_neg (by omega), if_neg (by omega)]; omega) (by simp only [List.length_cons]; omega)) fun t' s1 hT e1 b1 st1 => ?_
        have num' := lxG_r4 ht (show 0 ≤ t.2.2.2.1 by omega) (by omega) hT
        refine OX_bi (hx s1 t.2.2.2.1 false t' _ sc W d (rn + fSz (fo L)) 0 lf (([T0] ++ L).reverse ++ V) ((19, k, p, V.length, 0) :: K) S st1 (by omega) ⟨by omega, by omega, by simp only [List.length_cons]; omega, hS.1, hS.2, by omega, by omega, by omega, by rw [red_co, if_neg (by omega)]; omega⟩ (Or.inl rfl) (dm_19 ht (by constructor <;> omega))) (by omega) fun v2 s2 c2 f2 k2 q2 => ?_
        obtain ⟨e2, t2, sc2, lf2, T, st2, rfl, tr2, nx2, sz2, g2, ⟨x1, x2, x3, x4⟩, x5⟩ := q2
        have tz := tSz_1 T
        have e02 := st2.e0
        refine X_add st2 (by omega) (cNo_fr (cNo_row hn e1) k2 (Int.le_refl _)) tr2 nx2 (Int.le_refl _) fun s3 k3 b3 n3 st3 => ?_
        rw [cm_w_id (by omega) (by omega)]
        have eL : fSz (fo (L ++ [T])) = fSz (fo L) + tSz T := fSz_fo L T
        have hwn : tWn k 0 (0 + (([T0] ++ L).length : Int)) = 1 := by
          rw [List.length_append, List.length_singleton]
          unfold tWn
          rw [if_neg (by omega), if_neg (by omega), if_neg (by omega), if_pos (by omega), if_neg (by omega)]
        have hw2 := fWt_ch (k := k) (c := 0) (i := 0) (a := [T0] ++ L) (t := T) hwn x3 (fun _ => by rw [List.length_append, List.length_singleton]; omega)
        have := ih s3 e2 (i + 1) t2 sc2 lf2 (L ++ [T]) (by omega) (by omega) (by rw [eL, show cn + (fSz (fo L) + tSz T) = cn + fSz (fo L) + tSz T by omega]; exact st3) (by rw [eL, show cn + (fSz (fo L) + tSz T) = cn + fSz (fo L) + tSz T by omega, ← List.append_assoc]; exact n3) (by rw [List.length_append]; omega) (fun x hx => by
          rcases List.mem_append.mp hx with hx | hx
          · exact hg x hx
          · have : x = T := by simpa using hx
            subst this
            exact ⟨g2, x1⟩) (by omega) (by omega) (by omega) (by
          rw [← List.append_assoc, show ((L ++ [T]).length : Nat) = L.length + 1 by simp]
          omega)
        rw [eL, show rn + (fSz (fo L) + tSz T) = rn + fSz (fo L) + tSz T by omega, ← List.append_assoc, show ([T0] ++ L ++ [T]).reverse = T :: ([T0] ++ L).reverse from List.reverse_append] at this
        exact this
      · have hc3 := tk2.2 hc2
        clear tk2
        exact X_psn hs hc2 (b_19 ht hs.lx ⟨hc3, hc1⟩ (by omega))
theorem S_ar_of (ht : tOk tx n) {m : Nat} (hx : S_x tx n m) : S_ar tx n m := by
  intro s e t cn sc W d rn lf V K S k p v lb T0 hs hm h40 hk hN hn hD
  obtain ⟨n1, n2, n3, n4, n5, n6, n7, n8, n9⟩ := hN
  have e0 := hs.e0
  have num := lxG_r4 ht e0.1 e0.2 hs.lx
  have hr0 := red_0 K
  obtain ⟨h40', hlt⟩ := (tok_s ht e0.1 e0.2 hs.lx (c := 40) (by decide) (by decide)).1 h40
  have hin := cNo_in hn
  unfold OV
  rw [cS_77, cF_77_0]
  refine X_psk ht hs h40 (fun hN' => dm_18 ht (m := V.length + 1) (by constructor <;> omega) _ _ _ _ _ _ (by omega) (by omega) hN' rfl (by rw [red_co, if_neg (by omega)]; omega) (by simp only [List.length_cons]; omega)) fun t1 s1 hT1 e1 b1 st1 => ?_
  have num1 := lxG_r4 ht (show 0 ≤ t.2.2.2.1 by omega) (by omega) hT1
  have tk1 := tok_s ht (show 0 ≤ t.2.2.2.1 by omega) (by omega) hT1 (c := 41) (by decide) (by decide)
  rw [cE_77_6, cF_77_6, if_neg (by omega), st1.cd]
  by_cases hc : t1.2.1 = 41
  · obtain ⟨hc', hlt1⟩ := tk1.1 hc
    clear tk1
    have hT1' : lxG tx n true t.2.2.2.1 = some t1 := by
      rw [lxG_same (g' := false) (by rw [lxG_sl ht (by omega) (by omega) hT1]; omega)]
      exact hT1
    rw [if_pos hc]
    refine OX_to (t_18k (Vc := [T0]) ht hk hT1' hc' (by omega) (by omega)) ?_
    refine X_psk ht st1 hc (fun hN' => hD _ _ _ _ _ _ (by omega) (by omega) hN' (by simp) (by omega) (by omega)) fun t2 s2 hT2 e2 b2 st2 => OX_retv ⟨rfl, t1.2.2.2.1, t2, sc, lf, [], ?_, ?_, ?_, ?_, fun x hx => (by cases hx), ?_⟩
    · show cSt tx n s2 _ false t2 (cn + 0) sc W
      rw [Int.add_zero]; exact st2
    · show _ = (_, _, rn + 0 + 1, _, _, _, _, _)
      rw [Int.add_zero]; rfl
    · show cNo s2 (cn + 0) v _ lb _
      rw [Int.add_zero, List.append_nil]; exact cNo_row (cNo_row hn e1) e2
    · show t.2.2.1 + 2 + 0 ≤ _
      omega
    · rw [if_pos (show ([] : List tT).length = 0 from rfl), List.append_nil]
      omega
  · have hc1 := tk1.2 hc
    clear tk1
    rw [if_neg hc, if_neg (by decide)]
    cases hT1' : lxG tx n true t.2.2.2.1 with
    | none =>
      obtain ⟨s', e3, e4⟩ := x_none ht st1 hT1' d 0
      exact X_thri e3 e4 (b_18n ht hT1' (by omega) ⟨by omega, by rw [List.length_cons]; omega⟩ (by omega))
    | some t1' =>
      have hc2 : rNo t1' ≠ 41 := by
        intro z
        have tn := tk_num (lxG_ok ht (by omega) (by omega) hT1').1
        have hsm : lxG tx n true t.2.2.2.1 = lxG tx n false t.2.2.2.1 := by
          apply lxG_same
          intro y
          rw [lxG_sl ht (by omega) (by omega) hT1] at y
          have := lxG_st ht (by omega) (by omega) hT1 y hT1'
          omega
        rw [hT1', hT1] at hsm
        cases hsm
        omega
      refine OX_to (t_18m ht hT1' hc2 (by omega)) ?_
      refine OX_bi (hx s1 t.2.2.2.1 false t1 cn sc W d rn 0 lf (T0 :: V) ((19, k, p, V.length, 0) :: K) S st1 (by omega) ⟨by omega, by omega, by simp only [List.length_cons]; omega, n4, n5, n6, by omega, n8, by rw [red_co, if_neg (by omega)]; omega⟩ (Or.inl rfl) (dm_19 ht (by constructor; omega; rw [List.length_cons]; omega))) (by omega) fun v2 s2 c2 f2 k2 q2 => ?_
      obtain ⟨e2, t2, sc2, lf2, T, st2, rfl, tr2, nx2, sz2, g2, ⟨x1, x2, x3, x4⟩, x5⟩ := q2
      have tz := tSz_1 T
      have e02 := st2.e0
      refine X_add st2 (by omega) (cNo_fr (cNo_row hn e1) k2 (Int.le_refl _)) tr2 nx2 (Int.le_refl _) fun s3 k3 b3 n3' st3 => ?_
      rw [cm_w_id (by omega) (by omega)]
      have eL : fSz (fo [T]) = tSz T := by
        show 1 + fSz T.2 + 0 = 1 + fSz T.2
        omega
      have hwn : tWn k 0 (0 + (([T0] : List tT).length : Int)) = 1 := by
        rw [List.length_singleton]
        unfold tWn
        rw [if_neg (by omega), if_neg (by omega), if_neg (by omega), if_pos (by omega), if_neg (by omega)]
      have hw2 := fWt_ch (k := k) (c := 0) (i := 0) (a := [T0]) (t := T) hwn x3 (fun _ => by rw [List.length_singleton]; omega)
      have := ar_lp ht hx (b := t.2.2.1) (cn := cn) (rn := rn) (p := p) (v := v) (k := k) (lb := lb) (T0 := T0) (V := V) (K := K) (S := S) (W := W) hk hD ⟨n1, n2⟩ n3 ⟨n4, n5⟩ ⟨n6, n7⟩ ⟨n8, n9⟩ (by omega) ((n - e2).toNat + 1) s3 e2 1 t2 sc2 lf2 [T] (by omega) (by omega) (by rw [eL]; exact st3) (by rw [eL]; exact n3') (by simp) (fun x hx => by
        have : x = T := by simpa using hx
        subst this
        exact ⟨g2, x1⟩) (by omega) (by omega) (by omega) (by
        rw [List.length_singleton]
        omega)
      rw [eL] at this
      exact this
end TX43
