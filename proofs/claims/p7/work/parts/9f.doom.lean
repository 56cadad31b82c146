/-! ===== where the next token is none: a task that looks tells it (printed by wip/gen/ref/mk9f.py) ===== -/
def red : List rTs → Int
  | [] => 0
  | T :: K => (if T.1 = 3 then 1 else 0) + red K
theorem red_0 : ∀ K : List rTs, 0 ≤ red K
  | [] => Int.le_refl _
  | T :: K => by
    have := red_0 K
    unfold red
    split <;> omega
section TX35
variable {tx : Int → Int} {n : Int}
def Dm (tx : Int → Int) (n : Int) (K : List rTs) (m : Nat) (S : List rSg) : Prop := ∀ (e d rn pu : Int) (lf : Bool) (V : List tT), 0 ≤ e → e ≤ n → lxG tx n false e = none → V.length = m → rn + red K ≤ 486 → (K.length : Int) ≤ 880 → rBd tx n (e, d, rn, pu, lf, V, K, S)
theorem lxG_none (ht : tOk tx n) {e : Int} (h0 : 0 ≤ e) (h1 : e ≤ n) (h : lxG tx n false e = none) : lxG tx n true e = none := by
  by_cases hs : (blE tx n 481 e false).2.2 = false ∧ (blE tx n 481 e false).1 < n ∧ tA tx n (blE tx n 481 e false).1 = 47
  · exfalso
    have hle := blE_le ht 481 e false h0 h1
    rw [lxG_f] at h
    unfold lxT at h
    rw [if_neg (by rw [hs.1]; decide), if_pos hs.2.1, if_neg (by rw [hs.2.2]; omega), if_neg (by rw [hs.2.2]; omega), if_neg (by rw [hs.2.2]; omega)] at h
    have hm : (sgE tx n (blE tx n 481 e false).1).2 ≠ -1 := by
      unfold sgE
      rw [if_pos (by rw [hs.2.2]; decide)]
      repeat' split
      all_goals (simp only; omega)
    rw [if_neg hm] at h
    cases h
  · rw [lxG_same (g' := false) hs]; exact h
theorem RO_ite {s : cm_S} {c : Prop} [Decidable c] {a b : Option cm_R} {G : cm_S → Prop} (h1 : c → RO s a G) (h2 : ¬ c → RO s b G) : RO s (if c then a else b) G := by
  by_cases h : c
  · rw [if_pos h]; exact h1 h
  · rw [if_neg h]; exact h2 h
abbrev asR (x : Int) : Prop := x = 61 ∨ x = 11069 ∨ x = 11581 ∨ x = 10813 ∨ x = 9533 ∨ x = 3947581 ∨ x = 4079165 ∨ x = 1044266557 ∨ x = 9789 ∨ x = 31805 ∨ x = 24125 ∨ x = 12093
def asP (x : Int) : Prop := asR x
theorem cs_235 (x : Int) (s : cm_S) : cm_sem 235 [.inl x] s = some (.inl (some (.inl (cm_b (asR x)))), s) := by
  rw [cS_235, cF_235_0]
  by_cases h : asR x
  · rw [show cm_b (asR x) = 1 from if_pos h]
    unfold asR at h
    rcases h with rfl | rfl | rfl | rfl | rfl | rfl | rfl | rfl | rfl | rfl | rfl | rfl <;> rfl
  · rw [show cm_b (asR x) = 0 from if_neg h]
    unfold asR at h
    rw [if_neg (by omega), if_neg (by omega), if_neg (by omega), if_neg (by omega), if_neg (by omega), if_neg (by omega), if_neg (by omega), if_neg (by omega), if_neg (by omega), if_neg (by omega), if_neg (by omega), if_neg (by omega)]
theorem Z_re1 {w : Int} {j : Nat} {s : cm_S} (z : rZ tx n w j s) (hj : j ≤ 11) (hw : 1 ≤ w) {k p l : Int} {f : cm_S → Option cm_R} {G : cm_S → Prop} (h : ∀ s', rZ tx n w (j + 1) s' → RO s' (f s') G) : RO s (cm_bv (cm_sem 202 [.inr (.inl 41), .inl k, .inl p, .inl l, .inl (cm_w (s.1 4134 - 1))] s) f) G := by
  have zz := z
  obtain ⟨z1, z2, z3, z4, z5, z6, z7, z8, z9, z10, z11⟩ := zz
  rw [cm_w_id (by omega) (by omega)]
  exact Z_re (rZ_at z) hj (by omega) (by omega) fun s' z' => h s' (rZ_lo z' (by omega))
theorem Z_re1p {w : Int} {j : Nat} {s : cm_S} (z : rZ tx n w j s) (hj : j ≤ 11) (hw : 1 ≤ w) {y k p l : Int} {f : cm_S → Option cm_R} {G : cm_S → Prop} (h : ∀ s', rZ tx n w (j + 1) s' → RO s' (f s') G) : RO s (cm_bv (cm_sem 202 [.inr (.inl 41), .inl k, .inl p, .inl l, .inl (cm_w (s.1 4134 - 1))] (cm_p s 4141 y)) f) G := by
  refine RO_from (rFm_p (rFm_rf s) (by omega)) (s1 := cm_p s 4141 y) ?_
  have := Z_re1 (rZ_p z (k := 4141) (Or.inr rfl) (y := y)) hj hw (k := k) (p := p) (l := l) h
  rw [cm_p_ne (by decide)] at this
  exact this
theorem Z_204 (ht : tOk tx n) {w : Int} {j : Nat} {s : cm_S} (z : rZ tx n w j s) (hj : j ≤ 8) {k : Int} {f : cm_S → Option cm_R} (h : ∀ s', gB s' → RO s' (f s') gB) : RO s (cm_bv (cm_sem 204 [.inr (.inl 41), .inl k] s) f) gB := by
  refine RO_bind ?_ h
  rw [cS_204, cF_204_0]
  repeat' first
      | exact Z_ret ‹_›
      | refine Z_pu ‹_› (by omega) fun _ _ => ?_
      | refine Z_la ‹_› (by omega) fun _ _ => ?_
      | refine Z_tk ‹_› fun _ _ => ?_
      | refine Z_bd ‹_› fun _ _ => ?_
      | refine Z_l ht ‹_› fun _ _ => ?_
      | refine RO_ite (fun _ => ?_) (fun _ => ?_)
theorem dm_1 (ht : tOk tx n) {a b c x : Int} {K : List rTs} {m : Nat} {S : List rSg} : Dm tx n ((1, a, b, c, x) :: K) m S := fun e d rn pu lf V h0 h1 hN hV hr hK s q => rL_step q (by
    rw [List.length_cons] at hK
    have hr0 := red_0 K
    have hr2 : rn ≤ 486 := by unfold red at hr; split at hr <;> omega
    refine rd_1 q (by omega) fun s q => ?_
    rw [cS_179, cF_179_0]
    refine RO_n1 ht q (lxG_none ht h0 h1 hN) fun s1 q1 g1 x1 f1 => ?_
    have z := rZ_of q1 g1 x1 f1 (by omega) hr2
    have hv : s1.1 4134 = V.length := q1.2.2.2.2.2.2.1
    repeat' first
      | exact Z_ret ‹_›
      | exact Z_at ‹_› (by omega)
      | refine Z_pu ‹_› (by omega) fun _ _ => ?_
      | refine Z_la ‹_› (by omega) fun _ _ => ?_
      | refine Z_tk ‹_› fun _ _ => ?_
      | refine Z_bd ‹_› fun _ _ => ?_
      | refine Z_l ht ‹_› fun _ _ => ?_
      | refine Z_lf ‹_› (by omega) fun _ _ => ?_
      | refine Z_no ‹_› (by omega) fun _ _ => ?_
      | refine Z_209 ‹_› (by omega) fun _ _ => ?_
      | refine Z_215 ‹_› (by omega) fun _ _ => ?_
      | refine Z_218 ‹_› (by omega) fun _ _ => ?_
      | refine Z_re1 ‹_› (by omega) (by omega) fun _ _ => ?_
      | refine Z_re1p ‹_› (by omega) (by omega) fun _ _ => ?_
      | refine Z_re ‹_› (by omega) (by omega) (by omega) fun _ _ => ?_
      | rw [cs_235, cm_bi_i]
      | (refine RO_bi (Z_en ht ‹_›) fun _ _ yy => ?_; rw [if_pos yy.1]; exact RO_ret yy.2)
      | refine Z_204 ht ‹_› (by omega) fun _ _ => ?_
      | exact RO_ret ‹gB _›
      | rw [cE_179_28, cF_179_28]
      | refine RO_ite (fun _ => ?_) (fun _ => ?_))
theorem dm_5 (ht : tOk tx n) {a b c x : Int} {K : List rTs} {m : Nat} {S : List rSg} : Dm tx n ((5, a, b, c, x) :: K) m S := fun e d rn pu lf V h0 h1 hN hV hr hK s q => rL_step q (by
    rw [List.length_cons] at hK
    have hr0 := red_0 K
    have hr2 : rn ≤ 486 := by unfold red at hr; split at hr <;> omega
    refine rd_5 q (by omega) fun s q => ?_
    rw [cS_210, cF_210_0]
    refine RO_n0 ht q hN fun s1 q1 g1 x1 f1 => ?_
    have z := rZ_of q1 g1 x1 f1 (by omega) hr2
    have hv : s1.1 4134 = V.length := q1.2.2.2.2.2.2.1
    repeat' first
      | exact Z_ret ‹_›
      | exact Z_at ‹_› (by omega)
      | refine Z_pu ‹_› (by omega) fun _ _ => ?_
      | refine Z_la ‹_› (by omega) fun _ _ => ?_
      | refine Z_tk ‹_› fun _ _ => ?_
      | refine Z_bd ‹_› fun _ _ => ?_
      | refine Z_l ht ‹_› fun _ _ => ?_
      | refine Z_lf ‹_› (by omega) fun _ _ => ?_
      | refine Z_no ‹_› (by omega) fun _ _ => ?_
      | refine Z_209 ‹_› (by omega) fun _ _ => ?_
      | refine Z_215 ‹_› (by omega) fun _ _ => ?_
      | refine Z_218 ‹_› (by omega) fun _ _ => ?_
      | refine Z_re1 ‹_› (by omega) (by omega) fun _ _ => ?_
      | refine Z_re1p ‹_› (by omega) (by omega) fun _ _ => ?_
      | refine Z_re ‹_› (by omega) (by omega) (by omega) fun _ _ => ?_
      | rw [cs_235, cm_bi_i]
      | (refine RO_bi (Z_en ht ‹_›) fun _ _ yy => ?_; rw [if_pos yy.1]; exact RO_ret yy.2)
      | refine Z_204 ht ‹_› (by omega) fun _ _ => ?_
      | exact RO_ret ‹gB _›
      | refine RO_ite (fun _ => ?_) (fun _ => ?_))
theorem dm_6 (ht : tOk tx n) {a b c x : Int} {K : List rTs} {m : Nat} {S : List rSg} : Dm tx n ((6, a, b, c, x) :: K) m S := fun e d rn pu lf V h0 h1 hN hV hr hK s q => rL_step q (by
    rw [List.length_cons] at hK
    have hr0 := red_0 K
    have hr2 : rn ≤ 486 := by unfold red at hr; split at hr <;> omega
    refine rd_6 q (by omega) fun s q => ?_
    rw [cS_211, cF_211_0]
    refine RO_n0 ht q hN fun s1 q1 g1 x1 f1 => ?_
    have z := rZ_of q1 g1 x1 f1 (by omega) hr2
    have hv : s1.1 4134 = V.length := q1.2.2.2.2.2.2.1
    repeat' first
      | exact Z_ret ‹_›
      | exact Z_at ‹_› (by omega)
      | refine Z_pu ‹_› (by omega) fun _ _ => ?_
      | refine Z_la ‹_› (by omega) fun _ _ => ?_
      | refine Z_tk ‹_› fun _ _ => ?_
      | refine Z_bd ‹_› fun _ _ => ?_
      | refine Z_l ht ‹_› fun _ _ => ?_
      | refine Z_lf ‹_› (by omega) fun _ _ => ?_
      | refine Z_no ‹_› (by omega) fun _ _ => ?_
      | refine Z_209 ‹_› (by omega) fun _ _ => ?_
      | refine Z_215 ‹_› (by omega) fun _ _ => ?_
      | refine Z_218 ‹_› (by omega) fun _ _ => ?_
      | refine Z_re1 ‹_› (by omega) (by omega) fun _ _ => ?_
      | refine Z_re1p ‹_› (by omega) (by omega) fun _ _ => ?_
      | refine Z_re ‹_› (by omega) (by omega) (by omega) fun _ _ => ?_
      | rw [cs_235, cm_bi_i]
      | (refine RO_bi (Z_en ht ‹_›) fun _ _ yy => ?_; rw [if_pos yy.1]; exact RO_ret yy.2)
      | refine Z_204 ht ‹_› (by omega) fun _ _ => ?_
      | exact RO_ret ‹gB _›
      | refine RO_ite (fun _ => ?_) (fun _ => ?_))
theorem dm_8 (ht : tOk tx n) {a b c x : Int} {K : List rTs} {m : Nat} {S : List rSg} (hb : a ≠ -1 → 0 ≤ b ∧ b ≤ m) : Dm tx n ((8, a, b, c, x) :: K) m S := fun e d rn pu lf V h0 h1 hN hV hr hK s q => rL_step q (by
    rw [List.length_cons] at hK
    have hr0 := red_0 K
    have hr2 : rn ≤ 486 := by unfold red at hr; split at hr <;> omega
    refine rd_8 q (by omega) fun s q => ?_
    rw [cS_232, cF_232_0]
    refine RO_n0 ht q hN fun s1 q1 g1 x1 f1 => ?_
    have z := rZ_of q1 g1 x1 f1 (by omega) hr2
    have hv : s1.1 4134 = V.length := q1.2.2.2.2.2.2.1
    repeat' first
      | exact Z_ret ‹_›
      | exact Z_at ‹_› (by omega)
      | refine Z_pu ‹_› (by omega) fun _ _ => ?_
      | refine Z_la ‹_› (by omega) fun _ _ => ?_
      | refine Z_tk ‹_› fun _ _ => ?_
      | refine Z_bd ‹_› fun _ _ => ?_
      | refine Z_l ht ‹_› fun _ _ => ?_
      | refine Z_lf ‹_› (by omega) fun _ _ => ?_
      | refine Z_no ‹_› (by omega) fun _ _ => ?_
      | refine Z_209 ‹_› (by omega) fun _ _ => ?_
      | refine Z_215 ‹_› (by omega) fun _ _ => ?_
      | refine Z_218 ‹_› (by omega) fun _ _ => ?_
      | refine Z_re1 ‹_› (by omega) (by omega) fun _ _ => ?_
      | refine Z_re1p ‹_› (by omega) (by omega) fun _ _ => ?_
      | refine Z_re ‹_› (by omega) (by omega) (by omega) fun _ _ => ?_
      | rw [cs_235, cm_bi_i]
      | (refine RO_bi (Z_en ht ‹_›) fun _ _ yy => ?_; rw [if_pos yy.1]; exact RO_ret yy.2)
      | refine Z_204 ht ‹_› (by omega) fun _ _ => ?_
      | exact RO_ret ‹gB _›
      | refine RO_ite (fun _ => ?_) (fun _ => ?_))
theorem dm_10 (ht : tOk tx n) {a b c x : Int} {K : List rTs} {m : Nat} {S : List rSg} (hm : 1 ≤ m) : Dm tx n ((10, a, b, c, x) :: K) m S := fun e d rn pu lf V h0 h1 hN hV hr hK s q => rL_step q (by
    rw [List.length_cons] at hK
    have hr0 := red_0 K
    have hr2 : rn ≤ 486 := by unfold red at hr; split at hr <;> omega
    refine rd_10 q (by omega) fun s q => ?_
    rw [cS_234, cF_234_0]
    refine RO_n0 ht q hN fun s1 q1 g1 x1 f1 => ?_
    have z := rZ_of q1 g1 x1 f1 (by omega) hr2
    have hv : s1.1 4134 = V.length := q1.2.2.2.2.2.2.1
    repeat' first
      | exact Z_ret ‹_›
      | exact Z_at ‹_› (by omega)
      | refine Z_pu ‹_› (by omega) fun _ _ => ?_
      | refine Z_la ‹_› (by omega) fun _ _ => ?_
      | refine Z_tk ‹_› fun _ _ => ?_
      | refine Z_bd ‹_› fun _ _ => ?_
      | refine Z_l ht ‹_› fun _ _ => ?_
      | refine Z_lf ‹_› (by omega) fun _ _ => ?_
      | refine Z_no ‹_› (by omega) fun _ _ => ?_
      | refine Z_209 ‹_› (by omega) fun _ _ => ?_
      | refine Z_215 ‹_› (by omega) fun _ _ => ?_
      | refine Z_218 ‹_› (by omega) fun _ _ => ?_
      | refine Z_re1 ‹_› (by omega) (by omega) fun _ _ => ?_
      | refine Z_re1p ‹_› (by omega) (by omega) fun _ _ => ?_
      | refine Z_re ‹_› (by omega) (by omega) (by omega) fun _ _ => ?_
      | rw [cs_235, cm_bi_i]
      | (refine RO_bi (Z_en ht ‹_›) fun _ _ yy => ?_; rw [if_pos yy.1]; exact RO_ret yy.2)
      | refine Z_204 ht ‹_› (by omega) fun _ _ => ?_
      | exact RO_ret ‹gB _›
      | refine RO_ite (fun _ => ?_) (fun _ => ?_))
theorem dm_13 (ht : tOk tx n) {a b c x : Int} {K : List rTs} {m : Nat} {S : List rSg} (hm : 1 ≤ m) : Dm tx n ((13, a, b, c, x) :: K) m S := fun e d rn pu lf V h0 h1 hN hV hr hK s q => rL_step q (by
    rw [List.length_cons] at hK
    have hr0 := red_0 K
    have hr2 : rn ≤ 486 := by unfold red at hr; split at hr <;> omega
    refine rd_13 q (by omega) fun s q => ?_
    rw [cS_240, cF_240_0]
    refine RO_n0 ht q hN fun s1 q1 g1 x1 f1 => ?_
    have z := rZ_of q1 g1 x1 f1 (by omega) hr2
    have hv : s1.1 4134 = V.length := q1.2.2.2.2.2.2.1
    repeat' first
      | exact Z_ret ‹_›
      | exact Z_at ‹_› (by omega)
      | refine Z_pu ‹_› (by omega) fun _ _ => ?_
      | refine Z_la ‹_› (by omega) fun _ _ => ?_
      | refine Z_tk ‹_› fun _ _ => ?_
      | refine Z_bd ‹_› fun _ _ => ?_
      | refine Z_l ht ‹_› fun _ _ => ?_
      | refine Z_lf ‹_› (by omega) fun _ _ => ?_
      | refine Z_no ‹_› (by omega) fun _ _ => ?_
      | refine Z_209 ‹_› (by omega) fun _ _ => ?_
      | refine Z_215 ‹_› (by omega) fun _ _ => ?_
      | refine Z_218 ‹_› (by omega) fun _ _ => ?_
      | refine Z_re1 ‹_› (by omega) (by omega) fun _ _ => ?_
      | refine Z_re1p ‹_› (by omega) (by omega) fun _ _ => ?_
      | refine Z_re ‹_› (by omega) (by omega) (by omega) fun _ _ => ?_
      | rw [cs_235, cm_bi_i]
      | (refine RO_bi (Z_en ht ‹_›) fun _ _ yy => ?_; rw [if_pos yy.1]; exact RO_ret yy.2)
      | refine Z_204 ht ‹_› (by omega) fun _ _ => ?_
      | exact RO_ret ‹gB _›
      | refine RO_ite (fun _ => ?_) (fun _ => ?_))
theorem dm_14 (ht : tOk tx n) {a b c x : Int} {K : List rTs} {m : Nat} {S : List rSg} : Dm tx n ((14, a, b, c, x) :: K) m S := fun e d rn pu lf V h0 h1 hN hV hr hK s q => rL_step q (by
    rw [List.length_cons] at hK
    have hr0 := red_0 K
    have hr2 : rn ≤ 486 := by unfold red at hr; split at hr <;> omega
    refine rd_14 q (by omega) fun s q => ?_
    rw [cS_241, cF_241_0]
    refine RO_n1 ht q (lxG_none ht h0 h1 hN) fun s1 q1 g1 x1 f1 => ?_
    have z := rZ_of q1 g1 x1 f1 (by omega) hr2
    have hv : s1.1 4134 = V.length := q1.2.2.2.2.2.2.1
    repeat' first
      | exact Z_ret ‹_›
      | exact Z_at ‹_› (by omega)
      | refine Z_pu ‹_› (by omega) fun _ _ => ?_
      | refine Z_la ‹_› (by omega) fun _ _ => ?_
      | refine Z_tk ‹_› fun _ _ => ?_
      | refine Z_bd ‹_› fun _ _ => ?_
      | refine Z_l ht ‹_› fun _ _ => ?_
      | refine Z_lf ‹_› (by omega) fun _ _ => ?_
      | refine Z_no ‹_› (by omega) fun _ _ => ?_
      | refine Z_209 ‹_› (by omega) fun _ _ => ?_
      | refine Z_215 ‹_› (by omega) fun _ _ => ?_
      | refine Z_218 ‹_› (by omega) fun _ _ => ?_
      | refine Z_re1 ‹_› (by omega) (by omega) fun _ _ => ?_
      | refine Z_re1p ‹_› (by omega) (by omega) fun _ _ => ?_
      | refine Z_re ‹_› (by omega) (by omega) (by omega) fun _ _ => ?_
      | rw [cs_235, cm_bi_i]
      | (refine RO_bi (Z_en ht ‹_›) fun _ _ yy => ?_; rw [if_pos yy.1]; exact RO_ret yy.2)
      | refine Z_204 ht ‹_› (by omega) fun _ _ => ?_
      | exact RO_ret ‹gB _›
      | refine RO_ite (fun _ => ?_) (fun _ => ?_))
theorem dm_16 (ht : tOk tx n) {a b c x : Int} {K : List rTs} {m : Nat} {S : List rSg} (hm : 1 ≤ m) : Dm tx n ((16, a, b, c, x) :: K) m S := fun e d rn pu lf V h0 h1 hN hV hr hK s q => rL_step q (by
    rw [List.length_cons] at hK
    have hr0 := red_0 K
    have hr2 : rn ≤ 486 := by unfold red at hr; split at hr <;> omega
    refine rd_16 q (by omega) fun s q => ?_
    rw [cS_243, cF_243_0]
    refine RO_n0 ht q hN fun s1 q1 g1 x1 f1 => ?_
    have z := rZ_of q1 g1 x1 f1 (by omega) hr2
    have hv : s1.1 4134 = V.length := q1.2.2.2.2.2.2.1
    repeat' first
      | exact Z_ret ‹_›
      | exact Z_at ‹_› (by omega)
      | refine Z_pu ‹_› (by omega) fun _ _ => ?_
      | refine Z_la ‹_› (by omega) fun _ _ => ?_
      | refine Z_tk ‹_› fun _ _ => ?_
      | refine Z_bd ‹_› fun _ _ => ?_
      | refine Z_l ht ‹_› fun _ _ => ?_
      | refine Z_lf ‹_› (by omega) fun _ _ => ?_
      | refine Z_no ‹_› (by omega) fun _ _ => ?_
      | refine Z_209 ‹_› (by omega) fun _ _ => ?_
      | refine Z_215 ‹_› (by omega) fun _ _ => ?_
      | refine Z_218 ‹_› (by omega) fun _ _ => ?_
      | refine Z_re1 ‹_› (by omega) (by omega) fun _ _ => ?_
      | refine Z_re1p ‹_› (by omega) (by omega) fun _ _ => ?_
      | refine Z_re ‹_› (by omega) (by omega) (by omega) fun _ _ => ?_
      | rw [cs_235, cm_bi_i]
      | (refine RO_bi (Z_en ht ‹_›) fun _ _ yy => ?_; rw [if_pos yy.1]; exact RO_ret yy.2)
      | refine Z_204 ht ‹_› (by omega) fun _ _ => ?_
      | exact RO_ret ‹gB _›
      | refine RO_ite (fun _ => ?_) (fun _ => ?_))
theorem dm_17 (ht : tOk tx n) {a b c x : Int} {K : List rTs} {m : Nat} {S : List rSg} (hb : 0 ≤ b ∧ b ≤ m) : Dm tx n ((17, a, b, c, x) :: K) m S := fun e d rn pu lf V h0 h1 hN hV hr hK s q => rL_step q (by
    rw [List.length_cons] at hK
    have hr0 := red_0 K
    have hr2 : rn ≤ 486 := by unfold red at hr; split at hr <;> omega
    refine rd_17 q (by omega) fun s q => ?_
    rw [cS_244, cF_244_0]
    refine RO_n0 ht q hN fun s1 q1 g1 x1 f1 => ?_
    have z := rZ_of q1 g1 x1 f1 (by omega) hr2
    have hv : s1.1 4134 = V.length := q1.2.2.2.2.2.2.1
    repeat' first
      | exact Z_ret ‹_›
      | exact Z_at ‹_› (by omega)
      | refine Z_pu ‹_› (by omega) fun _ _ => ?_
      | refine Z_la ‹_› (by omega) fun _ _ => ?_
      | refine Z_tk ‹_› fun _ _ => ?_
      | refine Z_bd ‹_› fun _ _ => ?_
      | refine Z_l ht ‹_› fun _ _ => ?_
      | refine Z_lf ‹_› (by omega) fun _ _ => ?_
      | refine Z_no ‹_› (by omega) fun _ _ => ?_
      | refine Z_209 ‹_› (by omega) fun _ _ => ?_
      | refine Z_215 ‹_› (by omega) fun _ _ => ?_
      | refine Z_218 ‹_› (by omega) fun _ _ => ?_
      | refine Z_re1 ‹_› (by omega) (by omega) fun _ _ => ?_
      | refine Z_re1p ‹_› (by omega) (by omega) fun _ _ => ?_
      | refine Z_re ‹_› (by omega) (by omega) (by omega) fun _ _ => ?_
      | rw [cs_235, cm_bi_i]
      | (refine RO_bi (Z_en ht ‹_›) fun _ _ yy => ?_; rw [if_pos yy.1]; exact RO_ret yy.2)
      | refine Z_204 ht ‹_› (by omega) fun _ _ => ?_
      | exact RO_ret ‹gB _›
      | refine RO_ite (fun _ => ?_) (fun _ => ?_))
theorem dm_18 (ht : tOk tx n) {a b c x : Int} {K : List rTs} {m : Nat} {S : List rSg} (hb : 0 ≤ c ∧ c ≤ m) : Dm tx n ((18, a, b, c, x) :: K) m S := fun e d rn pu lf V h0 h1 hN hV hr hK s q => rL_step q (by
    rw [List.length_cons] at hK
    have hr0 := red_0 K
    have hr2 : rn ≤ 486 := by unfold red at hr; split at hr <;> omega
    refine rd_18 q (by omega) fun s q => ?_
    rw [cS_245, cF_245_0]
    refine RO_n1 ht q (lxG_none ht h0 h1 hN) fun s1 q1 g1 x1 f1 => ?_
    have z := rZ_of q1 g1 x1 f1 (by omega) hr2
    have hv : s1.1 4134 = V.length := q1.2.2.2.2.2.2.1
    repeat' first
      | exact Z_ret ‹_›
      | exact Z_at ‹_› (by omega)
      | refine Z_pu ‹_› (by omega) fun _ _ => ?_
      | refine Z_la ‹_› (by omega) fun _ _ => ?_
      | refine Z_tk ‹_› fun _ _ => ?_
      | refine Z_bd ‹_› fun _ _ => ?_
      | refine Z_l ht ‹_› fun _ _ => ?_
      | refine Z_lf ‹_› (by omega) fun _ _ => ?_
      | refine Z_no ‹_› (by omega) fun _ _ => ?_
      | refine Z_209 ‹_› (by omega) fun _ _ => ?_
      | refine Z_215 ‹_› (by omega) fun _ _ => ?_
      | refine Z_218 ‹_› (by omega) fun _ _ => ?_
      | refine Z_re1 ‹_› (by omega) (by omega) fun _ _ => ?_
      | refine Z_re1p ‹_› (by omega) (by omega) fun _ _ => ?_
      | refine Z_re ‹_› (by omega) (by omega) (by omega) fun _ _ => ?_
      | rw [cs_235, cm_bi_i]
      | (refine RO_bi (Z_en ht ‹_›) fun _ _ yy => ?_; rw [if_pos yy.1]; exact RO_ret yy.2)
      | refine Z_204 ht ‹_› (by omega) fun _ _ => ?_
      | exact RO_ret ‹gB _›
      | refine RO_ite (fun _ => ?_) (fun _ => ?_))
theorem dm_19 (ht : tOk tx n) {a b c x : Int} {K : List rTs} {m : Nat} {S : List rSg} (hb : 0 ≤ c ∧ c ≤ m) : Dm tx n ((19, a, b, c, x) :: K) m S := fun e d rn pu lf V h0 h1 hN hV hr hK s q => rL_step q (by
    rw [List.length_cons] at hK
    have hr0 := red_0 K
    have hr2 : rn ≤ 486 := by unfold red at hr; split at hr <;> omega
    refine rd_19 q (by omega) fun s q => ?_
    rw [cS_246, cF_246_0]
    refine RO_n0 ht q hN fun s1 q1 g1 x1 f1 => ?_
    have z := rZ_of q1 g1 x1 f1 (by omega) hr2
    have hv : s1.1 4134 = V.length := q1.2.2.2.2.2.2.1
    repeat' first
      | exact Z_ret ‹_›
      | exact Z_at ‹_› (by omega)
      | refine Z_pu ‹_› (by omega) fun _ _ => ?_
      | refine Z_la ‹_› (by omega) fun _ _ => ?_
      | refine Z_tk ‹_› fun _ _ => ?_
      | refine Z_bd ‹_› fun _ _ => ?_
      | refine Z_l ht ‹_› fun _ _ => ?_
      | refine Z_lf ‹_› (by omega) fun _ _ => ?_
      | refine Z_no ‹_› (by omega) fun _ _ => ?_
      | refine Z_209 ‹_› (by omega) fun _ _ => ?_
      | refine Z_215 ‹_› (by omega) fun _ _ => ?_
      | refine Z_218 ‹_› (by omega) fun _ _ => ?_
      | refine Z_re1 ‹_› (by omega) (by omega) fun _ _ => ?_
      | refine Z_re1p ‹_› (by omega) (by omega) fun _ _ => ?_
      | refine Z_re ‹_› (by omega) (by omega) (by omega) fun _ _ => ?_
      | rw [cs_235, cm_bi_i]
      | (refine RO_bi (Z_en ht ‹_›) fun _ _ yy => ?_; rw [if_pos yy.1]; exact RO_ret yy.2)
      | refine Z_204 ht ‹_› (by omega) fun _ _ => ?_
      | exact RO_ret ‹gB _›
      | refine RO_ite (fun _ => ?_) (fun _ => ?_))
theorem dm_20E (ht : tOk tx n) {a b c x : Int} {K : List rTs} {m : Nat} {S : List rSg} : Dm tx n ((20, a, b, c, x) :: K) m S := fun e d rn pu lf V h0 h1 hN hV hr hK s q => rL_step q (by
    rw [List.length_cons] at hK
    have hr0 := red_0 K
    have hr2 : rn ≤ 486 := by unfold red at hr; split at hr <;> omega
    refine rd_20E q (by omega) fun s q => ?_
    rw [cS_247, cF_247_0]
    refine RO_n1 ht q (lxG_none ht h0 h1 hN) fun s1 q1 g1 x1 f1 => ?_
    have z := rZ_of q1 g1 x1 f1 (by omega) hr2
    have hv : s1.1 4134 = V.length := q1.2.2.2.2.2.2.1
    repeat' first
      | exact Z_ret ‹_›
      | exact Z_at ‹_› (by omega)
      | refine Z_pu ‹_› (by omega) fun _ _ => ?_
      | refine Z_la ‹_› (by omega) fun _ _ => ?_
      | refine Z_tk ‹_› fun _ _ => ?_
      | refine Z_bd ‹_› fun _ _ => ?_
      | refine Z_l ht ‹_› fun _ _ => ?_
      | refine Z_lf ‹_› (by omega) fun _ _ => ?_
      | refine Z_no ‹_› (by omega) fun _ _ => ?_
      | refine Z_209 ‹_› (by omega) fun _ _ => ?_
      | refine Z_215 ‹_› (by omega) fun _ _ => ?_
      | refine Z_218 ‹_› (by omega) fun _ _ => ?_
      | refine Z_re1 ‹_› (by omega) (by omega) fun _ _ => ?_
      | refine Z_re1p ‹_› (by omega) (by omega) fun _ _ => ?_
      | refine Z_re ‹_› (by omega) (by omega) (by omega) fun _ _ => ?_
      | rw [cs_235, cm_bi_i]
      | (refine RO_bi (Z_en ht ‹_›) fun _ _ yy => ?_; rw [if_pos yy.1]; exact RO_ret yy.2)
      | refine Z_204 ht ‹_› (by omega) fun _ _ => ?_
      | exact RO_ret ‹gB _›
      | refine RO_ite (fun _ => ?_) (fun _ => ?_))
theorem dm_21E (ht : tOk tx n) {a b c x : Int} {K : List rTs} {m : Nat} {S : List rSg} (hb : 0 ≤ b ∧ b ≤ m) : Dm tx n ((21, a, b, c, x) :: K) m S := fun e d rn pu lf V h0 h1 hN hV hr hK s q => rL_step q (by
    rw [List.length_cons] at hK
    have hr0 := red_0 K
    have hr2 : rn ≤ 486 := by unfold red at hr; split at hr <;> omega
    refine rd_21E q (by omega) fun s q => ?_
    rw [cS_248, cF_248_0]
    refine RO_n1 ht q (lxG_none ht h0 h1 hN) fun s1 q1 g1 x1 f1 => ?_
    have z := rZ_of q1 g1 x1 f1 (by omega) hr2
    have hv : s1.1 4134 = V.length := q1.2.2.2.2.2.2.1
    repeat' first
      | exact Z_ret ‹_›
      | exact Z_at ‹_› (by omega)
      | refine Z_pu ‹_› (by omega) fun _ _ => ?_
      | refine Z_la ‹_› (by omega) fun _ _ => ?_
      | refine Z_tk ‹_› fun _ _ => ?_
      | refine Z_bd ‹_› fun _ _ => ?_
      | refine Z_l ht ‹_› fun _ _ => ?_
      | refine Z_lf ‹_› (by omega) fun _ _ => ?_
      | refine Z_no ‹_› (by omega) fun _ _ => ?_
      | refine Z_209 ‹_› (by omega) fun _ _ => ?_
      | refine Z_215 ‹_› (by omega) fun _ _ => ?_
      | refine Z_218 ‹_› (by omega) fun _ _ => ?_
      | refine Z_re1 ‹_› (by omega) (by omega) fun _ _ => ?_
      | refine Z_re1p ‹_› (by omega) (by omega) fun _ _ => ?_
      | refine Z_re ‹_› (by omega) (by omega) (by omega) fun _ _ => ?_
      | rw [cs_235, cm_bi_i]
      | (refine RO_bi (Z_en ht ‹_›) fun _ _ yy => ?_; rw [if_pos yy.1]; exact RO_ret yy.2)
      | refine Z_204 ht ‹_› (by omega) fun _ _ => ?_
      | exact RO_ret ‹gB _›
      | refine RO_ite (fun _ => ?_) (fun _ => ?_))
theorem dm_22 (ht : tOk tx n) {a b c x : Int} {K : List rTs} {m : Nat} {S : List rSg} (hb : 0 ≤ b ∧ b ≤ m) : Dm tx n ((22, a, b, c, x) :: K) m S := fun e d rn pu lf V h0 h1 hN hV hr hK s q => rL_step q (by
    rw [List.length_cons] at hK
    have hr0 := red_0 K
    have hr2 : rn ≤ 486 := by unfold red at hr; split at hr <;> omega
    refine rd_22 q (by omega) fun s q => ?_
    rw [cS_249, cF_249_0]
    refine RO_n0 ht q hN fun s1 q1 g1 x1 f1 => ?_
    have z := rZ_of q1 g1 x1 f1 (by omega) hr2
    have hv : s1.1 4134 = V.length := q1.2.2.2.2.2.2.1
    repeat' first
      | exact Z_ret ‹_›
      | exact Z_at ‹_› (by omega)
      | refine Z_pu ‹_› (by omega) fun _ _ => ?_
      | refine Z_la ‹_› (by omega) fun _ _ => ?_
      | refine Z_tk ‹_› fun _ _ => ?_
      | refine Z_bd ‹_› fun _ _ => ?_
      | refine Z_l ht ‹_› fun _ _ => ?_
      | refine Z_lf ‹_› (by omega) fun _ _ => ?_
      | refine Z_no ‹_› (by omega) fun _ _ => ?_
      | refine Z_209 ‹_› (by omega) fun _ _ => ?_
      | refine Z_215 ‹_› (by omega) fun _ _ => ?_
      | refine Z_218 ‹_› (by omega) fun _ _ => ?_
      | refine Z_re1 ‹_› (by omega) (by omega) fun _ _ => ?_
      | refine Z_re1p ‹_› (by omega) (by omega) fun _ _ => ?_
      | refine Z_re ‹_› (by omega) (by omega) (by omega) fun _ _ => ?_
      | rw [cs_235, cm_bi_i]
      | (refine RO_bi (Z_en ht ‹_›) fun _ _ yy => ?_; rw [if_pos yy.1]; exact RO_ret yy.2)
      | refine Z_204 ht ‹_› (by omega) fun _ _ => ?_
      | exact RO_ret ‹gB _›
      | refine RO_ite (fun _ => ?_) (fun _ => ?_))
theorem dm_23 (ht : tOk tx n) {a b c x : Int} {K : List rTs} {m : Nat} {S : List rSg} (hb : 0 ≤ b ∧ b ≤ m) : Dm tx n ((23, a, b, c, x) :: K) m S := fun e d rn pu lf V h0 h1 hN hV hr hK s q => rL_step q (by
    rw [List.length_cons] at hK
    have hr0 := red_0 K
    have hr2 : rn ≤ 486 := by unfold red at hr; split at hr <;> omega
    refine rd_23 q (by omega) fun s q => ?_
    rw [cS_250, cF_250_0]
    refine RO_n0 ht q hN fun s1 q1 g1 x1 f1 => ?_
    have z := rZ_of q1 g1 x1 f1 (by omega) hr2
    have hv : s1.1 4134 = V.length := q1.2.2.2.2.2.2.1
    repeat' first
      | exact Z_ret ‹_›
      | exact Z_at ‹_› (by omega)
      | refine Z_pu ‹_› (by omega) fun _ _ => ?_
      | refine Z_la ‹_› (by omega) fun _ _ => ?_
      | refine Z_tk ‹_› fun _ _ => ?_
      | refine Z_bd ‹_› fun _ _ => ?_
      | refine Z_l ht ‹_› fun _ _ => ?_
      | refine Z_lf ‹_› (by omega) fun _ _ => ?_
      | refine Z_no ‹_› (by omega) fun _ _ => ?_
      | refine Z_209 ‹_› (by omega) fun _ _ => ?_
      | refine Z_215 ‹_› (by omega) fun _ _ => ?_
      | refine Z_218 ‹_› (by omega) fun _ _ => ?_
      | refine Z_re1 ‹_› (by omega) (by omega) fun _ _ => ?_
      | refine Z_re1p ‹_› (by omega) (by omega) fun _ _ => ?_
      | refine Z_re ‹_› (by omega) (by omega) (by omega) fun _ _ => ?_
      | rw [cs_235, cm_bi_i]
      | (refine RO_bi (Z_en ht ‹_›) fun _ _ yy => ?_; rw [if_pos yy.1]; exact RO_ret yy.2)
      | refine Z_204 ht ‹_› (by omega) fun _ _ => ?_
      | exact RO_ret ‹gB _›
      | refine RO_ite (fun _ => ?_) (fun _ => ?_))
theorem dm_24 (ht : tOk tx n) {a b c x : Int} {K : List rTs} {m : Nat} {S : List rSg} (hb : 0 ≤ b ∧ b ≤ m) : Dm tx n ((24, a, b, c, x) :: K) m S := fun e d rn pu lf V h0 h1 hN hV hr hK s q => rL_step q (by
    rw [List.length_cons] at hK
    have hr0 := red_0 K
    have hr2 : rn ≤ 486 := by unfold red at hr; split at hr <;> omega
    refine rd_24 q (by omega) fun s q => ?_
    rw [cS_251, cF_251_0]
    refine RO_n0 ht q hN fun s1 q1 g1 x1 f1 => ?_
    have z := rZ_of q1 g1 x1 f1 (by omega) hr2
    have hv : s1.1 4134 = V.length := q1.2.2.2.2.2.2.1
    repeat' first
      | exact Z_ret ‹_›
      | exact Z_at ‹_› (by omega)
      | refine Z_pu ‹_› (by omega) fun _ _ => ?_
      | refine Z_la ‹_› (by omega) fun _ _ => ?_
      | refine Z_tk ‹_› fun _ _ => ?_
      | refine Z_bd ‹_› fun _ _ => ?_
      | refine Z_l ht ‹_› fun _ _ => ?_
      | refine Z_lf ‹_› (by omega) fun _ _ => ?_
      | refine Z_no ‹_› (by omega) fun _ _ => ?_
      | refine Z_209 ‹_› (by omega) fun _ _ => ?_
      | refine Z_215 ‹_› (by omega) fun _ _ => ?_
      | refine Z_218 ‹_› (by omega) fun _ _ => ?_
      | refine Z_re1 ‹_› (by omega) (by omega) fun _ _ => ?_
      | refine Z_re1p ‹_› (by omega) (by omega) fun _ _ => ?_
      | refine Z_re ‹_› (by omega) (by omega) (by omega) fun _ _ => ?_
      | rw [cs_235, cm_bi_i]
      | (refine RO_bi (Z_en ht ‹_›) fun _ _ yy => ?_; rw [if_pos yy.1]; exact RO_ret yy.2)
      | refine Z_204 ht ‹_› (by omega) fun _ _ => ?_
      | exact RO_ret ‹gB _›
      | refine RO_ite (fun _ => ?_) (fun _ => ?_))
theorem dm_250 (ht : tOk tx n) {b c x : Int} {K : List rTs} {m : Nat} {S : List rSg} : Dm tx n ((25, 0, b, c, x) :: K) m S := fun e d rn pu lf V h0 h1 hN hV hr hK s q => rL_step q (by
    rw [List.length_cons] at hK
    have hr0 := red_0 K
    have hr2 : rn ≤ 486 := by unfold red at hr; split at hr <;> omega
    refine rd_250 (a := 0) q (by omega) fun s q => ?_
    rw [cS_228, cF_228_0]
    refine RO_n0 ht q hN fun s1 q1 g1 x1 f1 => ?_
    have z := rZ_of q1 g1 x1 f1 (by omega) hr2
    have hv : s1.1 4134 = V.length := q1.2.2.2.2.2.2.1
    repeat' first
      | exact Z_ret ‹_›
      | exact Z_at ‹_› (by omega)
      | refine Z_pu ‹_› (by omega) fun _ _ => ?_
      | refine Z_la ‹_› (by omega) fun _ _ => ?_
      | refine Z_tk ‹_› fun _ _ => ?_
      | refine Z_bd ‹_› fun _ _ => ?_
      | refine Z_l ht ‹_› fun _ _ => ?_
      | refine Z_lf ‹_› (by omega) fun _ _ => ?_
      | refine Z_no ‹_› (by omega) fun _ _ => ?_
      | refine Z_209 ‹_› (by omega) fun _ _ => ?_
      | refine Z_215 ‹_› (by omega) fun _ _ => ?_
      | refine Z_218 ‹_› (by omega) fun _ _ => ?_
      | refine Z_re1 ‹_› (by omega) (by omega) fun _ _ => ?_
      | refine Z_re1p ‹_› (by omega) (by omega) fun _ _ => ?_
      | refine Z_re ‹_› (by omega) (by omega) (by omega) fun _ _ => ?_
      | rw [cs_235, cm_bi_i]
      | (refine RO_bi (Z_en ht ‹_›) fun _ _ yy => ?_; rw [if_pos yy.1]; exact RO_ret yy.2)
      | refine Z_204 ht ‹_› (by omega) fun _ _ => ?_
      | exact RO_ret ‹gB _›
      | refine RO_ite (fun _ => ?_) (fun _ => ?_))
theorem dm_251 (ht : tOk tx n) {b c x : Int} {K : List rTs} {m : Nat} {S : List rSg} : Dm tx n ((25, 1, b, c, x) :: K) m S := fun e d rn pu lf V h0 h1 hN hV hr hK s q => rL_step q (by
    rw [List.length_cons] at hK
    have hr0 := red_0 K
    have hr2 : rn ≤ 486 := by unfold red at hr; split at hr <;> omega
    refine rd_251 (a := 0) q (by omega) fun s q => ?_
    rw [cS_228, cF_228_0]
    refine RO_n0 ht q hN fun s1 q1 g1 x1 f1 => ?_
    have z := rZ_of q1 g1 x1 f1 (by omega) hr2
    have hv : s1.1 4134 = V.length := q1.2.2.2.2.2.2.1
    repeat' first
      | exact Z_ret ‹_›
      | exact Z_at ‹_› (by omega)
      | refine Z_pu ‹_› (by omega) fun _ _ => ?_
      | refine Z_la ‹_› (by omega) fun _ _ => ?_
      | refine Z_tk ‹_› fun _ _ => ?_
      | refine Z_bd ‹_› fun _ _ => ?_
      | refine Z_l ht ‹_› fun _ _ => ?_
      | refine Z_lf ‹_› (by omega) fun _ _ => ?_
      | refine Z_no ‹_› (by omega) fun _ _ => ?_
      | refine Z_209 ‹_› (by omega) fun _ _ => ?_
      | refine Z_215 ‹_› (by omega) fun _ _ => ?_
      | refine Z_218 ‹_› (by omega) fun _ _ => ?_
      | refine Z_re1 ‹_› (by omega) (by omega) fun _ _ => ?_
      | refine Z_re1p ‹_› (by omega) (by omega) fun _ _ => ?_
      | refine Z_re ‹_› (by omega) (by omega) (by omega) fun _ _ => ?_
      | rw [cs_235, cm_bi_i]
      | (refine RO_bi (Z_en ht ‹_›) fun _ _ yy => ?_; rw [if_pos yy.1]; exact RO_ret yy.2)
      | refine Z_204 ht ‹_› (by omega) fun _ _ => ?_
      | exact RO_ret ‹gB _›
      | refine RO_ite (fun _ => ?_) (fun _ => ?_))
theorem dm_26 (ht : tOk tx n) {a b c x : Int} {K : List rTs} {m : Nat} {S : List rSg} : Dm tx n ((26, a, b, c, x) :: K) m S := fun e d rn pu lf V h0 h1 hN hV hr hK s q => rL_step q (by
    rw [List.length_cons] at hK
    have hr0 := red_0 K
    have hr2 : rn ≤ 486 := by unfold red at hr; split at hr <;> omega
    refine rd_26 q (by omega) fun s q => ?_
    rw [cS_229, cF_229_0]
    refine RO_n0 ht q hN fun s1 q1 g1 x1 f1 => ?_
    have z := rZ_of q1 g1 x1 f1 (by omega) hr2
    have hv : s1.1 4134 = V.length := q1.2.2.2.2.2.2.1
    repeat' first
      | exact Z_ret ‹_›
      | exact Z_at ‹_› (by omega)
      | refine Z_pu ‹_› (by omega) fun _ _ => ?_
      | refine Z_la ‹_› (by omega) fun _ _ => ?_
      | refine Z_tk ‹_› fun _ _ => ?_
      | refine Z_bd ‹_› fun _ _ => ?_
      | refine Z_l ht ‹_› fun _ _ => ?_
      | refine Z_lf ‹_› (by omega) fun _ _ => ?_
      | refine Z_no ‹_› (by omega) fun _ _ => ?_
      | refine Z_209 ‹_› (by omega) fun _ _ => ?_
      | refine Z_215 ‹_› (by omega) fun _ _ => ?_
      | refine Z_218 ‹_› (by omega) fun _ _ => ?_
      | refine Z_re1 ‹_› (by omega) (by omega) fun _ _ => ?_
      | refine Z_re1p ‹_› (by omega) (by omega) fun _ _ => ?_
      | refine Z_re ‹_› (by omega) (by omega) (by omega) fun _ _ => ?_
      | rw [cs_235, cm_bi_i]
      | (refine RO_bi (Z_en ht ‹_›) fun _ _ yy => ?_; rw [if_pos yy.1]; exact RO_ret yy.2)
      | refine Z_204 ht ‹_› (by omega) fun _ _ => ?_
      | exact RO_ret ‹gB _›
      | refine RO_ite (fun _ => ?_) (fun _ => ?_))
theorem dm_27 (ht : tOk tx n) {a b c x : Int} {K : List rTs} {m : Nat} {S : List rSg} : Dm tx n ((27, a, b, c, x) :: K) m S := fun e d rn pu lf V h0 h1 hN hV hr hK s q => rL_step q (by
    rw [List.length_cons] at hK
    have hr0 := red_0 K
    have hr2 : rn ≤ 486 := by unfold red at hr; split at hr <;> omega
    refine rd_27 q (by omega) fun s q => ?_
    rw [cS_230, cF_230_0]
    refine RO_n0 ht q hN fun s1 q1 g1 x1 f1 => ?_
    have z := rZ_of q1 g1 x1 f1 (by omega) hr2
    have hv : s1.1 4134 = V.length := q1.2.2.2.2.2.2.1
    repeat' first
      | exact Z_ret ‹_›
      | exact Z_at ‹_› (by omega)
      | refine Z_pu ‹_› (by omega) fun _ _ => ?_
      | refine Z_la ‹_› (by omega) fun _ _ => ?_
      | refine Z_tk ‹_› fun _ _ => ?_
      | refine Z_bd ‹_› fun _ _ => ?_
      | refine Z_l ht ‹_› fun _ _ => ?_
      | refine Z_lf ‹_› (by omega) fun _ _ => ?_
      | refine Z_no ‹_› (by omega) fun _ _ => ?_
      | refine Z_209 ‹_› (by omega) fun _ _ => ?_
      | refine Z_215 ‹_› (by omega) fun _ _ => ?_
      | refine Z_218 ‹_› (by omega) fun _ _ => ?_
      | refine Z_re1 ‹_› (by omega) (by omega) fun _ _ => ?_
      | refine Z_re1p ‹_› (by omega) (by omega) fun _ _ => ?_
      | refine Z_re ‹_› (by omega) (by omega) (by omega) fun _ _ => ?_
      | rw [cs_235, cm_bi_i]
      | (refine RO_bi (Z_en ht ‹_›) fun _ _ yy => ?_; rw [if_pos yy.1]; exact RO_ret yy.2)
      | refine Z_204 ht ‹_› (by omega) fun _ _ => ?_
      | exact RO_ret ‹gB _›
      | refine RO_ite (fun _ => ?_) (fun _ => ?_))
theorem dm_29 (ht : tOk tx n) {a b c x : Int} {K : List rTs} {m : Nat} {S : List rSg} : Dm tx n ((29, a, b, c, x) :: K) m S := fun e d rn pu lf V h0 h1 hN hV hr hK s q => rL_step q (by
    rw [List.length_cons] at hK
    have hr0 := red_0 K
    have hr2 : rn ≤ 486 := by unfold red at hr; split at hr <;> omega
    refine rd_29 q (by omega) fun s q => ?_
    rw [cS_225, cF_225_0]
    refine RO_n0 ht q hN fun s1 q1 g1 x1 f1 => ?_
    have z := rZ_of q1 g1 x1 f1 (by omega) hr2
    have hv : s1.1 4134 = V.length := q1.2.2.2.2.2.2.1
    repeat' first
      | exact Z_ret ‹_›
      | exact Z_at ‹_› (by omega)
      | refine Z_pu ‹_› (by omega) fun _ _ => ?_
      | refine Z_la ‹_› (by omega) fun _ _ => ?_
      | refine Z_tk ‹_› fun _ _ => ?_
      | refine Z_bd ‹_› fun _ _ => ?_
      | refine Z_l ht ‹_› fun _ _ => ?_
      | refine Z_lf ‹_› (by omega) fun _ _ => ?_
      | refine Z_no ‹_› (by omega) fun _ _ => ?_
      | refine Z_209 ‹_› (by omega) fun _ _ => ?_
      | refine Z_215 ‹_› (by omega) fun _ _ => ?_
      | refine Z_218 ‹_› (by omega) fun _ _ => ?_
      | refine Z_re1 ‹_› (by omega) (by omega) fun _ _ => ?_
      | refine Z_re1p ‹_› (by omega) (by omega) fun _ _ => ?_
      | refine Z_re ‹_› (by omega) (by omega) (by omega) fun _ _ => ?_
      | rw [cs_235, cm_bi_i]
      | (refine RO_bi (Z_en ht ‹_›) fun _ _ yy => ?_; rw [if_pos yy.1]; exact RO_ret yy.2)
      | refine Z_204 ht ‹_› (by omega) fun _ _ => ?_
      | exact RO_ret ‹gB _›
      | refine RO_ite (fun _ => ?_) (fun _ => ?_))
theorem dm_30 (ht : tOk tx n) {a b c x : Int} {K : List rTs} {m : Nat} {S : List rSg} : Dm tx n ((30, a, b, c, x) :: K) m S := fun e d rn pu lf V h0 h1 hN hV hr hK s q => rL_step q (by
    rw [List.length_cons] at hK
    have hr0 := red_0 K
    have hr2 : rn ≤ 486 := by unfold red at hr; split at hr <;> omega
    refine rd_30 q (by omega) fun s q => ?_
    rw [cS_226, cF_226_0]
    refine RO_n0 ht q hN fun s1 q1 g1 x1 f1 => ?_
    have z := rZ_of q1 g1 x1 f1 (by omega) hr2
    have hv : s1.1 4134 = V.length := q1.2.2.2.2.2.2.1
    repeat' first
      | exact Z_ret ‹_›
      | exact Z_at ‹_› (by omega)
      | refine Z_pu ‹_› (by omega) fun _ _ => ?_
      | refine Z_la ‹_› (by omega) fun _ _ => ?_
      | refine Z_tk ‹_› fun _ _ => ?_
      | refine Z_bd ‹_› fun _ _ => ?_
      | refine Z_l ht ‹_› fun _ _ => ?_
      | refine Z_lf ‹_› (by omega) fun _ _ => ?_
      | refine Z_no ‹_› (by omega) fun _ _ => ?_
      | refine Z_209 ‹_› (by omega) fun _ _ => ?_
      | refine Z_215 ‹_› (by omega) fun _ _ => ?_
      | refine Z_218 ‹_› (by omega) fun _ _ => ?_
      | refine Z_re1 ‹_› (by omega) (by omega) fun _ _ => ?_
      | refine Z_re1p ‹_› (by omega) (by omega) fun _ _ => ?_
      | refine Z_re ‹_› (by omega) (by omega) (by omega) fun _ _ => ?_
      | rw [cs_235, cm_bi_i]
      | (refine RO_bi (Z_en ht ‹_›) fun _ _ yy => ?_; rw [if_pos yy.1]; exact RO_ret yy.2)
      | refine Z_204 ht ‹_› (by omega) fun _ _ => ?_
      | exact RO_ret ‹gB _›
      | refine RO_ite (fun _ => ?_) (fun _ => ?_))
theorem dm_31 (ht : tOk tx n) {a b c x : Int} {K : List rTs} {m : Nat} {S : List rSg} : Dm tx n ((31, a, b, c, x) :: K) m S := fun e d rn pu lf V h0 h1 hN hV hr hK s q => rL_step q (by
    rw [List.length_cons] at hK
    have hr0 := red_0 K
    have hr2 : rn ≤ 486 := by unfold red at hr; split at hr <;> omega
    refine rd_31 q (by omega) fun s q => ?_
    rw [cS_227, cF_227_0]
    refine RO_n0 ht q hN fun s1 q1 g1 x1 f1 => ?_
    have z := rZ_of q1 g1 x1 f1 (by omega) hr2
    have hv : s1.1 4134 = V.length := q1.2.2.2.2.2.2.1
    repeat' first
      | exact Z_ret ‹_›
      | exact Z_at ‹_› (by omega)
      | refine Z_pu ‹_› (by omega) fun _ _ => ?_
      | refine Z_la ‹_› (by omega) fun _ _ => ?_
      | refine Z_tk ‹_› fun _ _ => ?_
      | refine Z_bd ‹_› fun _ _ => ?_
      | refine Z_l ht ‹_› fun _ _ => ?_
      | refine Z_lf ‹_› (by omega) fun _ _ => ?_
      | refine Z_no ‹_› (by omega) fun _ _ => ?_
      | refine Z_209 ‹_› (by omega) fun _ _ => ?_
      | refine Z_215 ‹_› (by omega) fun _ _ => ?_
      | refine Z_218 ‹_› (by omega) fun _ _ => ?_
      | refine Z_re1 ‹_› (by omega) (by omega) fun _ _ => ?_
      | refine Z_re1p ‹_› (by omega) (by omega) fun _ _ => ?_
      | refine Z_re ‹_› (by omega) (by omega) (by omega) fun _ _ => ?_
      | rw [cs_235, cm_bi_i]
      | (refine RO_bi (Z_en ht ‹_›) fun _ _ yy => ?_; rw [if_pos yy.1]; exact RO_ret yy.2)
      | refine Z_204 ht ‹_› (by omega) fun _ _ => ?_
      | exact RO_ret ‹gB _›
      | refine RO_ite (fun _ => ?_) (fun _ => ?_))
theorem dm_32 (ht : tOk tx n) {a b c x : Int} {K : List rTs} {m : Nat} {S : List rSg} : Dm tx n ((32, a, b, c, x) :: K) m S := fun e d rn pu lf V h0 h1 hN hV hr hK s q => rL_step q (by
    rw [List.length_cons] at hK
    have hr0 := red_0 K
    have hr2 : rn ≤ 486 := by unfold red at hr; split at hr <;> omega
    refine rd_32 q (by omega) fun s q => ?_
    rw [cS_212, cF_212_0]
    refine RO_n0 ht q hN fun s1 q1 g1 x1 f1 => ?_
    have z := rZ_of q1 g1 x1 f1 (by omega) hr2
    have hv : s1.1 4134 = V.length := q1.2.2.2.2.2.2.1
    repeat' first
      | exact Z_ret ‹_›
      | exact Z_at ‹_› (by omega)
      | refine Z_pu ‹_› (by omega) fun _ _ => ?_
      | refine Z_la ‹_› (by omega) fun _ _ => ?_
      | refine Z_tk ‹_› fun _ _ => ?_
      | refine Z_bd ‹_› fun _ _ => ?_
      | refine Z_l ht ‹_› fun _ _ => ?_
      | refine Z_lf ‹_› (by omega) fun _ _ => ?_
      | refine Z_no ‹_› (by omega) fun _ _ => ?_
      | refine Z_209 ‹_› (by omega) fun _ _ => ?_
      | refine Z_215 ‹_› (by omega) fun _ _ => ?_
      | refine Z_218 ‹_› (by omega) fun _ _ => ?_
      | refine Z_re1 ‹_› (by omega) (by omega) fun _ _ => ?_
      | refine Z_re1p ‹_› (by omega) (by omega) fun _ _ => ?_
      | refine Z_re ‹_› (by omega) (by omega) (by omega) fun _ _ => ?_
      | rw [cs_235, cm_bi_i]
      | (refine RO_bi (Z_en ht ‹_›) fun _ _ yy => ?_; rw [if_pos yy.1]; exact RO_ret yy.2)
      | refine Z_204 ht ‹_› (by omega) fun _ _ => ?_
      | exact RO_ret ‹gB _›
      | refine RO_ite (fun _ => ?_) (fun _ => ?_))
theorem dm_33 (ht : tOk tx n) {a b c x : Int} {K : List rTs} {m : Nat} {S : List rSg} : Dm tx n ((33, a, b, c, x) :: K) m S := fun e d rn pu lf V h0 h1 hN hV hr hK s q => rL_step q (by
    rw [List.length_cons] at hK
    have hr0 := red_0 K
    have hr2 : rn ≤ 486 := by unfold red at hr; split at hr <;> omega
    refine rd_33 q (by omega) fun s q => ?_
    rw [cS_213, cF_213_0]
    refine RO_n1 ht q (lxG_none ht h0 h1 hN) fun s1 q1 g1 x1 f1 => ?_
    have z := rZ_of q1 g1 x1 f1 (by omega) hr2
    have hv : s1.1 4134 = V.length := q1.2.2.2.2.2.2.1
    repeat' first
      | exact Z_ret ‹_›
      | exact Z_at ‹_› (by omega)
      | refine Z_pu ‹_› (by omega) fun _ _ => ?_
      | refine Z_la ‹_› (by omega) fun _ _ => ?_
      | refine Z_tk ‹_› fun _ _ => ?_
      | refine Z_bd ‹_› fun _ _ => ?_
      | refine Z_l ht ‹_› fun _ _ => ?_
      | refine Z_lf ‹_› (by omega) fun _ _ => ?_
      | refine Z_no ‹_› (by omega) fun _ _ => ?_
      | refine Z_209 ‹_› (by omega) fun _ _ => ?_
      | refine Z_215 ‹_› (by omega) fun _ _ => ?_
      | refine Z_218 ‹_› (by omega) fun _ _ => ?_
      | refine Z_re1 ‹_› (by omega) (by omega) fun _ _ => ?_
      | refine Z_re1p ‹_› (by omega) (by omega) fun _ _ => ?_
      | refine Z_re ‹_› (by omega) (by omega) (by omega) fun _ _ => ?_
      | rw [cs_235, cm_bi_i]
      | (refine RO_bi (Z_en ht ‹_›) fun _ _ yy => ?_; rw [if_pos yy.1]; exact RO_ret yy.2)
      | refine Z_204 ht ‹_› (by omega) fun _ _ => ?_
      | exact RO_ret ‹gB _›
      | refine RO_ite (fun _ => ?_) (fun _ => ?_))
theorem dm_36 (ht : tOk tx n) {a b c x : Int} {K : List rTs} {m : Nat} {S : List rSg} : Dm tx n ((36, a, b, c, x) :: K) m S := fun e d rn pu lf V h0 h1 hN hV hr hK s q => rL_step q (by
    rw [List.length_cons] at hK
    have hr0 := red_0 K
    have hr2 : rn ≤ 486 := by unfold red at hr; split at hr <;> omega
    refine rd_36 q (by omega) fun s q => ?_
    rw [cS_219, cF_219_0]
    refine RO_n1 ht q (lxG_none ht h0 h1 hN) fun s1 q1 g1 x1 f1 => ?_
    have z := rZ_of q1 g1 x1 f1 (by omega) hr2
    have hv : s1.1 4134 = V.length := q1.2.2.2.2.2.2.1
    repeat' first
      | exact Z_ret ‹_›
      | exact Z_at ‹_› (by omega)
      | refine Z_pu ‹_› (by omega) fun _ _ => ?_
      | refine Z_la ‹_› (by omega) fun _ _ => ?_
      | refine Z_tk ‹_› fun _ _ => ?_
      | refine Z_bd ‹_› fun _ _ => ?_
      | refine Z_l ht ‹_› fun _ _ => ?_
      | refine Z_lf ‹_› (by omega) fun _ _ => ?_
      | refine Z_no ‹_› (by omega) fun _ _ => ?_
      | refine Z_209 ‹_› (by omega) fun _ _ => ?_
      | refine Z_215 ‹_› (by omega) fun _ _ => ?_
      | refine Z_218 ‹_› (by omega) fun _ _ => ?_
      | refine Z_re1 ‹_› (by omega) (by omega) fun _ _ => ?_
      | refine Z_re1p ‹_› (by omega) (by omega) fun _ _ => ?_
      | refine Z_re ‹_› (by omega) (by omega) (by omega) fun _ _ => ?_
      | rw [cs_235, cm_bi_i]
      | (refine RO_bi (Z_en ht ‹_›) fun _ _ yy => ?_; rw [if_pos yy.1]; exact RO_ret yy.2)
      | refine Z_204 ht ‹_› (by omega) fun _ _ => ?_
      | exact RO_ret ‹gB _›
      | refine RO_ite (fun _ => ?_) (fun _ => ?_))
theorem dm_37 (ht : tOk tx n) {a b c x : Int} {K : List rTs} {m : Nat} {S : List rSg} : Dm tx n ((37, a, b, c, x) :: K) m S := fun e d rn pu lf V h0 h1 hN hV hr hK s q => rL_step q (by
    rw [List.length_cons] at hK
    have hr0 := red_0 K
    have hr2 : rn ≤ 486 := by unfold red at hr; split at hr <;> omega
    refine rd_37 q (by omega) fun s q => ?_
    rw [cS_220, cF_220_0]
    refine RO_n0 ht q hN fun s1 q1 g1 x1 f1 => ?_
    have z := rZ_of q1 g1 x1 f1 (by omega) hr2
    have hv : s1.1 4134 = V.length := q1.2.2.2.2.2.2.1
    repeat' first
      | exact Z_ret ‹_›
      | exact Z_at ‹_› (by omega)
      | refine Z_pu ‹_› (by omega) fun _ _ => ?_
      | refine Z_la ‹_› (by omega) fun _ _ => ?_
      | refine Z_tk ‹_› fun _ _ => ?_
      | refine Z_bd ‹_› fun _ _ => ?_
      | refine Z_l ht ‹_› fun _ _ => ?_
      | refine Z_lf ‹_› (by omega) fun _ _ => ?_
      | refine Z_no ‹_› (by omega) fun _ _ => ?_
      | refine Z_209 ‹_› (by omega) fun _ _ => ?_
      | refine Z_215 ‹_› (by omega) fun _ _ => ?_
      | refine Z_218 ‹_› (by omega) fun _ _ => ?_
      | refine Z_re1 ‹_› (by omega) (by omega) fun _ _ => ?_
      | refine Z_re1p ‹_› (by omega) (by omega) fun _ _ => ?_
      | refine Z_re ‹_› (by omega) (by omega) (by omega) fun _ _ => ?_
      | rw [cs_235, cm_bi_i]
      | (refine RO_bi (Z_en ht ‹_›) fun _ _ yy => ?_; rw [if_pos yy.1]; exact RO_ret yy.2)
      | refine Z_204 ht ‹_› (by omega) fun _ _ => ?_
      | exact RO_ret ‹gB _›
      | refine RO_ite (fun _ => ?_) (fun _ => ?_))
theorem dm_38 (ht : tOk tx n) {a b c x : Int} {K : List rTs} {m : Nat} {S : List rSg} : Dm tx n ((38, a, b, c, x) :: K) m S := fun e d rn pu lf V h0 h1 hN hV hr hK s q => rL_step q (by
    rw [List.length_cons] at hK
    have hr0 := red_0 K
    have hr2 : rn ≤ 486 := by unfold red at hr; split at hr <;> omega
    refine rd_38 q (by omega) fun s q => ?_
    rw [cS_221, cF_221_0]
    refine RO_n0 ht q hN fun s1 q1 g1 x1 f1 => ?_
    have z := rZ_of q1 g1 x1 f1 (by omega) hr2
    have hv : s1.1 4134 = V.length := q1.2.2.2.2.2.2.1
    repeat' first
      | exact Z_ret ‹_›
      | exact Z_at ‹_› (by omega)
      | refine Z_pu ‹_› (by omega) fun _ _ => ?_
      | refine Z_la ‹_› (by omega) fun _ _ => ?_
      | refine Z_tk ‹_› fun _ _ => ?_
      | refine Z_bd ‹_› fun _ _ => ?_
      | refine Z_l ht ‹_› fun _ _ => ?_
      | refine Z_lf ‹_› (by omega) fun _ _ => ?_
      | refine Z_no ‹_› (by omega) fun _ _ => ?_
      | refine Z_209 ‹_› (by omega) fun _ _ => ?_
      | refine Z_215 ‹_› (by omega) fun _ _ => ?_
      | refine Z_218 ‹_› (by omega) fun _ _ => ?_
      | refine Z_re1 ‹_› (by omega) (by omega) fun _ _ => ?_
      | refine Z_re1p ‹_› (by omega) (by omega) fun _ _ => ?_
      | refine Z_re ‹_› (by omega) (by omega) (by omega) fun _ _ => ?_
      | rw [cs_235, cm_bi_i]
      | (refine RO_bi (Z_en ht ‹_›) fun _ _ yy => ?_; rw [if_pos yy.1]; exact RO_ret yy.2)
      | refine Z_204 ht ‹_› (by omega) fun _ _ => ?_
      | exact RO_ret ‹gB _›
      | refine RO_ite (fun _ => ?_) (fun _ => ?_))
theorem dm_39 (ht : tOk tx n) {a b c x : Int} {K : List rTs} {m : Nat} {S : List rSg} : Dm tx n ((39, a, b, c, x) :: K) m S := fun e d rn pu lf V h0 h1 hN hV hr hK s q => rL_step q (by
    rw [List.length_cons] at hK
    have hr0 := red_0 K
    have hr2 : rn ≤ 486 := by unfold red at hr; split at hr <;> omega
    refine rd_39 q (by omega) fun s q => ?_
    rw [cS_222, cF_222_0]
    refine RO_n0 ht q hN fun s1 q1 g1 x1 f1 => ?_
    have z := rZ_of q1 g1 x1 f1 (by omega) hr2
    have hv : s1.1 4134 = V.length := q1.2.2.2.2.2.2.1
    repeat' first
      | exact Z_ret ‹_›
      | exact Z_at ‹_› (by omega)
      | refine Z_pu ‹_› (by omega) fun _ _ => ?_
      | refine Z_la ‹_› (by omega) fun _ _ => ?_
      | refine Z_tk ‹_› fun _ _ => ?_
      | refine Z_bd ‹_› fun _ _ => ?_
      | refine Z_l ht ‹_› fun _ _ => ?_
      | refine Z_lf ‹_› (by omega) fun _ _ => ?_
      | refine Z_no ‹_› (by omega) fun _ _ => ?_
      | refine Z_209 ‹_› (by omega) fun _ _ => ?_
      | refine Z_215 ‹_› (by omega) fun _ _ => ?_
      | refine Z_218 ‹_› (by omega) fun _ _ => ?_
      | refine Z_re1 ‹_› (by omega) (by omega) fun _ _ => ?_
      | refine Z_re1p ‹_› (by omega) (by omega) fun _ _ => ?_
      | refine Z_re ‹_› (by omega) (by omega) (by omega) fun _ _ => ?_
      | rw [cs_235, cm_bi_i]
      | (refine RO_bi (Z_en ht ‹_›) fun _ _ yy => ?_; rw [if_pos yy.1]; exact RO_ret yy.2)
      | refine Z_204 ht ‹_› (by omega) fun _ _ => ?_
      | exact RO_ret ‹gB _›
      | refine RO_ite (fun _ => ?_) (fun _ => ?_))
theorem dm_400 (ht : tOk tx n) {a b x : Int} {K : List rTs} {m : Nat} {S : List rSg} (hb : 0 ≤ b ∧ b ≤ m) : Dm tx n ((40, a, b, 0, x) :: K) m S := fun e d rn pu lf V h0 h1 hN hV hr hK s q => rL_step q (by
    rw [List.length_cons] at hK
    have hr0 := red_0 K
    have hr2 : rn ≤ 486 := by unfold red at hr; split at hr <;> omega
    refine rd_400 (c := 0) q (by omega) fun s q => ?_
    rw [cS_224, cF_224_0]
    refine RO_n0 ht q hN fun s1 q1 g1 x1 f1 => ?_
    have z := rZ_of q1 g1 x1 f1 (by omega) hr2
    have hv : s1.1 4134 = V.length := q1.2.2.2.2.2.2.1
    repeat' first
      | exact Z_ret ‹_›
      | exact Z_at ‹_› (by omega)
      | refine Z_pu ‹_› (by omega) fun _ _ => ?_
      | refine Z_la ‹_› (by omega) fun _ _ => ?_
      | refine Z_tk ‹_› fun _ _ => ?_
      | refine Z_bd ‹_› fun _ _ => ?_
      | refine Z_l ht ‹_› fun _ _ => ?_
      | refine Z_lf ‹_› (by omega) fun _ _ => ?_
      | refine Z_no ‹_› (by omega) fun _ _ => ?_
      | refine Z_209 ‹_› (by omega) fun _ _ => ?_
      | refine Z_215 ‹_› (by omega) fun _ _ => ?_
      | refine Z_218 ‹_› (by omega) fun _ _ => ?_
      | refine Z_re1 ‹_› (by omega) (by omega) fun _ _ => ?_
      | refine Z_re1p ‹_› (by omega) (by omega) fun _ _ => ?_
      | refine Z_re ‹_› (by omega) (by omega) (by omega) fun _ _ => ?_
      | rw [cs_235, cm_bi_i]
      | (refine RO_bi (Z_en ht ‹_›) fun _ _ yy => ?_; rw [if_pos yy.1]; exact RO_ret yy.2)
      | refine Z_204 ht ‹_› (by omega) fun _ _ => ?_
      | exact RO_ret ‹gB _›
      | refine RO_ite (fun _ => ?_) (fun _ => ?_))
theorem dm_401 (ht : tOk tx n) {a b x : Int} {K : List rTs} {m : Nat} {S : List rSg} (hb : 0 ≤ b ∧ b ≤ m) : Dm tx n ((40, a, b, 1, x) :: K) m S := fun e d rn pu lf V h0 h1 hN hV hr hK s q => rL_step q (by
    rw [List.length_cons] at hK
    have hr0 := red_0 K
    have hr2 : rn ≤ 486 := by unfold red at hr; split at hr <;> omega
    refine rd_401 (c := 0) q (by omega) fun s q => ?_
    rw [cS_224, cF_224_0]
    refine RO_n0 ht q hN fun s1 q1 g1 x1 f1 => ?_
    have z := rZ_of q1 g1 x1 f1 (by omega) hr2
    have hv : s1.1 4134 = V.length := q1.2.2.2.2.2.2.1
    repeat' first
      | exact Z_ret ‹_›
      | exact Z_at ‹_› (by omega)
      | refine Z_pu ‹_› (by omega) fun _ _ => ?_
      | refine Z_la ‹_› (by omega) fun _ _ => ?_
      | refine Z_tk ‹_› fun _ _ => ?_
      | refine Z_bd ‹_› fun _ _ => ?_
      | refine Z_l ht ‹_› fun _ _ => ?_
      | refine Z_lf ‹_› (by omega) fun _ _ => ?_
      | refine Z_no ‹_› (by omega) fun _ _ => ?_
      | refine Z_209 ‹_› (by omega) fun _ _ => ?_
      | refine Z_215 ‹_› (by omega) fun _ _ => ?_
      | refine Z_218 ‹_› (by omega) fun _ _ => ?_
      | refine Z_re1 ‹_› (by omega) (by omega) fun _ _ => ?_
      | refine Z_re1p ‹_› (by omega) (by omega) fun _ _ => ?_
      | refine Z_re ‹_› (by omega) (by omega) (by omega) fun _ _ => ?_
      | rw [cs_235, cm_bi_i]
      | (refine RO_bi (Z_en ht ‹_›) fun _ _ yy => ?_; rw [if_pos yy.1]; exact RO_ret yy.2)
      | refine Z_204 ht ‹_› (by omega) fun _ _ => ?_
      | exact RO_ret ‹gB _›
      | refine RO_ite (fun _ => ?_) (fun _ => ?_))
theorem dm_41 (ht : tOk tx n) {a b c x : Int} {K : List rTs} {m : Nat} {S : List rSg} : Dm tx n ((41, a, b, c, x) :: K) m S := fun e d rn pu lf V h0 h1 hN hV hr hK s q => rL_step q (by
    rw [List.length_cons] at hK
    have hr0 := red_0 K
    have hr2 : rn ≤ 486 := by unfold red at hr; split at hr <;> omega
    refine rd_41 q (by omega) fun s q => ?_
    rw [cS_223, cF_223_0]
    refine RO_n0 ht q hN fun s1 q1 g1 x1 f1 => ?_
    have z := rZ_of q1 g1 x1 f1 (by omega) hr2
    have hv : s1.1 4134 = V.length := q1.2.2.2.2.2.2.1
    repeat' first
      | exact Z_ret ‹_›
      | exact Z_at ‹_› (by omega)
      | refine Z_pu ‹_› (by omega) fun _ _ => ?_
      | refine Z_la ‹_› (by omega) fun _ _ => ?_
      | refine Z_tk ‹_› fun _ _ => ?_
      | refine Z_bd ‹_› fun _ _ => ?_
      | refine Z_l ht ‹_› fun _ _ => ?_
      | refine Z_lf ‹_› (by omega) fun _ _ => ?_
      | refine Z_no ‹_› (by omega) fun _ _ => ?_
      | refine Z_209 ‹_› (by omega) fun _ _ => ?_
      | refine Z_215 ‹_› (by omega) fun _ _ => ?_
      | refine Z_218 ‹_› (by omega) fun _ _ => ?_
      | refine Z_re1 ‹_› (by omega) (by omega) fun _ _ => ?_
      | refine Z_re1p ‹_› (by omega) (by omega) fun _ _ => ?_
      | refine Z_re ‹_› (by omega) (by omega) (by omega) fun _ _ => ?_
      | rw [cs_235, cm_bi_i]
      | (refine RO_bi (Z_en ht ‹_›) fun _ _ yy => ?_; rw [if_pos yy.1]; exact RO_ret yy.2)
      | refine Z_204 ht ‹_› (by omega) fun _ _ => ?_
      | exact RO_ret ‹gB _›
      | refine RO_ite (fun _ => ?_) (fun _ => ?_))
end TX35
