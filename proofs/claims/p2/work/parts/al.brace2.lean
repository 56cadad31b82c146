/-! ===== } at the text's own level: the class ===== -/
section TX77
variable {tx : Int → Int} {n : Int}
theorem br_76 (ht : tOk tx n) {s : cm_S} {e : Int} {t : tTk} {cn sc : Int} {W : List (Int × Int)} {c0 : rC} (h : cSt tx n s e true t cn sc W) (hc : t.2.1 = 125) (bd : rBd tx n c0) (d i : Int) : OI tx n s cn (cm_sem 76 [.inr (.inl 14), .inl d, .inl i] s) c0 fun _ _ _ => False := by
  have e0 := h.e0
  have tn := tk_num (lxG_ok ht e0.1 e0.2 h.lx).1
  have k6 : t.1 = 6 := by omega
  clear tn
  unfold OI
  rw [cS_76, cF_76_0]
  refine OX_bi (lo1 := cn) (Q1 := fun _ _ _ => False) ?_ (Int.le_refl _) fun _ _ _ _ _ q => q.elim
  unfold OI
  rw [cS_65, cF_65_0]
  refine X_within ht h (fun _ => bd) (fun _ _ _ => bd) (fun _ _ _ _ => bd) fun t' s' hT hz hd e1 b1 st1 => ?_
  rw [h.lx] at hT
  cases hT
  refine OX_bi (lo1 := cn) (Q1 := fun _ _ _ => False) ?_ (Int.le_refl _) fun _ _ _ _ _ q => q.elim
  unfold OI
  rw [cS_66, cF_66_0]
  refine OX_bi (lo1 := cn) (Q1 := fun _ _ _ => False) ?_ (Int.le_refl _) fun _ _ _ _ _ q => q.elim
  unfold OI
  rw [cS_67, cF_67_0]
  refine OX_bi (lo1 := cn) (Q1 := fun _ _ _ => False) ?_ (Int.le_refl _) fun _ _ _ _ _ q => q.elim
  unfold OI
  rw [cS_68, cF_68_0]
  refine X_due ht st1 (fun _ => bd) fun t' s2 hT e2 b2 st2 => ?_
  rw [h.lx] at hT
  cases hT
  rw [st2.cd, hc, cS_69, cF_69_0]
  simp only [show ¬ ((125 : Int) = 6) by decide, show ¬ ((125 : Int) = 24) by decide, show ¬ ((125 : Int) = 26) by decide, show ¬ ((125 : Int) = 33) by decide, show ¬ ((125 : Int) = 43) by decide, show ¬ ((125 : Int) = 45) by decide, show ¬ ((125 : Int) = 126) by decide, show ¬ ((125 : Int) = 11051) by decide, show ¬ ((125 : Int) = 11565) by decide, if_false, cm_bi_i, if_true]
  refine OX_bi (lo1 := cn) (Q1 := fun _ _ _ => False) ?_ (Int.le_refl _) fun _ _ _ _ _ q => q.elim
  unfold OI
  rw [cS_70, cF_70_0]
  refine OX_bi (lo1 := cn) (Q1 := fun _ _ _ => False) ?_ (Int.le_refl _) fun _ _ _ _ _ q => q.elim
  unfold OI
  rw [cS_71, cF_71_0, st2.cd, if_neg (by omega)]
  refine OX_bi (lo1 := cn) (Q1 := fun _ _ _ => False) ?_ (Int.le_refl _) fun _ _ _ _ _ q => q.elim
  unfold OI
  rw [cS_78, cF_78_0, st2.kd, if_neg (by omega), if_neg (by omega), if_neg (by omega), if_neg (by omega)]
  refine OX_bi (lo1 := cn) (Q1 := fun _ _ _ => False) ?_ (Int.le_refl _) fun _ _ _ _ _ q => q.elim
  unfold OI
  rw [cS_79, cF_79_0, st2.cd, hc]
  repeat' first
    | exact X_refuse bd
    | rw [if_neg (by decide)]
end TX77
