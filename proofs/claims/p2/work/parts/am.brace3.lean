/-! ===== } at the text's own level: element ===== -/
section TX78
variable {tx : Int → Int} {n : Int}
theorem br_46 (ht : tOk tx n) {s : cm_S} {e : Int} {g : Bool} {t : tTk} {cn sc : Int} {W : List (Int × Int)} {c0 : rC} (h : cSt tx n s e g t cn sc W) (hT0 : lxG tx n true e = some t) (h0 : 0 ≤ cn) (h9 : cn < 512) (hc : t.2.1 = 125) (bd : rBd tx n c0) (d : Int) : OI tx n s cn (cm_sem 46 [.inr (.inl 14), .inl d] s) c0 fun _ _ _ => False := by
  have e0 := h.e0
  have tn := tk_num (lxG_ok ht e0.1 e0.2 h.lx).1
  have k6 : t.1 = 6 := by omega
  clear tn
  unfold OI
  rw [cS_46, cF_46_0, h.cd, if_neg (by omega)]
  refine OX_bi (lo1 := cn) (Q1 := fun _ _ _ => False) ?_ (Int.le_refl _) fun _ _ _ _ _ q => q.elim
  unfold OI
  rw [cS_47, cF_47_0]
  refine X_within ht h (fun _ => bd) (fun _ _ _ => bd) (fun _ _ _ _ => bd) fun t' s' hT hz hd e1 b1 st1 => ?_
  rw [hT0] at hT
  cases hT
  refine OX_bi (lo1 := cn) (Q1 := fun _ _ _ => False) ?_ (Int.le_refl _) fun _ _ _ _ _ q => q.elim
  unfold OI
  rw [cS_53, cF_53_0, st1.cd, hc, if_neg (by decide), if_neg (by decide), if_neg (by decide), if_neg (by decide), if_neg (by decide), if_neg (by decide), if_neg (by decide), if_neg (by decide), if_neg (by decide), if_neg (by decide), if_neg (by decide), if_neg (by decide), if_neg (by decide), if_neg (by decide)]
  refine OX_bi (lo1 := cn) (Q1 := fun _ _ _ => False) ?_ (Int.le_refl _) fun _ _ _ _ _ q => q.elim
  unfold OI
  rw [cS_106, cF_106_0, st1.kd, if_neg (by omega)]
  refine X_here st1 h0 h9 (Int.le_refl _) fun s2 k2 b2 n2' st2 => ?_
  exact OX_bi (br_76 ht st2 hc bd _ _) (by omega) fun _ _ _ _ _ q => q.elim
end TX78
