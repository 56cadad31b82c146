/-! ===== statements: which one ===== -/
section TX72
variable {tx : Int → Int} {n : Int}
theorem U_530 (ht : tOk tx n) {m : Nat} (hx0 : S_x tx n m) (hx : S_x tx n (m + 1)) (hSt : S_st tx n m) {s : cm_S} {e : Int} {t : tTk} {cn sc : Int} {W : List (Int × Int)} {d rn : Int} {lf : Bool} {V : List tT} {K : List rTs} {S : List rSg} (hs : cSt tx n s e true t cn sc W) (hm : n - e ≤ m) (hd : 0 ≤ d ∧ d < 20) (hK : (K.length : Int) ≤ 20 * d + 20) (hS : (S.length : Int) = W.length ∧ (S.length : Int) ≤ 10 * d) (hcb : 0 ≤ cn ∧ cn ≤ t.2.2.1 + 1) (hrn : 0 ≤ rn ∧ rn + red K ≤ cn) (hD : Dm tx n K (V.length + 1) S) : OI tx n s cn (cm_sem 53 [.inr (.inl 14), .inl (d + 1)] s) (e, d, rn, sc, lf, V, (2, 0, 0, 0, 0) :: K, S) (PoU tx n t.2.2.1 cn rn d V K S W) := by
  have e0 := hs.e0
  have num := lxG_r4 ht e0.1 e0.2 hs.lx
  have hr0 := red_0 K
  unfold OI
  rw [cS_53, cF_53_0, hs.cd]
  by_cases c1 : t.2.1 = 1
  · rw [if_pos c1]
    have a := (tok_l ht e0.1 e0.2 hs.lx (w := 1) (by decide) (by decide) c1).1
    exact OI_tail (U_ju ht hs (Or.inl ⟨c1, rfl⟩) hd hK hcb hrn hD (fun hN => b_2kd0 ht hs.lx a hN (by omega) hd.1 (Or.inl hd.2) (by omega)) (fun t2 h2 h3 h4 => t_2kn0 ht hs.lx a h2 h3 h4 (by omega) hd.1 (Or.inl hd.2) (by omega)) (fun t2 h2 h3 => t_2ko0 ht hs.lx a h2 h3 (by omega) hd.1 (Or.inl hd.2) (by omega)))
  rw [if_neg c1]
  by_cases c4 : t.2.1 = 4
  · rw [if_pos c4]
    have a := (tok_l ht e0.1 e0.2 hs.lx (w := 4) (by decide) (by decide) c4).1
    exact OI_tail (U_ju ht hs (Or.inr ⟨c4, rfl⟩) hd hK hcb hrn hD (fun hN => b_2cd0 ht hs.lx a hN (by omega) hd.1 (Or.inl hd.2) (by omega)) (fun t2 h2 h3 h4 => t_2cn0 ht hs.lx a h2 h3 h4 (by omega) hd.1 (Or.inl hd.2) (by omega)) (fun t2 h2 h3 => t_2co0 ht hs.lx a h2 h3 (by omega) hd.1 (Or.inl hd.2) (by omega)))
  rw [if_neg c4]
  by_cases c7 : t.2.1 = 7
  · rw [if_pos c7]
    have a := (tok_l ht e0.1 e0.2 hs.lx (w := 7) (by decide) (by decide) c7).1
    exact OX_to (t_2d0 ht hs.lx a hd.1 (Or.inl hd.2) (by omega)) (OI_tail (U_do ht hx0 hSt hs hm c7 hd hK hS hcb hrn hD))
  rw [if_neg c7]
  by_cases c11 : t.2.1 = 11
  · rw [if_pos c11]
    have a := (tok_l ht e0.1 e0.2 hs.lx (w := 11) (by decide) (by decide) c11).1
    exact OX_to (t_2o0 ht hs.lx a hd.1 (Or.inl hd.2) (by omega)) (OI_tail (U_fo ht hx0 hSt hs hm c11 hd hK hS hcb hrn hD))
  rw [if_neg c11]
  by_cases c12 : t.2.1 = 12
  · rw [if_pos c12]
    have a := (tok_l ht e0.1 e0.2 hs.lx (w := 12) (by decide) (by decide) c12).1
    exact X_refuse (b_2f ht hs.lx a hd.1 (Or.inl hd.2) (by omega))
  rw [if_neg c12]
  by_cases c13 : t.2.1 = 13
  · rw [if_pos c13]
    have a := (tok_l ht e0.1 e0.2 hs.lx (w := 13) (by decide) (by decide) c13).1
    exact OX_to (t_2i0 ht hs.lx a hd.1 (Or.inl hd.2) (by omega)) (OI_tail (U_if ht hx0 hSt hs hm c13 hd hK hS hcb hrn hD))
  rw [if_neg c13]
  by_cases c18 : t.2.1 = 18
  · rw [if_pos c18]
    have a := (tok_l ht e0.1 e0.2 hs.lx (w := 18) (by decide) (by decide) c18).1
    exact OI_tail (U_re ht hx0 hs hm c18 hd hK hS hcb hrn hD (fun hN => b_2rd0 ht hs.lx a hN (by omega) hd.1 (Or.inl hd.2) (by omega)) (fun t2 h2 h3 => t_2r0 ht hs.lx a h2 h3 hd.1 (Or.inl hd.2) (by omega)) (fun t2 h2 h3 h4 => t_2rx0 ht hs.lx a h2 h3 h4 hd.1 (Or.inl hd.2) (by omega)))
  rw [if_neg c18]
  by_cases c19 : t.2.1 = 19
  · rw [if_pos c19]
    have a := (tok_l ht e0.1 e0.2 hs.lx (w := 19) (by decide) (by decide) c19).1
    exact OX_to (t_2s0 ht hs.lx a hd.1 (Or.inl hd.2) (by omega)) (OI_tail (U_sw ht hx0 hSt hs hm c19 hd hK hS hcb hrn hD))
  rw [if_neg c19]
  by_cases c21 : t.2.1 = 21
  · rw [if_pos c21]
    have a := (tok_l ht e0.1 e0.2 hs.lx (w := 21) (by decide) (by decide) c21).1
    exact OI_tail (U_th ht hx0 hs hm c21 hd hK hS hcb hrn hD (fun hN => b_2td0 ht hs.lx a hN (by omega) hd.1 (Or.inl hd.2) (by omega)) (fun t2 h2 h3 => b_2tl0 ht hs.lx a h2 h3 (by omega) hd.1 (Or.inl hd.2) (by omega)) (fun t2 h2 h3 => t_2t0 ht hs.lx a h2 h3 hd.1 (Or.inl hd.2) (by omega)))
  rw [if_neg c21]
  by_cases c23 : t.2.1 = 23
  · rw [if_pos c23]
    have a := (tok_l ht e0.1 e0.2 hs.lx (w := 23) (by decide) (by decide) c23).1
    exact OX_to (t_2y0 ht hs.lx a hd.1 (Or.inl hd.2) (by omega)) (OI_tail (U_tr ht hSt hs hm c23 hd hK hS hcb hrn hD))
  rw [if_neg c23]
  by_cases c25 : t.2.1 = 25
  · rw [if_pos c25]
    have a := (tok_l ht e0.1 e0.2 hs.lx (w := 25) (by decide) (by decide) c25).1
    exact OX_to (t_2v0 ht hs.lx a hd.1 (Or.inl hd.2) (by omega)) (OI_tail (U_va ht hx0 hs hm c25 hd hK hS hcb hrn hD))
  rw [if_neg c25]
  by_cases c27 : t.2.1 = 27
  · rw [if_pos c27]
    have a := (tok_l ht e0.1 e0.2 hs.lx (w := 27) (by decide) (by decide) c27).1
    exact OX_to (t_2w0 ht hs.lx a hd.1 (Or.inl hd.2) (by omega)) (OI_tail (U_wh ht hx0 hSt hs hm c27 hd hK hS hcb hrn hD))
  rw [if_neg c27]
  by_cases c59 : t.2.1 = 59
  · rw [if_pos c59]
    have a := ((tok_s ht e0.1 e0.2 hs.lx (c := 59) (by decide) (by decide)).1 c59).1
    exact OX_to (t_2e0 ht hs.lx a (by omega) hd.1 (Or.inl hd.2) (by omega)) (U_em ht hs c59 hd hK hcb hrn hD)
  rw [if_neg c59]
  by_cases c123 : t.2.1 = 123
  · rw [if_pos c123]
    have a := ((tok_s ht e0.1 e0.2 hs.lx (c := 123) (by decide) (by decide)).1 c123).1
    have tn := tk_num (lxG_ok ht e0.1 e0.2 hs.lx).1
    exact OX_to (t_2b0 ht hs.lx a hd.1 (Or.inl hd.2) (by omega)) (OI_tail (U_bl ht hSt hs (lxG_ft hs.lx (by omega)) hm hd hK hS hcb hrn hD))
  rw [if_neg c123]
  have sk := tok_k ht e0.1 e0.2 hs.lx
  by_cases k1 : t.1 = 1
  · have a := (sk.1 k1).1
    exact OI_tail (U_xn ht hx hSt hs hm k1 hd hK hS hcb hrn hD (fun hN => b_2ln0 ht hs.lx a hN hd.1 (Or.inl hd.2) (by omega)) (fun t2 h2 h3 => t_2l0 ht hs.lx a h2 h3 hd.1 (Or.inl hd.2) (by omega)) (fun t2 h2 h3 => t_2n0 ht hs.lx a h2 h3 hd.1 (Or.inl hd.2) (by omega)))
  · have a := sk.2.1 k1
    have b123 := (tok_s ht e0.1 e0.2 hs.lx (c := 123) (by decide) (by decide)).2 c123
    have b59 := (tok_s ht e0.1 e0.2 hs.lx (c := 59) (by decide) (by decide)).2 c59
    have W : ∀ w : Int, 1 ≤ w → w ≤ 27 → t.2.1 ≠ w → rNo t ≠ 999 + w := fun w w1 w2 => (tok_w ht e0.1 e0.2 hs.lx (w := w) w1 w2).2
    exact OX_to (t_2x0 ht hs.lx ⟨b123, b59, a⟩ (Or.inr ⟨W 12 (by decide) (by decide) c12, W 25 (by decide) (by decide) c25, W 21 (by decide) (by decide) c21, W 18 (by decide) (by decide) c18, W 1 (by decide) (by decide) c1, W 4 (by decide) (by decide) c4, W 13 (by decide) (by decide) c13, W 7 (by decide) (by decide) c7, W 27 (by decide) (by decide) c27, W 11 (by decide) (by decide) c11, W 19 (by decide) (by decide) c19, W 23 (by decide) (by decide) c23⟩) hd.1 (Or.inl hd.2) (by omega)) (OI_tail (U_xo ht hx hs hm k1 hd hK hS hcb hrn hD))
theorem U_531 (ht : tOk tx n) {m : Nat} (hx0 : S_x tx n m) (hx : S_x tx n (m + 1)) (hSt : S_st tx n m) {s : cm_S} {e : Int} {t : tTk} {cn sc : Int} {W : List (Int × Int)} {d rn : Int} {lf : Bool} {V : List tT} {K : List rTs} {S : List rSg} (hs : cSt tx n s e true t cn sc W) (hm : n - e ≤ m) (h12 : t.2.1 ≠ 12) (hd : 0 ≤ d ∧ d < 20) (hK : (K.length : Int) ≤ 20 * d + 20) (hS : (S.length : Int) = W.length ∧ (S.length : Int) ≤ 10 * d) (hcb : 0 ≤ cn ∧ cn ≤ t.2.2.1 + 1) (hrn : 0 ≤ rn ∧ rn + red K ≤ cn) (hD : Dm tx n K (V.length + 1) S) : OI tx n s cn (cm_sem 53 [.inr (.inl 14), .inl (d + 1)] s) (e, d, rn, sc, lf, V, (2, 1, 0, 0, 0) :: K, S) (PoU tx n t.2.2.1 cn rn d V K S W) := by
  have e0 := hs.e0
  have num := lxG_r4 ht e0.1 e0.2 hs.lx
  have hr0 := red_0 K
  unfold OI
  rw [cS_53, cF_53_0, hs.cd]
  by_cases c1 : t.2.1 = 1
  · rw [if_pos c1]
    have a := (tok_l ht e0.1 e0.2 hs.lx (w := 1) (by decide) (by decide) c1).1
    exact OI_tail (U_ju ht hs (Or.inl ⟨c1, rfl⟩) hd hK hcb hrn hD (fun hN => b_2kd1 ht hs.lx a hN (by omega) hd.1 (Or.inl hd.2) (by omega)) (fun t2 h2 h3 h4 => t_2kn1 ht hs.lx a h2 h3 h4 (by omega) hd.1 (Or.inl hd.2) (by omega)) (fun t2 h2 h3 => t_2ko1 ht hs.lx a h2 h3 (by omega) hd.1 (Or.inl hd.2) (by omega)))
  rw [if_neg c1]
  by_cases c4 : t.2.1 = 4
  · rw [if_pos c4]
    have a := (tok_l ht e0.1 e0.2 hs.lx (w := 4) (by decide) (by decide) c4).1
    exact OI_tail (U_ju ht hs (Or.inr ⟨c4, rfl⟩) hd hK hcb hrn hD (fun hN => b_2cd1 ht hs.lx a hN (by omega) hd.1 (Or.inl hd.2) (by omega)) (fun t2 h2 h3 h4 => t_2cn1 ht hs.lx a h2 h3 h4 (by omega) hd.1 (Or.inl hd.2) (by omega)) (fun t2 h2 h3 => t_2co1 ht hs.lx a h2 h3 (by omega) hd.1 (Or.inl hd.2) (by omega)))
  rw [if_neg c4]
  by_cases c7 : t.2.1 = 7
  · rw [if_pos c7]
    have a := (tok_l ht e0.1 e0.2 hs.lx (w := 7) (by decide) (by decide) c7).1
    exact OX_to (t_2d1 ht hs.lx a hd.1 (Or.inl hd.2) (by omega)) (OI_tail (U_do ht hx0 hSt hs hm c7 hd hK hS hcb hrn hD))
  rw [if_neg c7]
  by_cases c11 : t.2.1 = 11
  · rw [if_pos c11]
    have a := (tok_l ht e0.1 e0.2 hs.lx (w := 11) (by decide) (by decide) c11).1
    exact OX_to (t_2o1 ht hs.lx a hd.1 (Or.inl hd.2) (by omega)) (OI_tail (U_fo ht hx0 hSt hs hm c11 hd hK hS hcb hrn hD))
  rw [if_neg c11]
  rw [if_neg h12]
  by_cases c13 : t.2.1 = 13
  · rw [if_pos c13]
    have a := (tok_l ht e0.1 e0.2 hs.lx (w := 13) (by decide) (by decide) c13).1
    exact OX_to (t_2i1 ht hs.lx a hd.1 (Or.inl hd.2) (by omega)) (OI_tail (U_if ht hx0 hSt hs hm c13 hd hK hS hcb hrn hD))
  rw [if_neg c13]
  by_cases c18 : t.2.1 = 18
  · rw [if_pos c18]
    have a := (tok_l ht e0.1 e0.2 hs.lx (w := 18) (by decide) (by decide) c18).1
    exact OI_tail (U_re ht hx0 hs hm c18 hd hK hS hcb hrn hD (fun hN => b_2rd1 ht hs.lx a hN (by omega) hd.1 (Or.inl hd.2) (by omega)) (fun t2 h2 h3 => t_2r1 ht hs.lx a h2 h3 hd.1 (Or.inl hd.2) (by omega)) (fun t2 h2 h3 h4 => t_2rx1 ht hs.lx a h2 h3 h4 hd.1 (Or.inl hd.2) (by omega)))
  rw [if_neg c18]
  by_cases c19 : t.2.1 = 19
  · rw [if_pos c19]
    have a := (tok_l ht e0.1 e0.2 hs.lx (w := 19) (by decide) (by decide) c19).1
    exact OX_to (t_2s1 ht hs.lx a hd.1 (Or.inl hd.2) (by omega)) (OI_tail (U_sw ht hx0 hSt hs hm c19 hd hK hS hcb hrn hD))
  rw [if_neg c19]
  by_cases c21 : t.2.1 = 21
  · rw [if_pos c21]
    have a := (tok_l ht e0.1 e0.2 hs.lx (w := 21) (by decide) (by decide) c21).1
    exact OI_tail (U_th ht hx0 hs hm c21 hd hK hS hcb hrn hD (fun hN => b_2td1 ht hs.lx a hN (by omega) hd.1 (Or.inl hd.2) (by omega)) (fun t2 h2 h3 => b_2tl1 ht hs.lx a h2 h3 (by omega) hd.1 (Or.inl hd.2) (by omega)) (fun t2 h2 h3 => t_2t1 ht hs.lx a h2 h3 hd.1 (Or.inl hd.2) (by omega)))
  rw [if_neg c21]
  by_cases c23 : t.2.1 = 23
  · rw [if_pos c23]
    have a := (tok_l ht e0.1 e0.2 hs.lx (w := 23) (by decide) (by decide) c23).1
    exact OX_to (t_2y1 ht hs.lx a hd.1 (Or.inl hd.2) (by omega)) (OI_tail (U_tr ht hSt hs hm c23 hd hK hS hcb hrn hD))
  rw [if_neg c23]
  by_cases c25 : t.2.1 = 25
  · rw [if_pos c25]
    have a := (tok_l ht e0.1 e0.2 hs.lx (w := 25) (by decide) (by decide) c25).1
    exact OX_to (t_2v1 ht hs.lx a hd.1 (Or.inl hd.2) (by omega)) (OI_tail (U_va ht hx0 hs hm c25 hd hK hS hcb hrn hD))
  rw [if_neg c25]
  by_cases c27 : t.2.1 = 27
  · rw [if_pos c27]
    have a := (tok_l ht e0.1 e0.2 hs.lx (w := 27) (by decide) (by decide) c27).1
    exact OX_to (t_2w1 ht hs.lx a hd.1 (Or.inl hd.2) (by omega)) (OI_tail (U_wh ht hx0 hSt hs hm c27 hd hK hS hcb hrn hD))
  rw [if_neg c27]
  by_cases c59 : t.2.1 = 59
  · rw [if_pos c59]
    have a := ((tok_s ht e0.1 e0.2 hs.lx (c := 59) (by decide) (by decide)).1 c59).1
    exact OX_to (t_2e1 ht hs.lx a (by omega) hd.1 (Or.inl hd.2) (by omega)) (U_em ht hs c59 hd hK hcb hrn hD)
  rw [if_neg c59]
  by_cases c123 : t.2.1 = 123
  · rw [if_pos c123]
    have a := ((tok_s ht e0.1 e0.2 hs.lx (c := 123) (by decide) (by decide)).1 c123).1
    have tn := tk_num (lxG_ok ht e0.1 e0.2 hs.lx).1
    exact OX_to (t_2b1 ht hs.lx a hd.1 (Or.inl hd.2) (by omega)) (OI_tail (U_bl ht hSt hs (lxG_ft hs.lx (by omega)) hm hd hK hS hcb hrn hD))
  rw [if_neg c123]
  have sk := tok_k ht e0.1 e0.2 hs.lx
  by_cases k1 : t.1 = 1
  · have a := (sk.1 k1).1
    exact OI_tail (U_xn ht hx hSt hs hm k1 hd hK hS hcb hrn hD (fun hN => b_2ln1 ht hs.lx a hN hd.1 (Or.inl hd.2) (by omega)) (fun t2 h2 h3 => t_2l1 ht hs.lx a h2 h3 hd.1 (Or.inl hd.2) (by omega)) (fun t2 h2 h3 => t_2n1 ht hs.lx a h2 h3 hd.1 (Or.inl hd.2) (by omega)))
  · have a := sk.2.1 k1
    have b123 := (tok_s ht e0.1 e0.2 hs.lx (c := 123) (by decide) (by decide)).2 c123
    have b59 := (tok_s ht e0.1 e0.2 hs.lx (c := 59) (by decide) (by decide)).2 c59
    have W : ∀ w : Int, 1 ≤ w → w ≤ 27 → t.2.1 ≠ w → rNo t ≠ 999 + w := fun w w1 w2 => (tok_w ht e0.1 e0.2 hs.lx (w := w) w1 w2).2
    exact OX_to (t_2x1 ht hs.lx ⟨b123, b59, a⟩ (Or.inr ⟨W 12 (by decide) (by decide) h12, W 25 (by decide) (by decide) c25, W 21 (by decide) (by decide) c21, W 18 (by decide) (by decide) c18, W 1 (by decide) (by decide) c1, W 4 (by decide) (by decide) c4, W 13 (by decide) (by decide) c13, W 7 (by decide) (by decide) c7, W 27 (by decide) (by decide) c27, W 11 (by decide) (by decide) c11, W 19 (by decide) (by decide) c19, W 23 (by decide) (by decide) c23⟩) hd.1 (Or.inl hd.2) (by omega)) (OI_tail (U_xo ht hx hs hm k1 hd hK hS hcb hrn hD))
end TX72
