/-! ===== what may stand in a text or a body ===== -/
section TX74
variable {tx : Int → Int} {n : Int}
theorem S_el_of (ht : tOk tx n) {m : Nat} (hE : S_el tx n m) (hSt : S_st tx n (m + 1)) : S_el tx n (m + 1) := by
  intro s e g t cn sc W d rn lf V K S hs hm hN hD
  have hN0 := hN
  obtain ⟨n1, n2, n3, n4, n5, n6, n7, n8, n9⟩ := hN
  have e0 := hs.e0
  have num := lxG_r4 ht e0.1 e0.2 hs.lx
  have hr0 := red_0 K
  unfold OI
  rw [cS_46, cF_46_0, hs.cd, cm_w_id (by omega) (by omega)]
  by_cases h12 : t.2.1 = 12
  · obtain ⟨a1, a2⟩ := tok_l ht e0.1 e0.2 hs.lx (w := 12) (by decide) (by decide) h12
    have a3 : wl 12 = 8 := by decide
    have hT0 : lxG tx n true e = some t := by
      cases g with
      | true => exact hs.lx
      | false => exact lxG_tc ht e0.1 e0.2 hs.lx (by omega)
    rw [if_pos h12]
    refine X_within ht hs (fun hN' => by rw [hT0] at hN'; cases hN') (fun t' hT hz => by rw [hT0] at hT; cases hT; omega) (fun t' hT hz hd => b_2f1d ht hT (by omega) hz (by omega)) fun t' s1 hT hz hd e1 b1 st1 => ?_
    rw [hT0] at hT
    cases hT
    refine OX_bi (S_fn_of ht hE st1 (by omega) (by omega) (Or.inl rfl) (d := d + 1) (rn := rn) (k := 20) (lf := lf) (V := V) (K := (4, 0, 0, 0, 0) :: K) (S := S) ⟨by omega, by omega, by simp only [List.length_cons]; omega, n4, by omega, n6, by omega, n8, by simp only [red_co]; simp; omega⟩ (dm_lv hD) ⟨fun hN' => b_2fd ht hT0 a1 hN' (by omega) n1 (Or.inl hd) (by omega), fun t2 h2 h3 => t_2fn ht hT0 a1 h2 h3 n1 (Or.inl hd) (by omega), fun _ _ _ h => absurd h (by decide), fun t2 h2 h3 _ => b_2fb ht hT0 a1 h2 h3 (by omega) n1 (Or.inl hd) (by omega)⟩) (Int.le_refl _) fun v2 s2 c2 f2 k2 q2 => ?_
    obtain ⟨e2, t2, sc2, lf2, T, st2, rfl, tr2, nx2, sz2, g2, x2, w2⟩ := q2
    have tz := tSz_1 T
    have e02 := st2.e0
    have num2 := lxG_r4 ht e02.1 e02.2 st2.lx
    have dl2 := dl_01 t2
    exact OX_to (t_lv (by omega) n1 (by omega)) (OX_reti ⟨v2, rfl, e2, t2, sc2, lf2, T, st2, rfl, tr2, nx2, by omega, by omega, g2, Or.inr x2, by omega⟩)
  · rw [if_neg h12]
    refine OX_im (OI_tail (hSt s e g t cn sc W d rn 1 lf V K S hs hm (Or.inr ⟨rfl, h12⟩) hN0 hD)) ?_
    rintro r s' c' ⟨v, rfl, e', t', sc', lf', T, st, rfl, tr, nx, hbe, sz, gg, x, w⟩
    exact ⟨v, rfl, e', t', sc', lf', T, st, rfl, tr, nx, hbe, sz, gg, Or.inl x, w⟩
end TX74
