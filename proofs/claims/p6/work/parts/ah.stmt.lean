/-! ===== a statement ===== -/
section TX73
variable {tx : Int → Int} {n : Int}
/-- an operand's begin has the word's code only where the token has it -/
theorem cd_tf (ht : tOk tx n) {e : Int} {g : Bool} (h0 : 0 ≤ e) (h1 : e ≤ n) {t t' : tTk} (h : lxG tx n g e = some t) (h' : lxG tx n true e = some t') (hn : t.2.1 ≠ 12) : t'.2.1 ≠ 12 := by
  cases g with
  | true =>
    rw [h] at h'
    cases h'
    exact hn
  | false =>
    rcases lxG_tf ht h0 h1 h h' with rfl | ⟨h5, -⟩
    · exact hn
    · have tn := tk_num (lxG_ok ht h0 h1 h').1
      omega
theorem S_st_of (ht : tOk tx n) {m : Nat} (hx0 : S_x tx n m) (hx : S_x tx n (m + 1)) (hSt : S_st tx n m) : S_st tx n (m + 1) := by
  intro s e g t cn sc W d rn f lf V K S hs hm hf hN hD
  obtain ⟨n1, n2, n3, n4, n5, n6, n7, n8, n9⟩ := hN
  have e0 := hs.e0
  have num := lxG_r4 ht e0.1 e0.2 hs.lx
  have hr0 := red_0 K
  have hm' : n - e ≤ m := by omega
  unfold OI
  rw [cS_47, cF_47_0, cm_w_id (by omega) (by omega)]
  have b1 : lxG tx n true e = none → rBd tx n (e, d, rn, sc, lf, V, (2, f, 0, 0, 0) :: K, S) := fun hN' => by
    rcases hf with rfl | ⟨rfl, -⟩
    · exact b_2f0n (t := t) ht hN' (by omega)
    · exact b_2f1n (t := t) ht hN' (by omega)
  have b2 : ∀ t', lxG tx n true e = some t' → rNo t' = 0 → rBd tx n (e, d, rn, sc, lf, V, (2, f, 0, 0, 0) :: K, S) := fun t' hT hz => by
    rcases hf with rfl | ⟨rfl, -⟩
    · exact be_20 ht hT hz n1 (by omega) (by omega)
    · exact be_21 ht hT hz n1 (by omega) (by omega)
  have b3 : ∀ t', lxG tx n true e = some t' → rNo t' ≠ 0 → 20 ≤ d → rBd tx n (e, d, rn, sc, lf, V, (2, f, 0, 0, 0) :: K, S) := fun t' hT hz hd => by
    rcases hf with rfl | ⟨rfl, -⟩
    · exact b_2f0d ht hT (by omega) hz (by omega)
    · exact b_2f1d ht hT (by omega) hz (by omega)
  refine X_within ht hs b1 b2 b3 fun t' s1 hT hz hd e1 bb1 st1 => ?_
  have bg := (lxG_beg hs.lx hT).1
  rw [← bg]
  rcases hf with rfl | ⟨rfl, h12⟩
  · exact OX_bi (U_530 ht hx0 hx hSt st1 hm' ⟨n1, hd⟩ n3 ⟨n4, n5⟩ ⟨n6, by omega⟩ ⟨n8, n9⟩ hD) (Int.le_refl _) fun v s2 c2 f2 k2 q => st_end ht ⟨n1, hd⟩ n3 ⟨n6, by omega⟩ q
  · exact OX_bi (U_531 ht hx0 hx hSt st1 hm' (cd_tf ht e0.1 e0.2 hs.lx hT h12) ⟨n1, hd⟩ n3 ⟨n4, n5⟩ ⟨n6, by omega⟩ ⟨n8, n9⟩ hD) (Int.le_refl _) fun v s2 c2 f2 k2 q => st_end ht ⟨n1, hd⟩ n3 ⟨n6, by omega⟩ q
end TX73
