/-! ===== operands ===== -/
section TX49
variable {tx : Int → Int} {n : Int}
/-- a leaf: a token, or a word -/
theorem leaf_end {s : cm_S} {e b cn rn d sc k p l code : Int} {t : tTk} {lf : Bool} {V : List tT} {K : List rTs} {S : List rSg} {W : List (Int × Int)} (hs : cSt tx n s e false t (cn + 1) sc W) (hn : cNo s (cn + 1) cn (k, p, l, code) cn []) (hT : gT tx n (k, p, l, code, false)) (hk : 30 ≤ k ∧ k ≤ 35) (hp : p = b) (hbe : b < e) (hw : tOw (k, p, l, code, false) 0 ≤ 2 * (e - b)) : Po tx n b cn rn d V K S W (xO b) cn s (e, d, rn + 1, sc, lf, ((k, p, l, code, false), .leaf) :: V, K, S) := by
  obtain ⟨tr, nx⟩ := cNo_tr hn false
  have hB : tB (k, p, l, code, false) = 15 := by
    unfold tB
    simp only
    rw [if_neg (by omega), if_neg (by omega), if_neg (by omega), if_neg (by omega), if_neg (by omega), if_neg (by omega)]
  refine ⟨e, t, sc, lf, ((k, p, l, code, false), .leaf), hs, rfl, tr, nx, by show b + (1 + 0) ≤ e; omega, ⟨hT, ?_, gW_no (show k ≠ 5 by omega), trivial⟩, ⟨by show 30 ≤ k; omega, by show k ≤ 49; omega, by show k ≠ 38; omega⟩, fun _ => ⟨by show b ≤ p; omega, fun z => (by cases z), fun z => absurd hp z⟩, ?_, ?_⟩
  · show gC k []
    unfold gC
    rw [if_neg (by omega), if_neg (by omega), if_neg (by omega), if_neg (by omega), if_neg (by omega), if_neg (by omega), if_neg (by omega), if_neg (by omega), if_neg (by omega), if_neg (by omega), if_neg (by omega), if_neg (by omega), if_neg (by omega), if_neg (by omega), if_neg (by omega), if_neg (by omega), if_neg (by omega), if_neg (by omega), if_neg (by omega), if_neg (by omega), if_neg (by omega), if_neg (by omega)]
  · show tOw (k, p, l, code, false) 0 + 0 + (if tB (k, p, l, code, false) < 15 then 2 else 0) ≤ _
    rw [hB, if_neg (by decide)]
    omega
  · intro z
    exfalso
    have : tCa ((k, p, l, code, false), Std.DTreeMap.Internal.Impl.leaf) = decide (k = 43) := by
      unfold tCa
      simp only
      rw [if_neg (by omega)]
    rw [this] at z
    have := of_decide_eq_true z
    omega
def S_op (tx : Int → Int) (n : Int) (m : Nat) : Prop := ∀ (s : cm_S) (e : Int) (t : tTk) (cn sc : Int) (W : List (Int × Int)) (d rn : Int) (lf : Bool) (V : List tT) (K : List rTs) (S : List rSg), cSt tx n s e true t cn sc W → n - e ≤ m → Nu t.2.2.1 cn rn d 2 10 K S W → Dm tx n K (V.length + 1) S → OI tx n s cn (cm_sem 78 [.inr (.inl 14), .inl d] s) (e, d, rn, sc, lf, V, (20, 0, 0, 0, 0) :: K, S) (Po tx n t.2.2.1 cn rn d V K S W (xO t.2.2.1))
theorem S_op_of (ht : tOk tx n) {m : Nat} (hx : S_x tx n m) (hE : S_el tx n m) : S_op tx n m := by
  intro s e t cn sc W d rn lf V K S hs hm hN hD
  have hN0 := hN
  obtain ⟨n1, n2, n3, n4, n5, n6, n7, n8, n9⟩ := hN
  have e0 := hs.e0
  have num := lxG_r4 ht e0.1 e0.2 hs.lx
  have hr0 := red_0 K
  have tn := tk_num (lxG_ok ht e0.1 e0.2 hs.lx).1
  have hlt : t.1 ≠ 0 → t.2.2.1 < t.2.2.2.1 := fun z => ((tok_k ht e0.1 e0.2 hs.lx).2.2.2.1 z).2
  have doom : ∀ T : tT, lxG tx n false t.2.2.2.1 = none → rBd tx n (t.2.2.2.1, d, rn + 1, sc, lf, T :: V, K, S) := fun T hN' => hD _ _ _ _ _ _ (by omega) (by omega) hN' (by rw [List.length_cons]) (by omega) (by omega)
  -- a token of its own
  have tokn : ∀ k : Int, 31 ≤ k → k ≤ 35 → t.1 ≠ 0 → gT tx n (k, t.2.2.1, t.2.2.2.1 - t.2.2.1, t.2.1, false) → rTo tx n (e, d, rn, sc, lf, V, (20, 0, 0, 0, 0) :: K, S) (t.2.2.2.1, d, rn + 1, sc, lf, ((k, t.2.2.1, t.2.2.2.1 - t.2.2.1, t.2.1, false), .leaf) :: V, K, S) → OX tx n s cn (cm_bi (cm_sem 64 [.inr (.inl 14), .inl k] s) fun z1 s1 => some (.inl (some (.inl z1)), s1)) (e, d, rn, sc, lf, V, (20, 0, 0, 0, 0) :: K, S) (fun r s' c' => ∃ v, r = some (.inl v) ∧ Po tx n t.2.2.1 cn rn d V K S W (xO t.2.2.1) v s' c') := by
    intro k k1 k2 hz hgT hto
    have hl := hlt hz
    refine OX_to hto (X_of ht hs n6 (by omega) (Int.le_refl _) (doom _) fun t1 s1 hT1 kk1 b1 n1' st1 => OX_reti ⟨cn, rfl, leaf_end st1 n1' hgT (by omega) rfl (by omega) ?_⟩)
    have : tOw (k, t.2.2.1, t.2.2.2.1 - t.2.2.1, t.2.1, false) 0 = 2 * (t.2.2.2.1 - t.2.2.1) := by
      unfold tOw
      simp only
      rw [if_neg (by omega), if_neg (by omega), if_neg (by omega), if_neg (by omega), if_neg (by omega), if_neg (by omega), if_neg (by omega), if_neg (by omega), if_neg (by omega), if_neg (by omega), if_neg (by omega), if_neg (by omega), if_neg (by omega), if_neg (by omega), if_neg (by omega), if_neg (by omega), if_neg (by omega), if_neg (by omega), if_neg (by omega), if_neg (by omega), if_neg (by omega), if_neg (by omega), if_neg (by omega), if_neg (by omega), if_neg (by omega), if_neg (by omega), if_neg (by omega), if_neg (by omega)]
    omega
  unfold OI
  rw [cS_78, cF_78_0, hs.kd]
  refine OX_ite (fun h1 => tokn 31 (by decide) (by decide) (by omega) (gT_tk ht e0.1 e0.2 hs.lx false h1) (t_20n ht hs.lx (by omega) (by omega) (by omega) t.2.1)) fun h1 => ?_
  refine OX_ite (fun h3 => tokn 33 (by decide) (by decide) (by omega) (gT_tk ht e0.1 e0.2 hs.lx false h3) (t_20u ht hs.lx (by omega) (by omega) (by omega) t.2.1)) fun h3 => ?_
  refine OX_ite (fun h4 => tokn 34 (by decide) (by decide) (by omega) (gT_tk ht e0.1 e0.2 hs.lx false h4) (t_20s ht hs.lx (by omega) (by omega) (by omega) t.2.1)) fun h4 => ?_
  refine OX_ite (fun h5 => tokn 35 (by decide) (by decide) (by omega) (gT_tk ht e0.1 e0.2 hs.lx false h5) (t_20p ht hs.lx (by omega) (by omega) (by omega) t.2.1)) fun h5 => ?_
  refine OI_tail ?_
  unfold OI
  rw [cS_79, cF_79_0, hs.cd]
  refine OX_ite (fun c => tokn 32 (by decide) (by decide) (by omega) (gT_tk ht e0.1 e0.2 hs.lx false (show t.1 = 2 ∧ (t.2.1 = 9 ∨ t.2.1 = 17 ∨ t.2.1 = 22) by omega)) (t_20c ht hs.lx (by omega) (by omega) (by omega) t.2.1)) fun c9 => ?_
  refine OX_ite (fun c => ?_) fun c12 => ?_
  · obtain ⟨a1, a2⟩ := tok_l ht e0.1 e0.2 hs.lx (w := 12) (by decide) (by decide) c
    have a3 : wl 12 = 8 := by decide
    clear tn
    refine OX_im (OI_tail (S_fn_of ht hE hs hm (by omega) (Or.inr rfl) ⟨n1, n2, by omega, n4, n5, n6, n7, n8, n9⟩ hD ⟨fun z => b_20fd ht hs.lx a1 z (by omega) (by omega), fun t2 z1 z2 => t_20fn ht hs.lx a1 z1 z2 (by omega), fun t2 z1 z2 _ => t_20fo ht hs.lx a1 z1 z2 (by omega), fun t2 z1 z2 z3 => absurd z3 (by decide)⟩)) ?_
    rintro r s' c' ⟨v, rfl, e', t', sc', lf', T, q1, q2, q3, q4, q5, q6, q7, q8⟩
    refine ⟨v, rfl, e', t', sc', lf', T, q1, q2, q3, q4, q5, q6, by rw [q7]; unfold isE; decide, fun z => absurd z (by rw [q7]; decide), ?_, ?_⟩
    · unfold tWb
      rw [show tB T.1 = 15 by unfold tB; rw [q7]; rfl, if_neg (by decide)]
      omega
    · intro z
      unfold tCa at z
      rw [q7, if_neg (by decide)] at z
      exact absurd z (by decide)
  refine OX_ite (fun c => tokn 32 (by decide) (by decide) (by omega) (gT_tk ht e0.1 e0.2 hs.lx false (show t.1 = 2 ∧ (t.2.1 = 9 ∨ t.2.1 = 17 ∨ t.2.1 = 22) by omega)) (t_20c ht hs.lx (by omega) (by omega) (by omega) t.2.1)) fun c17 => ?_
  refine OX_ite (fun c => ?_) fun c20 => ?_
  · obtain ⟨a1, a2⟩ := tok_l ht e0.1 e0.2 hs.lx (w := 20) (by decide) (by decide) c
    have a3 : wl 20 = 4 := by decide
    clear tn
    refine OX_to (t_20t ht hs.lx a1 (by omega) (by omega) 0) (X_first ht hs n6 (by omega) (Int.le_refl _) (doom _) fun t1 s1 hT1 kk1 b1 n1' st1 => OX_reti ⟨cn, rfl, leaf_end st1 n1' (gT_no (by simp) (by show 0 ≤ t.2.2.1; omega) (by show t.2.2.1 ≤ n; omega) rfl) (by omega) rfl (by omega) ?_⟩)
    show (8 : Int) ≤ _
    omega
  refine OX_ite (fun c => tokn 32 (by decide) (by decide) (by omega) (gT_tk ht e0.1 e0.2 hs.lx false (show t.1 = 2 ∧ (t.2.1 = 9 ∨ t.2.1 = 17 ∨ t.2.1 = 22) by omega)) (t_20c ht hs.lx (by omega) (by omega) (by omega) t.2.1)) fun c22 => ?_
  refine OX_ite (fun c => ?_) fun c40 => ?_
  · -- brackets
    have hl := hlt (by omega)
    have c' : rNo t = 40 := by omega
    clear tn hlt
    refine OX_to (t_20b ht hs.lx c' (by omega)) ?_
    refine X_next ht hs (fun hN' => dm_wh ht (m := V.length) _ _ _ _ _ _ (by omega) (by omega) hN' rfl (by simp only [red_co]; simp; omega) (by simp only [List.length_cons]; omega)) fun t1 s1 hT1 e1 b1 st1 => ?_
    have e01 := st1.e0
    have num1 := lxG_r4 ht e01.1 e01.2 st1.lx
    refine OX_bi (S_seq_of ht hx s1 t.2.2.2.1 false t1 cn sc W d rn 0 lf V ((28, 0, 0, 0, 0) :: K) S st1 (by omega) ⟨n1, n2, by simp only [List.length_cons]; omega, n4, n5, n6, by omega, n8, by simp only [red_co]; simp; omega⟩ (Or.inl rfl) (dm_28 ht (by omega))) (Int.le_refl _) fun v2 s2 c2 f2 k2 q2 => ?_
    obtain ⟨e2, t2, sc2, lf2, T, st2, rfl, tr2, nx2, sz2, g2, x1, x2, x3, x4⟩ := q2
    have tz := tSz_1 T
    have e02 := st2.e0
    have num2 := lxG_r4 ht e02.1 e02.2 st2.lx
    have x3' : tWt T ≤ 2 * (e2 - t1.2.2.1) := by
      unfold tWb at x3
      have := tB_0 T.1
      rw [if_neg (by omega)] at x3
      omega
    by_cases h41 : t2.2.1 = 41
    · obtain ⟨h41', hlt2⟩ := (tok_s ht e02.1 e02.2 st2.lx (c := 41) (by decide) (by decide)).1 h41
      refine OX_to (t_28 ht st2.lx h41' (by omega) (by omega)) ?_
      refine X_psk ht st2 h41 (fun hN' => hD _ _ _ _ _ _ (by omega) (by omega) hN' (by rw [List.length_cons]) (by omega) (by omega)) fun t3 s3 hT3 e3 b3 st3 => ?_
      have e03 := st3.e0
      refine OX_reti ⟨v2, rfl, t2.2.2.2.1, t3, sc2, lf2, ((T.1.1, T.1.2.1, T.1.2.2.1, T.1.2.2.2.1, T.1.2.2.2.2 || decide (T.1.1 = 34)), T.2), st3, rfl, cTr_w (cTr_row tr2 e3) _, by rw [e3]; exact nx2, by show t.2.2.1 + tSz T ≤ _; omega, gG_w g2 _, x1, ?_, ?_, ?_⟩
      · intro z34
        have z34' : T.1.1 = 34 := z34
        have hge := (x2 z34').1
        have hge' : t1.2.2.1 ≤ T.1.2.1 := hge
        refine ⟨by show t.2.2.1 ≤ T.1.2.1; omega, fun _ => by show T.1.2.1 ≠ t.2.2.1; omega, fun _ => by show (T.1.2.2.2.2 || decide (T.1.1 = 34)) = true; rw [z34']; simp⟩
      · show tWt T + (if tB T.1 < 15 then 2 else 0) ≤ _
        split <;> omega
      · intro _
        show tWt T + 2 ≤ _
        omega
    · have h41' := (tok_s ht e02.1 e02.2 st2.lx (c := 41) (by decide) (by decide)).2 h41
      exact X_psn st2 h41 (b_28 ht st2.lx h41' (by omega) (by omega))
  refine OX_ite (fun c => ?_) fun c91 => ?_
  · have c' : rNo t = 91 := by omega
    clear tn
    exact OX_to (t_20a ht hs.lx c' (by omega)) (OI_tail (S_arr_of ht hx s e true t cn sc W d rn lf V K S hs hm c hN0 hD))
  refine OX_ite (fun c => ?_) fun c123 => ?_
  · have c' : rNo t = 123 := by omega
    clear tn
    exact OX_to (t_20o ht hs.lx c' (by omega)) (OI_tail (S_ob_of ht hx s e true t cn sc W d rn lf V K S hs hm c hN0 hD))
  exact X_refuse (b_20 ht hs.lx (by omega) (by omega))
end TX49
