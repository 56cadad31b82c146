/-! ===== the reference's printer: switch, try; all of it ===== -/
section TXb4
variable {tx : Int → Int} {n : Int}
theorem co_pr {l : tLb} {ch : tF} (e : l.1 = 15) (g2 : gC l.1 (fK ch)) (g4 : gF tx n ch) : acB tx n l ch = coT tx n ch := by
  have g2' : ∃ a r, fK ch = a :: r ∧ (isE a ∨ a = 21) ∧ ∀ x ∈ r, isS x := by
    unfold gC at g2
    rw [e] at g2
    exact g2
  obtain ⟨a, r, em, ia, ir⟩ := g2'
  obtain ⟨x1, l1, u1, c1, r1, rfl, q1, em1⟩ := fK_cons em
  rw [← q1] at ia
  rw [← em1] at ir
  obtain ⟨h11, h12, h13, h14, h15⟩ := g4
  have a0 : ahd tx n l 0 l1.1 = [] := by simp [ahd, e]
  have o1 : opn tx n l (fK0 (.inner x1 l1 u1 c1 r1)) = if l1.1 = 21 then [kTok 1028] else [kTok 1029] := by
    simp [opn, opS, e, fK0]
    rfl
  have key : prF tx n l (0 + 1) false false r1 ++ clS 0 0 l (1 + fLn r1) = kTok 1012 :: acT tx n r1 := by
    cases r1 with
    | leaf =>
      have : clS 0 0 l (1 + fLn .leaf) = [kTok 1012] := by simp [clS, e, fLn]
      rw [this]
      rfl
    | inner x2 l2 u2 c2 r2 =>
      have fl := fLn_0 r2
      have m1 : ¬ 1 + fLn (.inner x2 l2 u2 c2 r2) = 1 := by
        show ¬ 1 + (1 + fLn r2) = 1
        omega
      have o2 : clS 0 0 l (1 + fLn (.inner x2 l2 u2 c2 r2)) = [] := by
        simp only [clS, e]
        simp [m1]
      have a1 : ahd tx n l (0 + 1) l2.1 = [kTok 1012] := by simp [ahd, e]
      rw [prF_s (isS_30 (ir l2.1 (List.mem_cons_self ..))) (by omega) (by omega), a1, o2, ac_pr (Or.inr (Or.inr (Or.inr e))) r2 (0 + 1 + 1) false (by omega) (fun y hy => Or.inl (ir y (List.mem_cons_of_mem _ hy))), List.append_nil]
      rfl
  unfold acB
  rw [show fLn (.inner x1 l1 u1 c1 r1) = 1 + fLn r1 from rfl, o1, prF_op ia (by omega) (by omega) h12 h14, a0, List.nil_append, List.append_assoc, key]
  show _ = coB tx n l1 c1 ++ (kTok 1012 :: acT tx n r1)
  unfold coB opT
  by_cases h21 : l1.1 = 21
  · rw [if_pos h21, if_pos h21, if_pos h21]
    rfl
  · rw [if_neg h21, if_neg h21, if_neg h21]
    rfl
theorem ch_pr {l : tLb} (e : l.1 = 14) : ∀ (f : tF) (r : Int), 2 ≤ r → (∀ x ∈ fK f, x = 15) → gF tx n f → prF tx n l r false false f = chT tx n f := by
  intro f
  induction f with
  | leaf => intro r _ _ _; rfl
  | inner x l1 u ch re i1 i2 =>
    intro r hr hk hF
    obtain ⟨f1, f2, f3, f4, f5⟩ := hF
    have h15 : l1.1 = 15 := hk l1.1 (List.mem_cons_self ..)
    have r1 : ¬ r = 1 := by omega
    have a : ahd tx n l r l1.1 = [] := by simp [ahd, ahH, e, r1]
    rw [prF_s (by omega) (by omega) (by omega), a, co_pr h15 f2 f4, i2 (r + 1) (by omega) (fun y hy => hk y (List.mem_cons_of_mem _ hy)) f5]
    rfl
theorem ch_prc {l : tLb} (e : l.1 = 14) (f : tF) (hk : ∀ x ∈ fK f, x = 15) (hF : gF tx n f) : prF tx n l (0 + 1) false false f ++ clS 0 0 l (1 + fLn f) = [([41], false)] ++ ([([123], false)] ++ (chT tx n f ++ [([125], false)])) := by
  cases f with
  | leaf =>
    have : clS 0 0 l (1 + fLn .leaf) = [kTok 1010, kTok 1011, kTok 1007] := by simp [clS, e, fLn]
    rw [this]
    rfl
  | inner x l1 u ch re =>
    obtain ⟨f1, f2, f3, f4, f5⟩ := hF
    have fl := fLn_0 re
    have m1 : ¬ 1 + fLn (.inner x l1 u ch re) = 1 := by
      show ¬ 1 + (1 + fLn re) = 1
      omega
    have o2 : clS 0 0 l (1 + fLn (.inner x l1 u ch re)) = [([125], false)] := by
      simp only [clS, e]
      simp [m1, k1007]
    have h15 : l1.1 = 15 := hk l1.1 (List.mem_cons_self ..)
    have a : ahd tx n l (0 + 1) l1.1 = [([41], false), ([123], false)] := by simp [ahd, ahH, e, k1010, k1011]
    rw [o2, prF_s (by omega) (by omega) (by omega), a, co_pr h15 f2 f4, ch_pr e re (0 + 1 + 1) (by decide) (fun y hy => hk y (List.mem_cons_of_mem _ hy)) f5]
    show _ = [([41], false)] ++ ([([123], false)] ++ ((coT tx n ch ++ chT tx n re) ++ [([125], false)]))
    simp
theorem AL_14 (ht : tOk tx n) {T : tT} {o1 : Option cm_V} {k : Int} {l : tLb} {ch : tF} (k0 : 0 ≤ k) (k1 : k < tSz T) (hl : nLb (nT T k) = l) (hch : nCh (nT T k) = ch) (hS : SVd tx n T o1 (k + 1) ch) (g1 : gT tx n l) (g2 : gC l.1 (fK ch)) (g3 : gW l ch) (g4 : gF tx n ch) (k9 : k + 1 + fSz ch ≤ tSz T) (e : l.1 = 14) : AL tx n T o1 k l ch := by
  have g2' : ∃ a r, fK ch = a :: r ∧ isE a ∧ ∀ x ∈ r, x = 15 := by
    unfold gC at g2
    rw [e] at g2
    exact g2
  obtain ⟨a, r, em, ia, ir⟩ := g2'
  obtain ⟨x1, l1, u1, c1, r1, rfl, q1, em1⟩ := fK_cons em
  obtain ⟨v1, w1, T1, S1⟩ := hS
  obtain ⟨h11, h12, h13, h14, h15⟩ := g4
  have A1 := fAt_ch (T := T) k0 k1
  rw [hch] at A1
  have z1 := fSz_0 c1
  have zr := fSz_0 r1
  simp only [fSz_in] at k9
  have tw1 := tWt_0 h11 h12 h14
  have bb1 := bB_0 l.1 (lbC l) (0) l1 c1
  have fw0 := fWt_0 r1 l.1 (lbC l) (0 + 1) h15
  have flr := fLn_0 r1
  intro K hr
  have wt : tWt (l, .inner x1 l1 u1 c1 r1) = tOw l (fLn (.inner x1 l1 u1 c1 r1)) + (tWt (l1, c1) + bB l.1 (lbC l) (0) l1 c1 + fWt l.1 (lbC l) (0 + 1) r1) := rfl
  rw [wt] at hr
  have ow : tOw l (fLn (.inner x1 l1 u1 c1 r1)) = 16 := by simp [tOw, e]
  rw [ow] at hr
  have kd : ∀ r, rJ tx n r T → r.2 47 (nO T k) = l.1 := fun r h => by rw [h.kd k0 k1, hl]
  rw [← q1] at ia
  rw [← em1] at ir
  have A2 := fAt_nx A1 (by omega) (by omega)
  have hr14 : ((((1, 125, 0) :: K : List pE).length : Nat) : Int) + 1 + fWt 14 (lbC l) (0 + 1) r1 ≤ 1000 := by
    rw [e] at hr bb1 fw0
    simp only [List.length_cons]
    omega
  refine A_of (a := [(wdS.getD 18 [], false)]) (b := ([([40], false)] ++ (vT tx n l1 c1 false (vBr l1 0 false false) ++ [([41], false)])) ++ ([([123], false)] ++ (chT tx n r1 ++ [([125], false)]))) (K1 := (1, 40, 0) :: (3, nO T (k + 1), asW 0 false false) :: (1, 41, 0) :: (1, 123, 0) :: (12, nNum T (k + 1 + 1 + fSz c1) r1, 0) :: (1, 125, 0) :: K) (by omega) ?_ ?_ ?_
  · refine QM_eq (fun r h => r_285 h k0 k1 hl (by omega) (h.f5 hch k0 k1)) (QM_tl ?_)
    refine QM_wo (w := 18) (by decide) (fun r h => by
      rw [cS_289, cF_289_0, if_pos (h.no (by omega) (by omega)), if_pos (h.no k0 k1), kd r h, if_neg (by omega), if_neg (by omega), if_neg (by omega), if_neg (by omega), if_neg (by omega), if_pos e, (h.nf A1 (by omega) (by omega)).1] <;> rfl) ?_
    exact QM_pl (by omega) (fun r h => rfl) (QM_pl (by simp only [List.length_cons]; omega) (fun r h => rfl) (QM_pl (by simp only [List.length_cons]; omega) (fun r h => rfl) (QM_ib (by simp only [List.length_cons]; omega) (fun r h => rfl) (QM_nd fun r h => rfl))))
  · refine PT_tr (PT_ib (v1 ia) (pk := l.1) (c := lbC l) (i := 0) (by omega) (by simp only [List.length_cons]; omega) (by simp only [List.length_cons]; omega)) (PT_tr (PT_1 (by simp only [List.length_cons]; omega) (by decide)) (PT_tr (PT_12f ht r1 (k + 1 + 1 + fSz c1) (0 + 1) ((1, 125, 0) :: K) A2 S1 h15 ir (by omega) (by omega) hr14) (PT_1 (by omega) (by decide))))
  · unfold acB
    have o1 : opn tx n l (fK0 (.inner x1 l1 u1 c1 r1)) = [(wdS.getD 18 [], false), ([40], false)] := by simp [opn, opS, opH, e]; decide
    have o3 : ahd tx n l 0 l1.1 = [] := by simp [ahd, ahH, e]
    rw [show fLn (.inner x1 l1 u1 c1 r1) = 1 + fLn r1 from rfl, prF_e ia (by omega) (by omega) h12 h14, o1, o3]
    simp only [List.nil_append, List.append_assoc]
    rw [ch_prc e r1 ir h15]
    simp
theorem acB_21 {l : tLb} {ch : tF} (e : l.1 = 21) (g2 : gC l.1 (fK ch)) : acB tx n l ch = [] := by
  have : ch = .leaf := fK_nil ((gC_hd g2).2.2.2.2.2 e)
  rw [this]
  have o1 : opn tx n l (fK0 .leaf) = [] := by simp [opn, opS, opH, e]
  have o2 : clS 0 0 l (fLn .leaf) = [] := by simp [clS, e]
  unfold acB
  rw [o1, o2]
  rfl
def brK (T : tT) (k : Int) (ch : tF) (K : List pE) : List pE := (1, 123, 0) :: (5, nNum T (k + 1) ch, 0) :: (1, 125, 0) :: K
/-- CATCH -/
theorem acB_19 {l : tLb} {ch : tF} (e : l.1 = 19) (g2 : gC l.1 (fK ch)) (g4 : gF tx n ch) : ∃ x b u c, ch = .inner x b u c .leaf ∧ b.1 = 1 ∧ acB tx n l ch = [(wdS.getD 2 [], false)] ++ ([([40], false)] ++ (xTk tx n l false ++ ([([41], false)] ++ acB tx n b c))) := by
  have g2' : fK ch = [1] := by
    unfold gC at g2
    rw [e] at g2
    exact g2
  obtain ⟨x1, l1, u1, c1, r1, rfl, q1, em1⟩ := fK_cons g2'
  have := fK_nil em1
  subst this
  refine ⟨x1, l1, u1, c1, rfl, q1, ?_⟩
  have o1 : opn tx n l (fK0 (.inner x1 l1 u1 c1 .leaf)) = [(wdS.getD 2 [], false)] ++ ([([40], false)] ++ (xTk tx n l false ++ [([41], false)])) := by
    simp [opn, opS, opH, e, k1009, k1010]
    rfl
  have o2 : clS 0 0 l (fLn (.inner x1 l1 u1 c1 .leaf)) = [] := by simp [clS, e]
  have o3 : ahd tx n l 0 l1.1 = [] := by simp [ahd, ahH, e]
  rw [show acB tx n l (.inner x1 l1 u1 c1 .leaf) = opn tx n l (fK0 (.inner x1 l1 u1 c1 .leaf)) ++ (prF tx n l 0 false false (.inner x1 l1 u1 c1 .leaf) ++ clS 0 0 l (fLn (.inner x1 l1 u1 c1 .leaf))) from rfl, prF_s (by omega) (by omega) (by omega), o1, o2, o3]
  simp [prF]
theorem AL_18 (ht : tOk tx n) {T : tT} {o1 : Option cm_V} {k : Int} {l : tLb} {ch : tF} (k0 : 0 ≤ k) (k1 : k < tSz T) (hl : nLb (nT T k) = l) (hch : nCh (nT T k) = ch) (hS : SVd tx n T o1 (k + 1) ch) (g1 : gT tx n l) (g2 : gC l.1 (fK ch)) (g3 : gW l ch) (g4 : gF tx n ch) (k9 : k + 1 + fSz ch ≤ tSz T) (e : l.1 = 18) : AL tx n T o1 k l ch := by
  have g2' : ∃ b c, fK ch = [1, b, c] ∧ (b = 19 ∨ b = 21) ∧ (c = 1 ∨ c = 21) := by
    unfold gC at g2
    rw [e] at g2
    exact g2
  obtain ⟨b, c, em, ib, ic⟩ := g2'
  obtain ⟨x1, l1, u1, c1, r1, rfl, q1, em1⟩ := fK_cons em
  obtain ⟨x2, l2, u2, c2, r2, rfl, q2, em2⟩ := fK_cons em1
  obtain ⟨x3, l3, u3, c3, r3, rfl, q3, em3⟩ := fK_cons em2
  have := fK_nil em3
  subst this
  obtain ⟨v1, w1, T1, S1⟩ := hS
  obtain ⟨h11, h12, h13, h14, h15⟩ := g4
  obtain ⟨v2, w2, T2, S2⟩ := S1
  obtain ⟨h21, h22, h23, h24, h25⟩ := h15
  obtain ⟨v3, w3, T3, S3⟩ := S2
  obtain ⟨h31, h32, h33, h34, h35⟩ := h25
  have A1 := fAt_ch (T := T) k0 k1
  rw [hch] at A1
  have z1 := fSz_0 c1
  have z2 := fSz_0 c2
  have z3 := fSz_0 c3
  simp only [fSz_in, fSz_lf] at k9
  have A2 := fAt_nx A1 (by omega) (by omega)
  have A3 := fAt_nx A2 (by omega) (by omega)
  have tw1 := tWt_0 h11 h12 h14
  have bb1 := bB_0 l.1 (lbC l) (0) l1 c1
  have tw2 := tWt_0 h21 h22 h24
  have bb2 := bB_0 l.1 (lbC l) (0 + 1) l2 c2
  have tw3 := tWt_0 h31 h32 h34
  have bb3 := bB_0 l.1 (lbC l) (0 + 1 + 1) l3 c3
  intro K hr
  have wt : tWt (l, .inner x1 l1 u1 c1 (.inner x2 l2 u2 c2 (.inner x3 l3 u3 c3 .leaf))) = tOw l (fLn (.inner x1 l1 u1 c1 (.inner x2 l2 u2 c2 (.inner x3 l3 u3 c3 .leaf)))) + (tWt (l1, c1) + bB l.1 (lbC l) (0) l1 c1 + (tWt (l2, c2) + bB l.1 (lbC l) (0 + 1) l2 c2 + (tWt (l3, c3) + bB l.1 (lbC l) (0 + 1 + 1) l3 c3 + 0))) := rfl
  rw [wt] at hr
  have ow : tOw l (fLn (.inner x1 l1 u1 c1 (.inner x2 l2 u2 c2 (.inner x3 l3 u3 c3 .leaf)))) = 13 := by simp [tOw, e]
  rw [ow] at hr
  have kd : ∀ r, rJ tx n r T → r.2 47 (nO T k) = l.1 := fun r h => by rw [h.kd k0 k1, hl]
  rw [← q2] at ib
  rw [← q3] at ic
  have A1c := fAt_ch (T := T) (i := k + 1) (by omega) (by omega)
  have A2c := fAt_ch (T := T) (i := k + 1 + 1 + fSz c1) (by omega) (by omega)
  have A3c := fAt_ch (T := T) (i := k + 1 + 1 + fSz c1 + 1 + fSz c2) (by omega) (by omega)
  rw [(fAt_in A1).2.1] at A1c
  rw [(fAt_in A2).2.1] at A2c
  rw [(fAt_in A3).2.1] at A3c
  obtain ⟨b1, y1⟩ := acB_1 (tx := tx) (n := n) q1 h12
  have wt1 : tWt (l1, c1) = tOw l1 (fLn c1) + fWt l1.1 (lbC l1) 0 c1 := rfl
  have ow1 : tOw l1 (fLn c1) = 3 := by simp [tOw, q1]
  have f01 := fWt_0 c1 l1.1 (lbC l1) 0 h14
  -- the catch: what stands on the list, what it prints
  obtain ⟨CK, cq, cp, cl⟩ : ∃ CK : List pE → List pE, (∀ K', (K'.length : Int) + 12 + tWt (l1, c1) + tWt (l2, c2) ≤ 1000 → QM tx n T (fun s => if (0 : Int) ≤ nO T (k + 1 + 1 + fSz c1) ∧ nO T (k + 1 + 1 + fSz c1) < 500 then (if (s.2 47 (nO T (k + 1 + 1 + fSz c1))) = 21 then cm_bv (cm_sem 286 [.inr (.inl 41), .inl (nO T (k + 1))] s) fun s2 => some (.inl none, s2) else if (0 : Int) ≤ nO T (k + 1 + 1 + fSz c1) ∧ nO T (k + 1 + 1 + fSz c1) < 500 then cm_bv (cm_sem 286 [.inr (.inl 41), .inl (s.2 50 (nO T (k + 1 + 1 + fSz c1)))] s) fun s3 => cm_bv (cm_sem 271 [.inr (.inl 41), .inl 1, .inl 41, .inl 0] s3) fun s4 => cm_bv (cm_sem 271 [.inr (.inl 41), .inl 8, .inl (nO T (k + 1 + 1 + fSz c1)), .inl 0] s4) fun s5 => cm_bv (cm_sem 271 [.inr (.inl 41), .inl 1, .inl 40, .inl 0] s5) fun s6 => cm_bv (cm_sem 271 [.inr (.inl 41), .inl 2, .inl 2, .inl 0] s6) fun s7 => cm_bv (cm_sem 286 [.inr (.inl 41), .inl (nO T (k + 1))] s7) fun s8 => some (.inl none, s8) else none) else none) K' [] (brK T (k + 1) c1 (CK K'))) ∧ (∀ K', (K'.length : Int) + 12 + tWt (l1, c1) + tWt (l2, c2) ≤ 1000 → PT tx n T o1 (CK K') (acB tx n l2 c2) K') ∧ (∀ K', ((CK K').length : Int) + 3 + tWt (l1, c1) ≤ K'.length + 12 + tWt (l1, c1) + tWt (l2, c2)) := by
    by_cases hz : l2.1 = 21
    · refine ⟨fun K' => K', fun K' hr => ?_, fun K' hr => ?_, fun K' => ?_⟩
      · exact QM_br' (by omega) (by omega) (fAt_in A1).2.1 (by omega) (fun r h => by
          rw [if_pos (h.no (by omega) (by omega)), (h.nf A2 (by omega) (by omega)).2.2.1, if_pos hz]) (QM_nd fun r h => rfl)
      · rw [acB_21 hz h22]
        exact PT_rf
      · show ((K'.length : Nat) : Int) + 3 + tWt (l1, c1) ≤ _
        omega
    · have e19 : l2.1 = 19 := ib.resolve_right hz
      have ln := gT_len ht h21 (by omega)
      obtain ⟨xb, lb, ub, cb, rfl, qb, eb⟩ := acB_19 (tx := tx) (n := n) e19 h22 h24
      obtain ⟨p1, p2, p3, p4, p5⟩ := h24
      obtain ⟨-, -, Tb, -⟩ := T2
      obtain ⟨bb, yb⟩ := acB_1 (tx := tx) (n := n) qb p2
      have zb := fSz_0 cb
      simp only [fSz_in, fSz_lf] at k9
      have Ab := fAt_ch (T := T) (i := k + 1 + 1 + fSz c1 + 1) (by omega) (by omega)
      rw [(fAt_in A2c).2.1] at Ab
      have wt2 : tWt (l2, .inner xb lb ub cb .leaf) = tOw l2 (fLn (.inner xb lb ub cb .leaf)) + (tWt (lb, cb) + bB l2.1 (lbC l2) 0 lb cb + 0) := rfl
      have ow2 : tOw l2 (fLn (.inner xb lb ub cb .leaf)) = 7 + 2 * lbN l2 := by simp [tOw, e19]
      have wtb : tWt (lb, cb) = tOw lb (fLn cb) + fWt lb.1 (lbC lb) 0 cb := rfl
      have owb : tOw lb (fLn cb) = 3 := by simp [tOw, qb]
      have f0b := fWt_0 cb lb.1 (lbC lb) 0 p4
      have bbb := bB_0 l2.1 (lbC l2) 0 lb cb
      refine ⟨fun K' => (2, 2, 0) :: (1, 40, 0) :: (8, nO T (k + 1 + 1 + fSz c1), 0) :: (1, 41, 0) :: brK T (k + 1 + 1 + fSz c1 + 1) cb K', fun K' hr => ?_, fun K' hr => ?_, fun K' => ?_⟩
      · refine QM_br' (k := k + 1 + 1 + fSz c1 + 1) (by omega) (by omega) (fAt_in A2c).2.1 (by omega) (fun r h => by
          rw [if_pos (h.no (by omega) (by omega)), (h.nf A2 (by omega) (by omega)).2.2.1, if_neg hz, if_pos (h.no (by omega) (by omega)), h.f5 (fAt_in A2).2.1 (by omega) (by omega)]) ?_
        refine QM_pl (by simp only [List.length_cons]; omega) (fun r h => rfl) (QM_pl (by simp only [List.length_cons]; omega) (fun r h => rfl) (QM_pl (by simp only [List.length_cons]; omega) (fun r h => rfl) (QM_pl (by simp only [List.length_cons]; omega) (fun r h => rfl) ?_)))
        exact QM_br' (by omega) (by omega) (fAt_in A1).2.1 (by simp only [List.length_cons]; omega) (fun r h => rfl) (QM_nd fun r h => rfl)
      · rw [eb, bb]
        unfold brK
        refine PT_tr (PT_2 (w := 2) (by simp only [List.length_cons]; omega) (by decide)) (PT_tr (PT_1 (by simp only [List.length_cons]; omega) (by decide)) (PT_tr (PT_tk ht (by omega) (by omega) (fAt_in A2).1 ln (by omega) (by simp only [List.length_cons]; omega)) (PT_tr (PT_1 (by simp only [List.length_cons]; omega) (by decide)) ?_)))
        exact PT_br (pk := lb.1) (c := lbC lb) (i := 0) Ab Tb p4 yb (by omega) (by omega) (by omega)
      · unfold brK
        simp only [List.length_cons]
        omega
  -- the block behind finally
  have wt3 : tWt (l3, c3) = tOw l3 (fLn c3) + fWt l3.1 (lbC l3) 0 c3 := rfl
  have f03 := fWt_0 c3 l3.1 (lbC l3) 0 h34
  have last : ∃ FK : List pE, QM tx n T (fun r => cm_sem 293 [.inr (.inl 41), .inl (nO T (k + 1)), .inl (nO T (k + 1 + 1 + fSz c1)), .inl (nO T (k + 1 + 1 + fSz c1 + 1 + fSz c2))] r) K [(wdS.getD 22 [], false)] (brK T (k + 1) c1 (CK FK)) ∧ PT tx n T o1 (CK FK) (acB tx n l2 c2 ++ (ahd tx n l (0 + 1 + 1) l3.1 ++ acB tx n l3 c3)) K ∧ (FK.length : Int) + 12 + tWt (l1, c1) + tWt (l2, c2) ≤ 1000 := by
    by_cases hz : l3.1 = 21
    · refine ⟨K, ?_, ?_, by omega⟩
      · refine QM_wo (w := 22) (by decide) (fun r h => by rw [cS_293, cF_293_0] <;> rfl) (QM_eq (fun r h => ?_) (cq K (by omega)))
        rw [if_pos (h.no (by omega) (by omega)), (h.nf A3 (by omega) (by omega)).2.2.1, if_pos hz]
      · have a3 : ahd tx n l (0 + 1 + 1) l3.1 = [] := by simp [ahd, e, hz]
        rw [acB_21 hz h32, a3, List.append_nil, List.append_nil]
        exact cp K (by omega)
    · have e1 : l3.1 = 1 := ic.resolve_right hz
      obtain ⟨b3, y3⟩ := acB_1 (tx := tx) (n := n) e1 h32
      have ow3 : tOw l3 (fLn c3) = 3 := by simp [tOw, e1]
      have fkl : ((((2, 9, 0) :: brK T (k + 1 + 1 + fSz c1 + 1 + fSz c2) c3 K : List pE).length : Nat) : Int) = K.length + 4 := by
        unfold brK
        simp only [List.length_cons]
        omega
      refine ⟨(2, 9, 0) :: brK T (k + 1 + 1 + fSz c1 + 1 + fSz c2) c3 K, ?_, ?_, by omega⟩
      · refine QM_wo (w := 22) (by decide) (fun r h => by rw [cS_293, cF_293_0] <;> rfl) ?_
        refine QM_br' (k := k + 1 + 1 + fSz c1 + 1 + fSz c2) (by omega) (by omega) (fAt_in A3).2.1 (by omega) (fun r h => by
          rw [if_pos (h.no (by omega) (by omega)), (h.nf A3 (by omega) (by omega)).2.2.1, if_neg hz]) ?_
        exact QM_pl (by simp only [List.length_cons]; omega) (fun r h => rfl) (cq _ (by simp only [List.length_cons]; omega))
      · have a3 : ahd tx n l (0 + 1 + 1) l3.1 = [(wdS.getD 9 [], false)] := by
          simp [ahd, e, e1]
          rfl
        rw [a3, b3]
        refine PT_tr (cp _ (by omega)) (PT_tr (PT_2 (w := 9) (by unfold brK; simp only [List.length_cons]; omega) (by decide)) ?_)
        exact PT_br (pk := l3.1) (c := lbC l3) (i := 0) A3c T3 h34 y3 (by omega) (by omega) (by omega)
  obtain ⟨FK, lq, lp, lr⟩ := last
  have cl' := cl FK
  refine A_of (a := [(wdS.getD 22 [], false)]) (b := acB tx n l1 c1 ++ (acB tx n l2 c2 ++ (ahd tx n l (0 + 1 + 1) l3.1 ++ acB tx n l3 c3))) (K1 := brK T (k + 1) c1 (CK FK)) (by omega) ?_ ?_ ?_
  · refine QM_eq (fun r h => r_285 h k0 k1 hl (by omega) (h.f5 hch k0 k1)) (QM_tl (QM_eq (fun r h => ?_) (QM_tl lq)))
    rw [cS_289, cF_289_0, if_pos (h.no (by omega) (by omega)), if_pos (h.no k0 k1), kd r h, if_neg (by omega), if_neg (by omega), if_neg (by omega), if_neg (by omega), if_neg (by omega), if_neg (by omega), h.n5 A1 (by omega) (by omega), if_pos (h.no (by omega) (by omega)), h.n5 A2 (by omega) (by omega)]
  · rw [b1]
    exact PT_tr (PT_br (pk := l1.1) (c := lbC l1) (i := 0) A1c T1 h14 y1 (by omega) (by omega) (by omega)) lp
  · have o1 : opn tx n l (fK0 (.inner x1 l1 u1 c1 (.inner x2 l2 u2 c2 (.inner x3 l3 u3 c3 .leaf)))) = [(wdS.getD 22 [], false)] := by simp [opn, opS, e]; rfl
    have o3 : ahd tx n l 0 l1.1 = [] := by simp [ahd, e]
    have o4 : ahd tx n l (0 + 1) l2.1 = [] := by simp [ahd, e]
    have o2 : clS 0 0 l (fLn (.inner x1 l1 u1 c1 (.inner x2 l2 u2 c2 (.inner x3 l3 u3 c3 .leaf)))) = [] := by simp [clS, e]
    rw [show acB tx n l (.inner x1 l1 u1 c1 (.inner x2 l2 u2 c2 (.inner x3 l3 u3 c3 .leaf))) = opn tx n l (fK0 (.inner x1 l1 u1 c1 (.inner x2 l2 u2 c2 (.inner x3 l3 u3 c3 .leaf)))) ++ (prF tx n l 0 false false (.inner x1 l1 u1 c1 (.inner x2 l2 u2 c2 (.inner x3 l3 u3 c3 .leaf))) ++ clS 0 0 l (fLn (.inner x1 l1 u1 c1 (.inner x2 l2 u2 c2 (.inner x3 l3 u3 c3 .leaf))))) from rfl, prF_s (by omega) (by omega) (by omega), prF_s (by omega) (by omega) (by omega), prF_s (by omega) (by omega) (by omega), o1, o2, o3, o4]
    simp [prF]
theorem AL_all (ht : tOk tx n) {T : tT} {o1 : Option cm_V} {k : Int} {l : tLb} {ch : tF} (k0 : 0 ≤ k) (k1 : k < tSz T) (hl : nLb (nT T k) = l) (hch : nCh (nT T k) = ch) (hS : SVd tx n T o1 (k + 1) ch) (g1 : gT tx n l) (g2 : gC l.1 (fK ch)) (g3 : gW l ch) (g4 : gF tx n ch) (k9 : k + 1 + fSz ch ≤ tSz T) (hS' : isS l.1 ∨ l.1 = 20) : AL tx n T o1 k l ch := by
  by_cases e1 : l.1 = 1
  · exact AL_1 ht k0 k1 hl hch hS g1 g2 g3 g4 k9 e1
  by_cases e2 : l.1 = 2
  · exact AL_2 ht k0 k1 hl hch hS g1 g2 g3 g4 k9 e2
  by_cases e4 : l.1 = 4
  · exact AL_4 ht k0 k1 hl hch hS g1 g2 g3 g4 k9 e4
  by_cases e5 : l.1 = 5
  · exact AL_5 ht k0 k1 hl hch hS g1 g2 g3 g4 k9 e5
  by_cases e6 : l.1 = 6
  · exact AL_6 ht k0 k1 hl hch hS g1 g2 g3 g4 k9 e6
  by_cases e7 : l.1 = 7
  · exact AL_7 ht k0 k1 hl hch hS g1 g2 g3 g4 k9 e7
  by_cases e8 : l.1 = 8
  · exact AL_8 ht k0 k1 hl hch hS g1 g2 g3 g4 k9 e8
  by_cases e9 : l.1 = 9
  · exact AL_9 ht k0 k1 hl hch hS g1 g2 g3 g4 k9 e9
  by_cases e10 : l.1 = 10
  · exact AL_10 ht k0 k1 hl hch hS g1 g2 g3 g4 k9 e10
  by_cases e11 : l.1 = 11
  · exact AL_11 ht k0 k1 hl hch hS g1 g2 g3 g4 k9 e11
  by_cases e12 : l.1 = 12
  · exact AL_12 ht k0 k1 hl hch hS g1 g2 g3 g4 k9 e12
  by_cases e13 : l.1 = 13
  · exact AL_13 ht k0 k1 hl hch hS g1 g2 g3 g4 k9 e13
  by_cases e14 : l.1 = 14
  · exact AL_14 ht k0 k1 hl hch hS g1 g2 g3 g4 k9 e14
  by_cases e16 : l.1 = 16
  · exact AL_16 ht k0 k1 hl hch hS g1 g2 g3 g4 k9 e16
  by_cases e17 : l.1 = 17
  · exact AL_17 ht k0 k1 hl hch hS g1 g2 g3 g4 k9 e17
  by_cases e18 : l.1 = 18
  · exact AL_18 ht k0 k1 hl hch hS g1 g2 g3 g4 k9 e18
  by_cases e20 : l.1 = 20
  · exact AL_20 ht k0 k1 hl hch hS g1 g2 g3 g4 k9 e20
  exfalso
  unfold isS at hS'
  omega
/-- every node of a forest that stands in the tree is printed so -/
theorem SV_all (ht : tOk tx n) {T : tT} {o1 : Option cm_V} : ∀ (f : tF) (k : Int), 0 ≤ k → k + fSz f ≤ tSz T → fAt T k f → gF tx n f → SVd tx n T o1 k f := by
  intro f
  induction f with
  | leaf => intro k _ _ _ _; trivial
  | inner x l u ch re i1 i2 =>
    intro k k0 k9 hA hF
    have e : fSz (.inner x l u ch re) = 1 + fSz ch + fSz re := rfl
    have c0 := fSz_0 ch
    have r0 := fSz_0 re
    have k1 : k < tSz T := by omega
    obtain ⟨hl, hch, hre⟩ := fAt_in hA
    obtain ⟨f1, f2, f3, f4, f5⟩ := hF
    have fc := fAt_ch (T := T) k0 k1
    rw [hch] at fc
    have S1 := i1 (k + 1) (by omega) (by omega) fc f4
    have S2 := i2 (k + 1 + fSz ch) (by omega) (by omega) (fAt_nx hA k0 k1) f5
    exact ⟨fun hE => V_of ht k0 k1 hl (tWs ht hE f1 f2 f4) (BO_all ht k0 k1 hl hch S1 f1 f2 f4 (by omega) hE), fun hs => AL_all ht k0 k1 hl hch S1 f1 f2 f3 f4 (by omega) hs, S1, S2⟩
end TXb4
