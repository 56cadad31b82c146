/-! ===== the reference's printer: expressions ===== -/
section TXa9
variable {tx : Int → Int} {n : Int}
theorem fAt_nx {T : tT} {k : Int} {x : Nat} {l : tLb} {u : Unit} {ch re : tF} (hA : fAt T k (.inner x l u ch re)) (k0 : 0 ≤ k) (k1 : k < tSz T) : fAt T (k + 1 + fSz ch) re := by
  obtain ⟨hl, hch, hre⟩ := fAt_in hA
  have fr := fAt_re (T := T) k0 k1
  rw [hch, hre] at fr
  exact fr
theorem rJ.n5 {r : cm_S} {T : tT} (h : rJ tx n r T) {k : Int} {x y : Nat} {l l' : tLb} {u u' : Unit} {ch ch' re' : tF} (hA : fAt T k (.inner x l u ch (.inner y l' u' ch' re'))) (k0 : 0 ≤ k) (k1 : k < tSz T) : r.2 51 (nO T k) = nO T (k + 1 + fSz ch) := (h.nf hA k0 k1).1
theorem rJ.f5 {r : cm_S} {T : tT} (h : rJ tx n r T) {k : Int} {x : Nat} {l : tLb} {u : Unit} {ch re : tF} (hc : nCh (nT T k) = .inner x l u ch re) (k0 : 0 ≤ k) (k1 : k < tSz T) : r.2 50 (nO T k) = nO T (k + 1) := by
  rw [h.fn k0 k1, hc]
  rfl
theorem slF_1 {l : tLb} {ch : tF} (h : l.1 ≠ 46) : slF l ch ≤ 1 := by
  unfold slF
  rw [if_neg (fun z => h z.1)]
  split
  · decide
  · split <;> decide
theorem fSz_in (x : Nat) (l : tLb) (u : Unit) (ch re : tF) : fSz (.inner x l u ch re) = 1 + fSz ch + fSz re := rfl
theorem fSz_lf : fSz (.leaf : tF) = 0 := rfl
theorem BO_44 (ht : tOk tx n) {T : tT} {o1 : Option cm_V} {k : Int} {l : tLb} {ch : tF} (k0 : 0 ≤ k) (k1 : k < tSz T) (hl : nLb (nT T k) = l) (hch : nCh (nT T k) = ch) (hS : SVd tx n T o1 (k + 1) ch) (g1 : gT tx n l) (g2 : gC l.1 (fK ch)) (g4 : gF tx n ch) (k9 : k + 1 + fSz ch ≤ tSz T) (e : l.1 = 44) : BO tx n T o1 k l ch := by
  have g2' : ∃ a, fK ch = [a] ∧ isE a := by
    unfold gC at g2
    rw [e] at g2
    exact g2
  obtain ⟨a, em, ia⟩ := g2'
  obtain ⟨x1, l1, u1, c1, r1, rfl, q1, em1⟩ := fK_cons em
  have := fK_nil em1
  subst this
  rw [← q1] at ia
  obtain ⟨v1, -, -, S1⟩ := hS
  obtain ⟨h11, h12, -, h14, h15⟩ := g4
  have A1 := fAt_ch (T := T) k0 k1
  rw [hch] at A1
  have z1 := fSz_0 c1
  simp only [fSz_in, fSz_lf] at k9
  have tw1 := tWs ht ia h11 h12 h14
  have sl1 := slF_01 l1 c1
  have bb1 := bB_0 l.1 (lbC l) (0) l1 c1
  have sl := slF_01 l (.inner x1 l1 u1 c1 .leaf)
  intro K ni hr
  have wt : tWt (l, .inner x1 l1 u1 c1 .leaf) = tOw l (fLn (.inner x1 l1 u1 c1 .leaf)) + (tWt (l1, c1) + bB l.1 (lbC l) 0 l1 c1 + 0) := rfl
  rw [wt] at hr
  have kd : ∀ r, rJ tx n r T → r.2 47 (nO T k) = l.1 := fun r h => by rw [h.kd k0 k1, hl]
  have ln := gT_len ht g1 (by omega)
  have sle := slF_1 (l := l) (ch := .inner x1 l1 u1 c1 .leaf) (by omega)
  rw [tOw_44 e] at hr
  refine ⟨[], vT tx n l1 c1 false (vBr l1 15 false false) ++ xTk tx n l false, (3, nO T (k + 1), asW 15 false false) :: (8, nO T k, 0) :: K, ?_, ?_, ?_⟩
  · refine QM_pl (a := 8) (b := nO T k) (c := 0) (by omega) (fun r h => by
      rw [if_neg (by omega), cS_284, cF_284_0, if_pos (h.no k0 k1), h.f5 hch k0 k1, if_pos (h.no (by omega) (by omega)), r_277 ht h k0 k1, cm_bi_i, if_pos (h.no k0 k1), kd r h, e, if_pos rfl] <;> rfl) (QM_pl (by simp only [List.length_cons]; omega) (fun r h => rfl) (QM_nd fun r h => rfl))
  · exact PT_tr (VLx (v1 ia) (pk := l.1) (c := lbC l) (i := 0) (by simp [tWn, e]) (by decide) (fun z => by cases z) (by simp only [List.length_cons]; omega)) (PT_tk ht k0 k1 hl ln (by omega) (by omega))
  · rw [prF_v (ni := false) (fc := false) (w := 15) ia (by omega) (by simp [tWn, e]) (nofc (by omega) (by omega)) (Or.inr ⟨rfl, by decide⟩) h12 h14]
    have o1 : opn tx n l (fK0 (.inner x1 l1 u1 c1 .leaf)) = [] := by simp [opn, opE, e]
    have o2 : ahd tx n l 0 l1.1 = [] := by simp [ahd, ahH, e]
    have o3 : clE tx n l (fLn (.inner x1 l1 u1 c1 .leaf)) (nlF (.inner x1 l1 u1 c1 .leaf)) = xTk tx n l false := by simp [clE, e]
    rw [o1, o2, o3]
    simp [prF]
theorem BO_45 (ht : tOk tx n) {T : tT} {o1 : Option cm_V} {k : Int} {l : tLb} {ch : tF} (k0 : 0 ≤ k) (k1 : k < tSz T) (hl : nLb (nT T k) = l) (hch : nCh (nT T k) = ch) (hS : SVd tx n T o1 (k + 1) ch) (g1 : gT tx n l) (g2 : gC l.1 (fK ch)) (g4 : gF tx n ch) (k9 : k + 1 + fSz ch ≤ tSz T) (e : l.1 = 45) : BO tx n T o1 k l ch := by
  have g2' : ∃ a, fK ch = [a] ∧ isE a := by
    unfold gC at g2
    rw [e] at g2
    exact g2
  obtain ⟨a, em, ia⟩ := g2'
  obtain ⟨x1, l1, u1, c1, r1, rfl, q1, em1⟩ := fK_cons em
  have := fK_nil em1
  subst this
  rw [← q1] at ia
  obtain ⟨v1, -, -, S1⟩ := hS
  obtain ⟨h11, h12, -, h14, h15⟩ := g4
  have A1 := fAt_ch (T := T) k0 k1
  rw [hch] at A1
  have z1 := fSz_0 c1
  simp only [fSz_in, fSz_lf] at k9
  have tw1 := tWs ht ia h11 h12 h14
  have sl1 := slF_01 l1 c1
  have bb1 := bB_0 l.1 (lbC l) (0) l1 c1
  have sl := slF_01 l (.inner x1 l1 u1 c1 .leaf)
  intro K ni hr
  have wt : tWt (l, .inner x1 l1 u1 c1 .leaf) = tOw l (fLn (.inner x1 l1 u1 c1 .leaf)) + (tWt (l1, c1) + bB l.1 (lbC l) 0 l1 c1 + 0) := rfl
  rw [wt] at hr
  have kd : ∀ r, rJ tx n r T → r.2 47 (nO T k) = l.1 := fun r h => by rw [h.kd k0 k1, hl]
  have ln := gT_len ht g1 (by omega)
  rw [tOw_45 e] at hr
  refine ⟨xTk tx n l false ++ [], vT tx n l1 c1 false (vBr l1 13 false false), (3, nO T (k + 1), asW 13 false false) :: K, ?_, ?_, ?_⟩
  · have q := QM_to (X := fun r => if l.1 < 44 then cm_sem 280 [.inr (.inl 41), .inl (nO T k)] r else cm_sem 284 [.inr (.inl 41), .inl (nO T k), .inl (if ni = true then 256 else 0)] r) (K := K) (K' := (3, nO T (k + 1), asW 13 false false) :: K) (ws := []) (b := false) ht k0 k1 (by rw [hl]; exact ln) (by rw [hl]; omega) (by rw [hl]; exact (decide_eq_false (by omega)).symm) (fun r h => by
      rw [if_neg (by omega), cS_284, cF_284_0, if_pos (h.no k0 k1), h.f5 hch k0 k1, if_pos (h.no (by omega) (by omega)), r_277 ht h k0 k1, cm_bi_i, if_pos (h.no k0 k1), kd r h, e, if_neg (by decide), if_pos rfl] <;> rfl) (QM_pl (by omega) (fun r h => rfl) (QM_nd fun r h => rfl))
    rw [hl] at q
    exact q
  · exact VLx (v1 ia) (pk := l.1) (c := lbC l) (i := 0) (by simp [tWn, e]) (by decide) (fun z => by cases z) (by omega)
  · rw [prF_v (ni := false) (fc := false) (w := 13) ia (by omega) (by simp [tWn, e]) (nofc (by omega) (by omega)) (Or.inr ⟨rfl, by decide⟩) h12 h14]
    have o1 : opn tx n l (fK0 (.inner x1 l1 u1 c1 .leaf)) = xTk tx n l false := by simp [opn, opE, e]
    have o2 : ahd tx n l 0 l1.1 = [] := by simp [ahd, ahH, e]
    have o3 : clE tx n l (fLn (.inner x1 l1 u1 c1 .leaf)) (nlF (.inner x1 l1 u1 c1 .leaf)) = [] := by simp [clE, e]
    rw [o1, o2, o3]
    simp [prF]
theorem BO_46 (ht : tOk tx n) {T : tT} {o1 : Option cm_V} {k : Int} {l : tLb} {ch : tF} (k0 : 0 ≤ k) (k1 : k < tSz T) (hl : nLb (nT T k) = l) (hch : nCh (nT T k) = ch) (hS : SVd tx n T o1 (k + 1) ch) (g1 : gT tx n l) (g2 : gC l.1 (fK ch)) (g4 : gF tx n ch) (k9 : k + 1 + fSz ch ≤ tSz T) (e : l.1 = 46) : BO tx n T o1 k l ch := by
  have g2' : ∃ a b, fK ch = [a, b] ∧ isE a ∧ isE b := by
    unfold gC at g2
    rw [e] at g2
    exact g2
  obtain ⟨a, b, em, ia, ib⟩ := g2'
  obtain ⟨x1, l1, u1, c1, r1, rfl, q1, em1⟩ := fK_cons em
  obtain ⟨x2, l2, u2, c2, r2, rfl, q2, em2⟩ := fK_cons em1
  have := fK_nil em2
  subst this
  rw [← q1] at ia
  rw [← q2] at ib
  obtain ⟨v1, -, -, S1⟩ := hS
  obtain ⟨h11, h12, -, h14, h15⟩ := g4
  obtain ⟨v2, -, -, S2⟩ := S1
  obtain ⟨h21, h22, -, h24, h25⟩ := h15
  have A1 := fAt_ch (T := T) k0 k1
  rw [hch] at A1
  have z1 := fSz_0 c1
  have z2 := fSz_0 c2
  simp only [fSz_in, fSz_lf] at k9
  have A2 := fAt_nx A1 (by omega) (by omega)
  have tw1 := tWs ht ia h11 h12 h14
  have sl1 := slF_01 l1 c1
  have bb1 := bB_0 l.1 (lbC l) (0) l1 c1
  have tw2 := tWs ht ib h21 h22 h24
  have sl2 := slF_01 l2 c2
  have bb2 := bB_0 l.1 (lbC l) (0 + 1) l2 c2
  have sl := slF_01 l (.inner x1 l1 u1 c1 (.inner x2 l2 u2 c2 .leaf))
  intro K ni hr
  have wt : tWt (l, .inner x1 l1 u1 c1 (.inner x2 l2 u2 c2 .leaf)) = tOw l (fLn (.inner x1 l1 u1 c1 (.inner x2 l2 u2 c2 .leaf))) + (tWt (l1, c1) + bB l.1 (lbC l) 0 l1 c1 + (tWt (l2, c2) + bB l.1 (lbC l) (0 + 1) l2 c2 + 0)) := rfl
  rw [wt] at hr
  have kd : ∀ r, rJ tx n r T → r.2 47 (nO T k) = l.1 := fun r h => by rw [h.kd k0 k1, hl]
  have ln := gT_len ht g1 (by omega)
  rw [tOw_46 e] at hr
  have i14 : slF l (.inner x1 l1 u1 c1 (.inner x2 l2 u2 c2 .leaf)) = 2 → 2 ≤ lbN l := fun z => by
    have q := (bin_tx ht g1 e).2.2.2
    by_cases h14 : lbC l = 14
    · omega
    · exfalso
      unfold slF at z
      rw [if_neg (fun y => h14 y.2)] at z
      split at z
      · omega
      · split at z <;> omega
  have st := stC_b (lbC l)
  have tb : tB l = 2 + stC (lbC l) := by simp [tB, e]
  refine ⟨[], vT tx n l1 c1 ni (vBr l1 (tB l) ni false) ++ (xTk tx n l false ++ vT tx n l2 c2 ni (vBr l2 (tB l + 1) ni false)), (3, nO T (k + 1), asW (tB l) ni false) :: (8, nO T k, 0) :: (3, nO T (k + 1 + 1 + fSz c1), asW (tB l + 1) ni false) :: K, ?_, ?_, ?_⟩
  · refine QM_pl (by omega) (fun r h => by
      rw [if_neg (by omega), cS_284, cF_284_0, if_pos (h.no k0 k1), h.f5 hch k0 k1, if_pos (h.no (by omega) (by omega)), r_277 ht h k0 k1, cm_bi_i, if_pos (h.no k0 k1), kd r h, e, if_neg (by decide), if_neg (by decide), if_pos rfl, h.n5 A1 (by omega) (by omega), hl, cm_w_id (by omega) (by omega), orW (by omega) (by omega), orW (by omega) (by omega)] <;> rfl) (QM_pl (by simp only [List.length_cons]; omega) (fun r h => rfl) (QM_pl (by simp only [List.length_cons]; omega) (fun r h => rfl) (QM_nd fun r h => rfl)))
  · exact PT_tr (VLx (v1 ia) (pk := l.1) (c := lbC l) (i := 0) (by rw [tb]; simp [tWn, e]) (by omega) (fun z => by cases z) (by simp only [List.length_cons]; omega)) (PT_tr (PT_tk ht k0 k1 hl ln (by omega) (by simp only [List.length_cons]; omega)) (VLx (v2 ib) (pk := l.1) (c := lbC l) (i := 0 + 1) (by rw [tb]; simp [tWn, e]; omega) (by omega) (fun z => by cases z) (by omega)))
  · have hd : ∀ r, hdF l.1 r ni false = ni := fun r => by cases ni <;> simp [hdF, e]
    rw [prF_v (ni := ni) (fc := false) (w := tB l) ia (by omega) (by rw [tb]; simp [tWn, e]) (nofc (by omega) (by omega)) (Or.inl (hd _)) h12 h14, prF_v (ni := ni) (fc := false) (w := tB l + 1) ib (by omega) (by rw [tb]; simp [tWn, e]; omega) (nofc (by omega) (by omega)) (Or.inl (hd _)) h22 h24]
    have o1 : opn tx n l (fK0 (.inner x1 l1 u1 c1 (.inner x2 l2 u2 c2 .leaf))) = [] := by simp [opn, opE, e]
    have o2 : ahd tx n l 0 l1.1 = [] := by simp [ahd, e]
    have o4 : ahd tx n l (0 + 1) l2.1 = xTk tx n l false := by simp [ahd, e]
    have o3 : clE tx n l (fLn (.inner x1 l1 u1 c1 (.inner x2 l2 u2 c2 .leaf))) (nlF (.inner x1 l1 u1 c1 (.inner x2 l2 u2 c2 .leaf))) = [] := by simp [clE, e]
    rw [o1, o2, o3, o4]
    simp [prF]
theorem BO_48 (ht : tOk tx n) {T : tT} {o1 : Option cm_V} {k : Int} {l : tLb} {ch : tF} (k0 : 0 ≤ k) (k1 : k < tSz T) (hl : nLb (nT T k) = l) (hch : nCh (nT T k) = ch) (hS : SVd tx n T o1 (k + 1) ch) (g1 : gT tx n l) (g2 : gC l.1 (fK ch)) (g4 : gF tx n ch) (k9 : k + 1 + fSz ch ≤ tSz T) (e : l.1 = 48) : BO tx n T o1 k l ch := by
  have g2' : ∃ a b, fK ch = [a, b] ∧ isE a ∧ isE b := by
    unfold gC at g2
    rw [e] at g2
    exact g2
  obtain ⟨a, b, em, ia, ib⟩ := g2'
  obtain ⟨x1, l1, u1, c1, r1, rfl, q1, em1⟩ := fK_cons em
  obtain ⟨x2, l2, u2, c2, r2, rfl, q2, em2⟩ := fK_cons em1
  have := fK_nil em2
  subst this
  rw [← q1] at ia
  rw [← q2] at ib
  obtain ⟨v1, -, -, S1⟩ := hS
  obtain ⟨h11, h12, -, h14, h15⟩ := g4
  obtain ⟨v2, -, -, S2⟩ := S1
  obtain ⟨h21, h22, -, h24, h25⟩ := h15
  have A1 := fAt_ch (T := T) k0 k1
  rw [hch] at A1
  have z1 := fSz_0 c1
  have z2 := fSz_0 c2
  simp only [fSz_in, fSz_lf] at k9
  have A2 := fAt_nx A1 (by omega) (by omega)
  have tw1 := tWs ht ia h11 h12 h14
  have sl1 := slF_01 l1 c1
  have bb1 := bB_0 l.1 (lbC l) (0) l1 c1
  have tw2 := tWs ht ib h21 h22 h24
  have sl2 := slF_01 l2 c2
  have bb2 := bB_0 l.1 (lbC l) (0 + 1) l2 c2
  have sl := slF_01 l (.inner x1 l1 u1 c1 (.inner x2 l2 u2 c2 .leaf))
  intro K ni hr
  have wt : tWt (l, .inner x1 l1 u1 c1 (.inner x2 l2 u2 c2 .leaf)) = tOw l (fLn (.inner x1 l1 u1 c1 (.inner x2 l2 u2 c2 .leaf))) + (tWt (l1, c1) + bB l.1 (lbC l) 0 l1 c1 + (tWt (l2, c2) + bB l.1 (lbC l) (0 + 1) l2 c2 + 0)) := rfl
  rw [wt] at hr
  have kd : ∀ r, rJ tx n r T → r.2 47 (nO T k) = l.1 := fun r h => by rw [h.kd k0 k1, hl]
  have ln := gT_len ht g1 (by omega)
  rw [tOw_48 e] at hr
  have sle : slF l (.inner x1 l1 u1 c1 (.inner x2 l2 u2 c2 .leaf)) ≤ 1 := by
    unfold slF
    rw [if_neg (by omega), if_neg (by omega)]
    split <;> omega
  refine ⟨[], vT tx n l1 c1 false (vBr l1 15 false false) ++ (xTk tx n l false ++ vT tx n l2 c2 ni (vBr l2 1 ni false)), (3, nO T (k + 1), asW 15 false false) :: (8, nO T k, 0) :: (3, nO T (k + 1 + 1 + fSz c1), asW 1 ni false) :: K, ?_, ?_, ?_⟩
  · refine QM_pl (by omega) (fun r h => by
      rw [if_neg (by omega), cS_284, cF_284_0, if_pos (h.no k0 k1), h.f5 hch k0 k1, if_pos (h.no (by omega) (by omega)), r_277 ht h k0 k1, cm_bi_i, if_pos (h.no k0 k1), kd r h, e, if_neg (by decide), if_neg (by decide), if_neg (by decide), if_neg (by decide), if_pos rfl, h.n5 A1 (by omega) (by omega), orW (by omega) (by omega)] <;> rfl) (QM_pl (by simp only [List.length_cons]; omega) (fun r h => rfl) (QM_pl (by simp only [List.length_cons]; omega) (fun r h => rfl) (QM_nd fun r h => rfl)))
  · exact PT_tr (VLx (v1 ia) (pk := l.1) (c := lbC l) (i := 0) (by simp [tWn, e]) (by omega) (fun z => by cases z) (by simp only [List.length_cons]; omega)) (PT_tr (PT_tk ht k0 k1 hl ln (by omega) (by simp only [List.length_cons]; omega)) (VLx (v2 ib) (pk := l.1) (c := lbC l) (i := 0 + 1) (by simp [tWn, e]) (by omega) (fun z => by cases z) (by omega)))
  · have hd : ∀ r, hdF l.1 r ni false = ni := fun r => by cases ni <;> simp [hdF, e]
    rw [prF_v (ni := false) (fc := false) (w := 15) ia (by omega) (by simp [tWn, e]) (nofc (by omega) (by omega)) (Or.inr ⟨rfl, by decide⟩) h12 h14, prF_v (ni := ni) (fc := false) (w := 1) ib (by omega) (by simp [tWn, e]) (nofc (by omega) (by omega)) (Or.inl (hd _)) h22 h24]
    have o1 : opn tx n l (fK0 (.inner x1 l1 u1 c1 (.inner x2 l2 u2 c2 .leaf))) = [] := by simp [opn, opE, e]
    have o2 : ahd tx n l 0 l1.1 = [] := by simp [ahd, e]
    have o4 : ahd tx n l (0 + 1) l2.1 = xTk tx n l false := by simp [ahd, e]
    have o3 : clE tx n l (fLn (.inner x1 l1 u1 c1 (.inner x2 l2 u2 c2 .leaf))) (nlF (.inner x1 l1 u1 c1 (.inner x2 l2 u2 c2 .leaf))) = [] := by simp [clE, e]
    rw [o1, o2, o3, o4]
    simp [prF]
theorem BO_40 (ht : tOk tx n) {T : tT} {o1 : Option cm_V} {k : Int} {l : tLb} {ch : tF} (k0 : 0 ≤ k) (k1 : k < tSz T) (hl : nLb (nT T k) = l) (hch : nCh (nT T k) = ch) (hS : SVd tx n T o1 (k + 1) ch) (g1 : gT tx n l) (g2 : gC l.1 (fK ch)) (g4 : gF tx n ch) (k9 : k + 1 + fSz ch ≤ tSz T) (e : l.1 = 40) : BO tx n T o1 k l ch := by
  have g2' : ∃ a b, fK ch = [a, b] ∧ isE a ∧ isE b := by
    unfold gC at g2
    rw [e] at g2
    exact g2
  obtain ⟨a, b, em, ia, ib⟩ := g2'
  obtain ⟨x1, l1, u1, c1, r1, rfl, q1, em1⟩ := fK_cons em
  obtain ⟨x2, l2, u2, c2, r2, rfl, q2, em2⟩ := fK_cons em1
  have := fK_nil em2
  subst this
  rw [← q1] at ia
  rw [← q2] at ib
  obtain ⟨v1, -, -, S1⟩ := hS
  obtain ⟨h11, h12, -, h14, h15⟩ := g4
  obtain ⟨v2, -, -, S2⟩ := S1
  obtain ⟨h21, h22, -, h24, h25⟩ := h15
  have A1 := fAt_ch (T := T) k0 k1
  rw [hch] at A1
  have z1 := fSz_0 c1
  have z2 := fSz_0 c2
  simp only [fSz_in, fSz_lf] at k9
  have A2 := fAt_nx A1 (by omega) (by omega)
  have tw1 := tWs ht ia h11 h12 h14
  have sl1 := slF_01 l1 c1
  have bb1 := bB_0 l.1 (lbC l) (0) l1 c1
  have tw2 := tWs ht ib h21 h22 h24
  have sl2 := slF_01 l2 c2
  have bb2 := bB_0 l.1 (lbC l) (0 + 1) l2 c2
  have sl := slF_01 l (.inner x1 l1 u1 c1 (.inner x2 l2 u2 c2 .leaf))
  intro K ni hr
  have wt : tWt (l, .inner x1 l1 u1 c1 (.inner x2 l2 u2 c2 .leaf)) = tOw l (fLn (.inner x1 l1 u1 c1 (.inner x2 l2 u2 c2 .leaf))) + (tWt (l1, c1) + bB l.1 (lbC l) 0 l1 c1 + (tWt (l2, c2) + bB l.1 (lbC l) (0 + 1) l2 c2 + 0)) := rfl
  rw [wt] at hr
  have kd : ∀ r, rJ tx n r T → r.2 47 (nO T k) = l.1 := fun r h => by rw [h.kd k0 k1, hl]
  rw [tOw_40 e] at hr
  refine ⟨[], vT tx n l1 c1 false (vBr l1 15 false false) ++ ([([91], false)] ++ (vT tx n l2 c2 false (vBr l2 0 false false) ++ [([93], false)])), (3, nO T (k + 1), asW 15 false false) :: (1, 91, 0) :: (3, nO T (k + 1 + 1 + fSz c1), asW 0 false false) :: (1, 93, 0) :: K, ?_, ?_, ?_⟩
  · refine QM_pl (by omega) (fun r h => by
      rw [if_pos (by omega), cS_280, cF_280_0, if_pos (h.no k0 k1), if_pos (h.no k0 k1), h.f5 hch k0 k1, kd r h, e, if_neg (by decide), if_neg (by decide), if_neg (by decide), if_neg (by decide), if_pos rfl] <;> rfl) (QM_pl (by simp only [List.length_cons]; omega) (fun r h => by
      rw [if_pos (h.no (by omega) (by omega)), h.n5 A1 (by omega) (by omega)]
      rfl) (QM_pl (by simp only [List.length_cons]; omega) (fun r h => rfl) (QM_pl (by simp only [List.length_cons]; omega) (fun r h => rfl) (QM_nd fun r h => rfl))))
  · exact PT_tr (VLx (v1 ia) (pk := l.1) (c := lbC l) (i := 0) (by simp [tWn, e]) (by omega) (fun z => by cases z) (by simp only [List.length_cons]; omega)) (PT_tr (PT_1 (by simp only [List.length_cons]; omega) (by decide)) (PT_tr (VLx (v2 ib) (pk := l.1) (c := lbC l) (i := 0 + 1) (by simp [tWn, e]) (by omega) (fun z => by cases z) (by simp only [List.length_cons]; omega)) (PT_1 (by omega) (by decide))))
  · have hd : hdF l.1 (0 + 1) ni false = false := by cases ni <;> simp [hdF, e]
    rw [prF_v (ni := false) (fc := false) (w := 15) ia (by omega) (by simp [tWn, e]) (nofc (by omega) (by omega)) (Or.inr ⟨rfl, by decide⟩) h12 h14, prF_v (ni := false) (fc := false) (w := 0) ib (by omega) (by simp [tWn, e]) (nofc (by omega) (by omega)) (Or.inl hd) h22 h24]
    have o1 : opn tx n l (fK0 (.inner x1 l1 u1 c1 (.inner x2 l2 u2 c2 .leaf))) = [] := by simp [opn, opE, e]
    have o2 : ahd tx n l 0 l1.1 = [] := by simp [ahd, e]
    have o4 : ahd tx n l (0 + 1) l2.1 = [([91], false)] := by simp [ahd, e, k1016]
    have o3 : clE tx n l (fLn (.inner x1 l1 u1 c1 (.inner x2 l2 u2 c2 .leaf))) (nlF (.inner x1 l1 u1 c1 (.inner x2 l2 u2 c2 .leaf))) = [([93], false)] := by simp [clE, e, k1006]
    rw [o1, o2, o3, o4]
    simp [prF]
theorem BO_41 (ht : tOk tx n) {T : tT} {o1 : Option cm_V} {k : Int} {l : tLb} {ch : tF} (k0 : 0 ≤ k) (k1 : k < tSz T) (hl : nLb (nT T k) = l) (hch : nCh (nT T k) = ch) (hS : SVd tx n T o1 (k + 1) ch) (g1 : gT tx n l) (g2 : gC l.1 (fK ch)) (g4 : gF tx n ch) (k9 : k + 1 + fSz ch ≤ tSz T) (e : l.1 = 41) : BO tx n T o1 k l ch := by
  have g2' : ∃ a, fK ch = [a] ∧ isE a := by
    unfold gC at g2
    rw [e] at g2
    exact g2
  obtain ⟨a, em, ia⟩ := g2'
  obtain ⟨x1, l1, u1, c1, r1, rfl, q1, em1⟩ := fK_cons em
  have := fK_nil em1
  subst this
  rw [← q1] at ia
  obtain ⟨v1, -, -, S1⟩ := hS
  obtain ⟨h11, h12, -, h14, h15⟩ := g4
  have A1 := fAt_ch (T := T) k0 k1
  rw [hch] at A1
  have z1 := fSz_0 c1
  simp only [fSz_in, fSz_lf] at k9
  have tw1 := tWs ht ia h11 h12 h14
  have sl1 := slF_01 l1 c1
  have bb1 := bB_0 l.1 (lbC l) (0) l1 c1
  have sl := slF_01 l (.inner x1 l1 u1 c1 .leaf)
  intro K ni hr
  have wt : tWt (l, .inner x1 l1 u1 c1 .leaf) = tOw l (fLn (.inner x1 l1 u1 c1 .leaf)) + (tWt (l1, c1) + bB l.1 (lbC l) 0 l1 c1 + 0) := rfl
  rw [wt] at hr
  have kd : ∀ r, rJ tx n r T → r.2 47 (nO T k) = l.1 := fun r h => by rw [h.kd k0 k1, hl]
  have ln := gT_len ht g1 (by omega)
  rw [tOw_41 e] at hr
  have sle : slF l (.inner x1 l1 u1 c1 .leaf) ≤ 1 := by
    unfold slF
    rw [if_neg (by omega), if_neg (by omega)]
    split <;> omega
  have nf : decide (l1.1 = 33) = true ↔ (l.1 = 41 ∧ l1.1 = 33 ∨ l.1 = 42 ∧ (0 : Int) = 0 ∧ tCa (l1, c1) = true) := by
    rw [decide_eq_true_iff]
    omega
  refine ⟨[], vT tx n l1 c1 false (vBr l1 15 false (decide (l1.1 = 33))) ++ ([([46], false)] ++ xTk tx n l false), (3, nO T (k + 1), asW 15 false (decide (l1.1 = 33))) :: (1, 46, 0) :: (8, nO T k, 0) :: K, ?_, ?_, ?_⟩
  · refine QM_pl (by omega) (fun r h => by
      rw [if_pos (by omega), cS_280, cF_280_0, if_pos (h.no k0 k1), if_pos (h.no k0 k1), h.f5 hch k0 k1, kd r h, e, if_neg (by decide), if_neg (by decide), if_neg (by decide), if_neg (by decide), if_neg (by decide), if_pos rfl] <;> rfl) (QM_pl (by simp only [List.length_cons]; omega) (fun r h => rfl) (QM_pl (a := 3) (b := nO T (k + 1)) (c := asW 15 false (decide (l1.1 = 33))) (g := fun s => some (.inl none, s)) (by simp only [List.length_cons]; omega) (fun r h => by
      rw [if_pos (h.no (by omega) (by omega)), (h.nf A1 (by omega) (by omega)).2.2.1]
      by_cases h33 : l1.1 = 33
      · rw [if_pos h33, decide_eq_true h33]
        rfl
      · rw [if_neg h33, decide_eq_false h33]
        rfl) (QM_nd fun r h => rfl)))
  · exact PT_tr (VLx (v1 ia) (pk := l.1) (c := lbC l) (i := 0) (by simp [tWn, e]) (by omega) (fun z => Or.inl (of_decide_eq_true z)) (by simp only [List.length_cons]; omega)) (PT_tr (PT_1 (by simp only [List.length_cons]; omega) (by decide)) (PT_tk ht k0 k1 hl ln (by omega) (by omega)))
  · rw [prF_v (ni := false) (fc := decide (l1.1 = 33)) (w := 15) ia (by omega) (by simp [tWn, e]) nf (Or.inr ⟨rfl, by decide⟩) h12 h14]
    have o1 : opn tx n l (fK0 (.inner x1 l1 u1 c1 .leaf)) = [] := by simp [opn, opE, e]
    have o2 : ahd tx n l 0 l1.1 = [] := by simp [ahd, ahH, e]
    have o3 : clE tx n l (fLn (.inner x1 l1 u1 c1 .leaf)) (nlF (.inner x1 l1 u1 c1 .leaf)) = [([46], false)] ++ xTk tx n l false := by simp [clE, e, k1008]
    rw [o1, o2, o3]
    simp [prF]
theorem BO_47 (ht : tOk tx n) {T : tT} {o1 : Option cm_V} {k : Int} {l : tLb} {ch : tF} (k0 : 0 ≤ k) (k1 : k < tSz T) (hl : nLb (nT T k) = l) (hch : nCh (nT T k) = ch) (hS : SVd tx n T o1 (k + 1) ch) (g1 : gT tx n l) (g2 : gC l.1 (fK ch)) (g4 : gF tx n ch) (k9 : k + 1 + fSz ch ≤ tSz T) (e : l.1 = 47) : BO tx n T o1 k l ch := by
  have g2' : ∃ a b c, fK ch = [a, b, c] ∧ isE a ∧ isE b ∧ isE c := by
    unfold gC at g2
    rw [e] at g2
    exact g2
  obtain ⟨a, b, c, em, ia, ib, ic⟩ := g2'
  obtain ⟨x1, l1, u1, c1, r1, rfl, q1, em1⟩ := fK_cons em
  obtain ⟨x2, l2, u2, c2, r2, rfl, q2, em2⟩ := fK_cons em1
  obtain ⟨x3, l3, u3, c3, r3, rfl, q3, em3⟩ := fK_cons em2
  have := fK_nil em3
  subst this
  rw [← q1] at ia
  rw [← q2] at ib
  rw [← q3] at ic
  obtain ⟨v1, -, -, S1⟩ := hS
  obtain ⟨h11, h12, -, h14, h15⟩ := g4
  obtain ⟨v2, -, -, S2⟩ := S1
  obtain ⟨h21, h22, -, h24, h25⟩ := h15
  obtain ⟨v3, -, -, S3⟩ := S2
  obtain ⟨h31, h32, -, h34, h35⟩ := h25
  have A1 := fAt_ch (T := T) k0 k1
  rw [hch] at A1
  have z1 := fSz_0 c1
  have z2 := fSz_0 c2
  have z3 := fSz_0 c3
  simp only [fSz_in, fSz_lf] at k9
  have A2 := fAt_nx A1 (by omega) (by omega)
  have A3 := fAt_nx A2 (by omega) (by omega)
  have tw1 := tWs ht ia h11 h12 h14
  have sl1 := slF_01 l1 c1
  have bb1 := bB_0 l.1 (lbC l) (0) l1 c1
  have tw2 := tWs ht ib h21 h22 h24
  have sl2 := slF_01 l2 c2
  have bb2 := bB_0 l.1 (lbC l) (0 + 1) l2 c2
  have tw3 := tWs ht ic h31 h32 h34
  have sl3 := slF_01 l3 c3
  have bb3 := bB_0 l.1 (lbC l) (0 + 1 + 1) l3 c3
  have sl := slF_01 l (.inner x1 l1 u1 c1 (.inner x2 l2 u2 c2 (.inner x3 l3 u3 c3 .leaf)))
  intro K ni hr
  have wt : tWt (l, .inner x1 l1 u1 c1 (.inner x2 l2 u2 c2 (.inner x3 l3 u3 c3 .leaf))) = tOw l (fLn (.inner x1 l1 u1 c1 (.inner x2 l2 u2 c2 (.inner x3 l3 u3 c3 .leaf)))) + (tWt (l1, c1) + bB l.1 (lbC l) 0 l1 c1 + (tWt (l2, c2) + bB l.1 (lbC l) (0 + 1) l2 c2 + (tWt (l3, c3) + bB l.1 (lbC l) (0 + 1 + 1) l3 c3 + 0))) := rfl
  rw [wt] at hr
  have kd : ∀ r, rJ tx n r T → r.2 47 (nO T k) = l.1 := fun r h => by rw [h.kd k0 k1, hl]
  rw [tOw_47 e] at hr
  refine ⟨[], vT tx n l1 c1 ni (vBr l1 3 ni false) ++ ([([63], false)] ++ (vT tx n l2 c2 ni (vBr l2 1 ni false) ++ ([([58], false)] ++ vT tx n l3 c3 ni (vBr l3 1 ni false)))), (3, nO T (k + 1), asW 3 ni false) :: (1, 63, 0) :: (3, nO T (k + 1 + 1 + fSz c1), asW 1 ni false) :: (1, 58, 0) :: (3, nO T (k + 1 + 1 + fSz c1 + 1 + fSz c2), asW 1 ni false) :: K, ?_, ?_, ?_⟩
  · refine QM_pl (by omega) (fun r h => by
      rw [if_neg (by omega), cS_284, cF_284_0, if_pos (h.no k0 k1), h.f5 hch k0 k1, if_pos (h.no (by omega) (by omega)), r_277 ht h k0 k1, cm_bi_i, if_pos (h.no k0 k1), kd r h, e, if_neg (by decide), if_neg (by decide), if_neg (by decide), if_pos rfl, h.n5 A1 (by omega) (by omega), if_pos (h.no (by omega) (by omega)), h.n5 A2 (by omega) (by omega), orW (by omega) (by omega), orW (by omega) (by omega)] <;> rfl) (QM_pl (by simp only [List.length_cons]; omega) (fun r h => rfl) (QM_pl (by simp only [List.length_cons]; omega) (fun r h => rfl) (QM_pl (by simp only [List.length_cons]; omega) (fun r h => rfl) (QM_pl (by simp only [List.length_cons]; omega) (fun r h => rfl) (QM_nd fun r h => rfl)))))
  · exact PT_tr (VLx (v1 ia) (pk := l.1) (c := lbC l) (i := 0) (by simp [tWn, e]) (by omega) (fun z => by cases z) (by simp only [List.length_cons]; omega)) (PT_tr (PT_1 (by simp only [List.length_cons]; omega) (by decide)) (PT_tr (VLx (v2 ib) (pk := l.1) (c := lbC l) (i := 0 + 1) (by simp [tWn, e]) (by omega) (fun z => by cases z) (by simp only [List.length_cons]; omega)) (PT_tr (PT_1 (by simp only [List.length_cons]; omega) (by decide)) (VLx (v3 ic) (pk := l.1) (c := lbC l) (i := 0 + 1 + 1) (by simp [tWn, e]) (by omega) (fun z => by cases z) (by omega)))))
  · have hd : ∀ r, hdF l.1 r ni false = ni := fun r => by cases ni <;> simp [hdF, e]
    rw [prF_v (ni := ni) (fc := false) (w := 3) ia (by omega) (by simp [tWn, e]) (nofc (by omega) (by omega)) (Or.inl (hd _)) h12 h14, prF_v (ni := ni) (fc := false) (w := 1) ib (by omega) (by simp [tWn, e]) (nofc (by omega) (by omega)) (Or.inl (hd _)) h22 h24, prF_v (ni := ni) (fc := false) (w := 1) ic (by omega) (by simp [tWn, e]) (nofc (by omega) (by omega)) (Or.inl (hd _)) h32 h34]
    have o1 : opn tx n l (fK0 (.inner x1 l1 u1 c1 (.inner x2 l2 u2 c2 (.inner x3 l3 u3 c3 .leaf)))) = [] := by simp [opn, opE, e]
    have o2 : ahd tx n l 0 l1.1 = [] := by simp [ahd, e]
    have o4 : ahd tx n l (0 + 1) l2.1 = [([63], false)] := by simp [ahd, e, k1017]
    have o5 : ahd tx n l (0 + 1 + 1) l3.1 = [([58], false)] := by simp [ahd, e, k1012]
    have o3 : clE tx n l (fLn (.inner x1 l1 u1 c1 (.inner x2 l2 u2 c2 (.inner x3 l3 u3 c3 .leaf)))) (nlF (.inner x1 l1 u1 c1 (.inner x2 l2 u2 c2 (.inner x3 l3 u3 c3 .leaf)))) = [] := by simp [clE, e]
    rw [o1, o2, o3, o4, o5]
    simp [prF]
theorem BO_30 (ht : tOk tx n) {T : tT} {o1 : Option cm_V} {k : Int} {l : tLb} {ch : tF} (k0 : 0 ≤ k) (k1 : k < tSz T) (hl : nLb (nT T k) = l) (hch : nCh (nT T k) = ch) (hS : SVd tx n T o1 (k + 1) ch) (g1 : gT tx n l) (g2 : gC l.1 (fK ch)) (g4 : gF tx n ch) (k9 : k + 1 + fSz ch ≤ tSz T) (e : l.1 = 30) : BO tx n T o1 k l ch := by
  have := fK_nil ((gC_hd g2).2.2.2.2.1 (by omega))
  subst this
  intro K ni hr
  refine ⟨[(wdS.getD 19 [], false)], [], K, ?_, PT_rf, ?_⟩
  · refine QM_wo (w := 19) (by decide) (fun r h => by
      rw [if_pos (by omega), cS_280, cF_280_0, if_pos (h.no k0 k1), if_pos (h.no k0 k1), h.kd k0 k1, hl, e, if_pos rfl]
      rfl) (QM_nd fun r h => rfl)
  · have o1 : opn tx n l (fK0 .leaf) = [kTok 1021] := by simp [opn, opE, e]
    have o3 : clE tx n l (fLn .leaf) (nlF .leaf) = [] := by simp [clE, e]
    rw [o1, o3]
    rfl
theorem BO_31 (ht : tOk tx n) {T : tT} {o1 : Option cm_V} {k : Int} {l : tLb} {ch : tF} (k0 : 0 ≤ k) (k1 : k < tSz T) (hl : nLb (nT T k) = l) (hch : nCh (nT T k) = ch) (hS : SVd tx n T o1 (k + 1) ch) (g1 : gT tx n l) (g2 : gC l.1 (fK ch)) (g4 : gF tx n ch) (k9 : k + 1 + fSz ch ≤ tSz T) (e : 31 ≤ l.1 ∧ l.1 ≤ 35) : BO tx n T o1 k l ch := by
  have := fK_nil ((gC_hd g2).2.2.2.2.1 (by omega))
  subst this
  have ln := gT_len ht g1 (by omega)
  intro K ni hr
  refine ⟨xTk tx n l (decide (l.1 = 33 ∨ l.1 = 35)) ++ [], [], K, ?_, PT_rf, ?_⟩
  · have q := QM_to (X := fun r => if l.1 < 44 then cm_sem 280 [.inr (.inl 41), .inl (nO T k)] r else cm_sem 284 [.inr (.inl 41), .inl (nO T k), .inl (if ni = true then 256 else 0)] r) (K := K) (K' := K) (ws := []) (b := decide (l.1 = 33 ∨ l.1 = 35)) ht k0 k1 (by rw [hl]; exact ln) (by rw [hl]; omega) (by rw [hl]) (fun r h => by
      rw [if_pos (by omega), cS_280, cF_280_0, if_pos (h.no k0 k1), if_pos (h.no k0 k1), h.kd k0 k1, hl, if_neg (by omega), if_neg (by omega), if_neg (by omega), if_neg (by omega), if_neg (by omega), if_neg (by omega), if_neg (by omega), if_neg (by omega)] <;> rfl) (QM_nd fun r h => rfl)
    rw [hl] at q
    exact q
  · have o1 : opn tx n l (fK0 .leaf) = xTk tx n l (decide (l.1 = 33 ∨ l.1 = 35)) := by
      have ks : l.1 = 31 ∨ l.1 = 32 ∨ l.1 = 33 ∨ l.1 = 34 ∨ l.1 = 35 := by omega
      rcases ks with e | e | e | e | e <;> simp [opn, opE, e]
    have o3 : clE tx n l (fLn .leaf) (nlF .leaf) = [] := by
      unfold clE
      rw [if_neg (by omega), if_neg (by omega), if_neg (by omega), if_neg (by omega), if_neg (by omega), if_neg (by omega), if_neg (by omega)]
    rw [o1, o3]
    simp [prF]
theorem BO_36 (ht : tOk tx n) {T : tT} {o1 : Option cm_V} {k : Int} {l : tLb} {ch : tF} (k0 : 0 ≤ k) (k1 : k < tSz T) (hl : nLb (nT T k) = l) (hch : nCh (nT T k) = ch) (hS : SVd tx n T o1 (k + 1) ch) (g1 : gT tx n l) (g2 : gC l.1 (fK ch)) (g4 : gF tx n ch) (k9 : k + 1 + fSz ch ≤ tSz T) (e : l.1 = 36) : BO tx n T o1 k l ch := by
  have A1 := fAt_ch (T := T) k0 k1
  rw [hch] at A1
  have g2' : ∀ x ∈ fK ch, isE x ∨ x = 21 := by
    unfold gC at g2
    rw [e] at g2
    exact g2
  have fl := fLn_0 ch
  have sl : slF l ch = 0 := by
    unfold slF
    rw [if_neg (by omega), if_neg (by omega)]
    have : sbN l ch = false := by
      unfold sbN
      rw [if_neg (by omega), if_neg (by omega)]
    rw [this]
    rfl
  intro K ni hr
  have wt : tWt (l, ch) = tOw l (fLn ch) + fWt l.1 (lbC l) 0 ch := rfl
  rw [wt, tOw_36 e, sl] at hr
  have f0 := fWt_0 ch l.1 (lbC l) 0 g4
  have hr' : ((((1, 93, 0) :: K : List pE).length : Nat) : Int) + 1 + fWt 36 (lbC l) 0 ch ≤ 1000 := by
    rw [e] at hr f0
    simp only [List.length_cons]
    omega
  refine ⟨[([91], false)], hoT tx n false ch ++ [([93], false)], (11, nNum T (k + 1) ch, asW 0 false false) :: (1, 93, 0) :: K, ?_, ?_, ?_⟩
  · refine QM_sg (by decide) (fun r h => by
      rw [if_pos (by omega), cS_280, cF_280_0, if_pos (h.no k0 k1), if_pos (h.no k0 k1), h.kd k0 k1, hl, e, if_neg (by decide), if_pos rfl, h.fn k0 k1, hch] <;> rfl) (QM_pl (by omega) (fun r h => rfl) (QM_pl (by simp only [List.length_cons]; omega) (fun r h => rfl) (QM_nd fun r h => rfl)))
  · exact PT_tr (PT_11 ht ch (k + 1) 0 _ false A1 hS g4 g2' (by omega) k9 hr') (PT_1 (by omega) (by decide))
  · have o1 : opn tx n l (fK0 ch) = [([91], false)] := by simp [opn, opE, e, k1016]
    have o3 : clE tx n l (fLn ch) (nlF ch) = (if nlF ch = true then [kTok 1005] else []) ++ [([93], false)] := by simp [clE, e, k1006]
    have hp := ho_pr (tx := tx) (n := n) e ch 0 ni false (by decide) g2' g4
    rw [o1, o3, ← List.append_assoc (prF tx n l 0 ni false ch), hp]
    rfl
theorem BO_37 (ht : tOk tx n) {T : tT} {o1 : Option cm_V} {k : Int} {l : tLb} {ch : tF} (k0 : 0 ≤ k) (k1 : k < tSz T) (hl : nLb (nT T k) = l) (hch : nCh (nT T k) = ch) (hS : SVd tx n T o1 (k + 1) ch) (g1 : gT tx n l) (g2 : gC l.1 (fK ch)) (g4 : gF tx n ch) (k9 : k + 1 + fSz ch ≤ tSz T) (e : l.1 = 37) : BO tx n T o1 k l ch := by
  have A1 := fAt_ch (T := T) k0 k1
  rw [hch] at A1
  have g2' : ∀ x ∈ fK ch, x = 38 := by
    unfold gC at g2
    rw [e] at g2
    exact g2
  have fl := fLn_0 ch
  have sl := slF_01 l ch
  intro K ni hr
  have wt : tWt (l, ch) = tOw l (fLn ch) + fWt l.1 (lbC l) 0 ch := rfl
  rw [wt, tOw_37 e] at hr
  have f0 := fWt_0 ch l.1 (lbC l) 0 g4
  have hr' : ((((1, 125, 0) :: K : List pE).length : Nat) : Int) + 1 + fWt 37 (lbC l) 0 ch ≤ 1000 := by
    rw [e] at hr f0
    simp only [List.length_cons]
    omega
  refine ⟨[([123], false)], paT tx n false ch ++ [([125], false)], (10, nNum T (k + 1) ch, asW 0 false false) :: (1, 125, 0) :: K, ?_, ?_, ?_⟩
  · refine QM_sg (by decide) (fun r h => by
      rw [if_pos (by omega), cS_280, cF_280_0, if_pos (h.no k0 k1), if_pos (h.no k0 k1), h.kd k0 k1, hl, e, if_neg (by decide), if_neg (by decide), if_pos rfl, h.fn k0 k1, hch] <;> rfl) (QM_pl (by omega) (fun r h => rfl) (QM_pl (by simp only [List.length_cons]; omega) (fun r h => rfl) (QM_nd fun r h => rfl)))
  · exact PT_tr (PT_10 ht ch (k + 1) 0 _ false A1 hS g4 g2' (by omega) k9 hr') (PT_1 (by omega) (by decide))
  · have o1 : opn tx n l (fK0 ch) = [([123], false)] := by simp [opn, opE, e, k1011]
    have o3 : clE tx n l (fLn ch) (nlF ch) = [([125], false)] := by simp [clE, e, k1007]
    have hp := pa_pr (tx := tx) (n := n) e ch 0 ni false (by decide) g2' g4
    rw [o1, o3, hp]
    rfl
end TXa9
