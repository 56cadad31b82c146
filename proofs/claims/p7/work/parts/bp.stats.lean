/-! ===== the reference's printer: statements ===== -/
theorem tWn_s {pk : Int} (h : pk < 30) (h3 : pk ≠ 3) (c i : Int) : tWn pk c i = 0 := by
  unfold tWn
  rw [if_neg (by omega), if_neg (by omega), if_neg (by omega), if_neg (by omega), if_neg (by omega), if_neg (by omega), if_neg (by omega)]
section TXb2
variable {tx : Int → Int} {n : Int}
theorem A_of {T : tT} {o1 : Option cm_V} {k : Int} {l : tLb} {ch : tF} {K K1 : List pE} {a b : List tok} (hK : K.length < 1000) (q1 : QM tx n T (fun r => cm_sem 285 [.inr (.inl 41), .inl (nO T k)] r) K a K1) (q2 : PT tx n T o1 K1 b K) (q3 : a ++ b = acB tx n l ch) : PT tx n T o1 ((4, nO T k, 0) :: K) (opn tx n l (fK0 ch) ++ (prF tx n l 0 false false ch ++ clS 0 0 l (fLn ch))) K := by
  show PT tx n T o1 ((4, nO T k, 0) :: K) (acB tx n l ch) K
  rw [← q3]
  exact PT_tr (PT_4 hK q1) q2
/-- printAct() up to its switch -/
theorem r_285 {r : cm_S} {T : tT} (h : rJ tx n r T) {k : Int} (k0 : 0 ≤ k) (k1 : k < tSz T) {l : tLb} (hl : nLb (nT T k) = l) (hk : l.1 = 6 ∨ l.1 = 7 ∨ l.1 = 8 ∨ l.1 = 9 ∨ l.1 = 10 ∨ l.1 = 14 ∨ l.1 = 18) {ka : Int} (hf : r.2 50 (nO T k) = ka) : cm_sem 285 [.inr (.inl 41), .inl (nO T k)] r = cm_bv (cm_sem 289 [.inr (.inl 41), .inl (nO T k), .inl ka] r) fun s => some (.inl none, s) := by
  have o := h.no k0 k1
  rw [cS_285, cF_285_0, if_pos o, if_pos o, h.kd k0 k1, hl, if_neg (by omega), if_neg (by omega), if_neg (by omega), if_neg (by omega), if_neg (by omega), if_neg (by omega), if_neg (by omega), if_neg (by omega), if_neg (by omega), if_neg (by omega), hf]
theorem prF_s {pl : tLb} {r : Int} {bp : Bool} {x : Nat} {l : tLb} {u : Unit} {ch re : tF} (hk : l.1 < 30) (p5 : pl.1 ≠ 5) (hp : ¬ ((pl.1 = 9 ∨ pl.1 = 10) ∧ r = 0)) : prF tx n pl r false bp (.inner x l u ch re) = ahd tx n pl r l.1 ++ (acB tx n l ch ++ prF tx n pl (r + 1) false bp re) := by
  have hd : hdF pl.1 r false bp = false := by
    unfold hdF
    by_cases q : pl.1 = 9 ∨ pl.1 = 10
    · rw [if_pos q]
      exact decide_eq_false (fun z => hp ⟨q, z⟩)
    · rw [if_neg q, if_pos (Or.inl rfl)]
  rw [prF_in, bdS hk p5 hd hp]
theorem prF_e {pl : tLb} {r : Int} {bp : Bool} {x : Nat} {l : tLb} {u : Unit} {ch re : tF} (hE : isE l.1) (p5 : pl.1 < 30 ∧ pl.1 ≠ 5 ∧ pl.1 ≠ 3) (hp : ¬ ((pl.1 = 9 ∨ pl.1 = 10) ∧ r = 0)) (gc : gC l.1 (fK ch)) (gf : gF tx n ch) : prF tx n pl r false bp (.inner x l u ch re) = ahd tx n pl r l.1 ++ (vT tx n l ch false (vBr l 0 false false) ++ prF tx n pl (r + 1) false bp re) := by
  have hd : hdF pl.1 r false bp = false := by
    unfold hdF
    by_cases q : pl.1 = 9 ∨ pl.1 = 10
    · rw [if_pos q]
      exact decide_eq_false (fun z => hp ⟨q, z⟩)
    · rw [if_neg q, if_pos (Or.inl rfl)]
  exact prF_v (ni := false) (fc := false) (w := 0) hE p5.2.1 (tWn_s p5.1 p5.2.2 _ _).symm (nofc (by omega) (by omega)) (Or.inl hd) gc gf
/-- braces() -/
theorem QM_br {T : tT} {k : Int} {ch : tF} {K : List pE} (k0 : 0 ≤ k) (k1 : k < tSz T) (hch : nCh (nT T k) = ch) (hK : K.length < 998) : QM tx n T (fun r => cm_sem 286 [.inr (.inl 41), .inl (nO T k)] r) K [] ((1, 123, 0) :: (5, nNum T (k + 1) ch, 0) :: (1, 125, 0) :: K) := QM_pl (by omega) (fun r h => by rw [cS_286, cF_286_0]) (QM_pl (by simp only [List.length_cons]; omega) (fun r h => by rw [if_pos (h.no k0 k1), h.fn k0 k1, hch]) (QM_pl (by simp only [List.length_cons]; omega) (fun r h => rfl) (QM_nd fun r h => rfl)))
theorem PT_br {T : tT} {o1 : Option cm_V} {k pk c i : Int} {ch : tF} {K : List pE} (hA : fAt T k ch) (hS : SVd tx n T o1 k ch) (g4 : gF tx n ch) (hk : ∀ x ∈ fK ch, isS x ∨ x = 20) (k0 : 0 ≤ k) (k9 : k + fSz ch ≤ tSz T) (hr : (K.length : Int) + 3 + fWt pk c i ch ≤ 1000) : PT tx n T o1 ((1, 123, 0) :: (5, nNum T k ch, 0) :: (1, 125, 0) :: K) ([([123], false)] ++ (acT tx n ch ++ [([125], false)])) K := by
  have f0 := fWt_0 ch pk c i g4
  exact PT_tr (PT_1 (by simp only [List.length_cons]; omega) (by decide)) (PT_tr (PT_5f (pk := pk) (c := c) ch k i _ hA hS g4 hk k0 k9 (by simp only [List.length_cons]; omega)) (PT_1 (by omega) (by decide)))
theorem acB_1 {l : tLb} {ch : tF} (e : l.1 = 1) (g2 : gC l.1 (fK ch)) : acB tx n l ch = [([123], false)] ++ (acT tx n ch ++ [([125], false)]) ∧ ∀ x ∈ fK ch, isS x ∨ x = 20 := by
  have g2' : ∀ x ∈ fK ch, isS x := by
    unfold gC at g2
    rw [e] at g2
    exact g2
  have k' : ∀ x ∈ fK ch, isS x ∨ x = 20 := fun x hx => Or.inl (g2' x hx)
  refine ⟨?_, k'⟩
  unfold acB
  rw [ac_pr (Or.inr (Or.inl e)) ch 0 false (by omega) k']
  have o1 : opn tx n l (fK0 ch) = [([123], false)] := by simp [opn, opS, e, k1011]
  have o2 : clS 0 0 l (fLn ch) = [([125], false)] := by simp [clS, e, k1007]
  rw [o1, o2]
theorem va_pr {l : tLb} (e : l.1 = 2) (ni : Bool) : ∀ (f : tF) (r : Int), 0 ≤ r → (∀ x ∈ fK f, x = 3) → gF tx n f → prF tx n l r ni false f = vaT tx n ni (decide (0 < r)) f := by
  intro f
  induction f with
  | leaf => intro r _ _ _; rfl
  | inner x l1 u ch re i1 i2 =>
    intro r h0 hk hF
    obtain ⟨f1, f2, f3, f4, f5⟩ := hF
    have h3 : l1.1 = 3 := hk l1.1 (List.mem_cons_self ..)
    have hd : hdF l.1 r ni false = ni := by cases ni <;> simp [hdF, e]
    have hd2 : hdF l1.1 0 ni false = ni := by cases ni <;> simp [hdF, h3]
    have a : ahd tx n l r l1.1 = if decide (0 < r) = true then [kTok 1005] else [] := by
      simp [ahd, e]
    have ih := i2 (r + 1) (by omega) (fun y hy => hk y (List.mem_cons_of_mem _ hy)) f5
    rw [decide_eq_true (show 0 < r + 1 by omega)] at ih
    obtain ⟨n1, n2⟩ := nbr (pl := l) (r := r) (l := l1) (ch := ch) (hd := ni) (Or.inl (by omega)) (by omega)
    have f2' : fK ch = [] ∨ ∃ a, fK ch = [a] ∧ isE a := by
      unfold gC at f2
      rw [h3] at f2
      exact f2
    have inn : prF tx n l1 0 ni false ch = viT tx n ni ch := by
      rcases f2' with z | ⟨b, z, ib⟩
      · rw [fK_nil z]
        rfl
      · obtain ⟨x1, l2, u1, c2, r2, rfl, e2, e3⟩ := fK_cons z
        have := fK_nil e3
        subst this
        obtain ⟨p1, p2, p3, p4, p5⟩ := f4
        rw [prF_v (ni := ni) (fc := false) (w := 1) (by rw [e2]; exact ib) (by omega) (by simp [tWn, h3]) (nofc (by omega) (by omega)) (Or.inl hd2) p2 p4]
        have o2 : ahd tx n l1 0 l2.1 = [kTok 1014] := by simp [ahd, h3]
        rw [o2]
        show [kTok 1014] ++ (vT tx n l2 c2 ni (vBr l2 1 ni false) ++ []) = kTok 1014 :: vT tx n l2 c2 ni (vBr l2 1 ni false)
        rw [List.append_nil]
        rfl
    rw [prF_in, a, hd, n1, n2, ih]
    unfold bdT clo
    have o1 : opn tx n l1 (fK0 ch) = xTk tx n l1 false := by simp [opn, opS, h3]
    have o3 : clS l.1 r l1 (fLn ch) = [] := by simp [clS, h3]
    rw [if_neg (show ¬ false = true by decide), if_pos (show l1.1 < 30 by omega), inn, o1, o3]
    show _ = (if decide (0 < r) = true then [kTok 1005] else []) ++ (xTk tx n l1 false ++ (viT tx n ni ch ++ vaT tx n ni true re))
    simp only [List.append_assoc, List.nil_append, List.append_nil]
theorem AL_1 (ht : tOk tx n) {T : tT} {o1 : Option cm_V} {k : Int} {l : tLb} {ch : tF} (k0 : 0 ≤ k) (k1 : k < tSz T) (hl : nLb (nT T k) = l) (hch : nCh (nT T k) = ch) (hS : SVd tx n T o1 (k + 1) ch) (g1 : gT tx n l) (g2 : gC l.1 (fK ch)) (g3 : gW l ch) (g4 : gF tx n ch) (k9 : k + 1 + fSz ch ≤ tSz T) (e : l.1 = 1) : AL tx n T o1 k l ch := by
  intro K hr
  have A1 := fAt_ch (T := T) k0 k1
  rw [hch] at A1
  obtain ⟨q1, q2⟩ := acB_1 (tx := tx) (n := n) e g2
  have wt : tWt (l, ch) = tOw l (fLn ch) + fWt l.1 (lbC l) 0 ch := rfl
  have ow : tOw l (fLn ch) = 3 := by simp [tOw, e]
  rw [wt, ow] at hr
  have f0 := fWt_0 ch l.1 (lbC l) 0 g4
  refine A_of (a := []) (by omega) (QM_eq (fun r h => ?_) (QM_tl (QM_br k0 k1 hch (by omega)))) (PT_br (pk := l.1) (c := lbC l) (i := 0) A1 hS g4 q2 (by omega) k9 (by omega)) q1.symm
  rw [cS_285, cF_285_0, if_pos (h.no k0 k1), if_pos (h.no k0 k1), h.kd k0 k1, hl, if_pos e]
theorem AL_2 (ht : tOk tx n) {T : tT} {o1 : Option cm_V} {k : Int} {l : tLb} {ch : tF} (k0 : 0 ≤ k) (k1 : k < tSz T) (hl : nLb (nT T k) = l) (hch : nCh (nT T k) = ch) (hS : SVd tx n T o1 (k + 1) ch) (g1 : gT tx n l) (g2 : gC l.1 (fK ch)) (g3 : gW l ch) (g4 : gF tx n ch) (k9 : k + 1 + fSz ch ≤ tSz T) (e : l.1 = 2) : AL tx n T o1 k l ch := by
  have g2' : fK ch ≠ [] ∧ ∀ x ∈ fK ch, x = 3 := by
    unfold gC at g2
    rw [e] at g2
    exact g2
  intro K hr
  have A1 := fAt_ch (T := T) k0 k1
  rw [hch] at A1
  have fl := fLn_0 ch
  have wt : tWt (l, ch) = tOw l (fLn ch) + fWt l.1 (lbC l) 0 ch := rfl
  have ow : tOw l (fLn ch) = 2 * fLn ch + 5 := by simp [tOw, e]
  rw [wt, ow] at hr
  have f0 := fWt_0 ch l.1 (lbC l) 0 g4
  have hr' : ((((1, 59, 0) :: K : List pE).length : Nat) : Int) + 1 + fWt 2 (lbC l) 0 ch ≤ 1000 := by
    rw [e] at hr f0
    simp only [List.length_cons]
    omega
  refine A_of (a := [(wdS.getD 24 [], false)]) (by omega) (QM_wo (w := 24) (by decide) (fun r h => by
    rw [cS_285, cF_285_0, if_pos (h.no k0 k1), if_pos (h.no k0 k1), h.kd k0 k1, hl, if_neg (by omega), if_pos e, h.fn k0 k1, hch] <;> rfl) (QM_pl (by omega) (fun r h => rfl) (QM_pl (by simp only [List.length_cons]; omega) (fun r h => rfl) (QM_nd fun r h => rfl)))) (PT_tr (PT_7 ht false ch (k + 1) 0 ((1, 59, 0) :: K) false A1 hS g4 g2'.2 (by omega) k9 hr') (PT_1 (by omega) (by decide))) ?_
  unfold acB
  rw [va_pr e false ch 0 (by decide) g2'.2 g4]
  have o1 : opn tx n l (fK0 ch) = [(wdS.getD 24 [], false)] := by simp [opn, opS, e]; rfl
  have o2 : clS 0 0 l (fLn ch) = [([59], false)] := by simp [clS, e, k1013]
  rw [o1, o2]
  rfl
theorem AL_4 (ht : tOk tx n) {T : tT} {o1 : Option cm_V} {k : Int} {l : tLb} {ch : tF} (k0 : 0 ≤ k) (k1 : k < tSz T) (hl : nLb (nT T k) = l) (hch : nCh (nT T k) = ch) (hS : SVd tx n T o1 (k + 1) ch) (g1 : gT tx n l) (g2 : gC l.1 (fK ch)) (g3 : gW l ch) (g4 : gF tx n ch) (k9 : k + 1 + fSz ch ≤ tSz T) (e : l.1 = 4) : AL tx n T o1 k l ch := by
  have g2' : fK ch = [] := by
    unfold gC at g2
    rw [e] at g2
    exact g2
  have := fK_nil g2'
  subst this
  intro K hr
  have wt : tWt (l, .leaf) = tOw l (fLn .leaf) + 0 := rfl
  have ow : tOw l (fLn .leaf) = 1 := by simp [tOw, e]
  rw [wt, ow] at hr
  refine A_of (a := [([59], false)]) (by omega) (QM_sg (by decide) (fun r h => by
    rw [cS_285, cF_285_0, if_pos (h.no k0 k1), if_pos (h.no k0 k1), h.kd k0 k1, hl, if_neg (by omega), if_neg (by omega), if_pos e] <;> rfl) (QM_nd fun r h => rfl)) PT_rf ?_
  unfold acB
  have o1 : opn tx n l (fK0 .leaf) = [] := by simp [opn, opS, opH, e]
  have o2 : clS 0 0 l (fLn .leaf) = [([59], false)] := by simp [clS, e, k1013]
  rw [o1, o2]
  rfl
theorem AL_11 (ht : tOk tx n) {T : tT} {o1 : Option cm_V} {k : Int} {l : tLb} {ch : tF} (k0 : 0 ≤ k) (k1 : k < tSz T) (hl : nLb (nT T k) = l) (hch : nCh (nT T k) = ch) (hS : SVd tx n T o1 (k + 1) ch) (g1 : gT tx n l) (g2 : gC l.1 (fK ch)) (g3 : gW l ch) (g4 : gF tx n ch) (k9 : k + 1 + fSz ch ≤ tSz T) (e : l.1 = 11) : AL tx n T o1 k l ch := by
  have g2' : fK ch = [] := by
    unfold gC at g2
    rw [e] at g2
    exact g2
  have := fK_nil g2'
  subst this
  intro K hr
  have ln := g1.2.1
  have wt : tWt (l, .leaf) = tOw l (fLn .leaf) + 0 := rfl
  have ow : tOw l (fLn .leaf) = 17 + 2 * lbN l := by simp [tOw, e]
  rw [wt, ow] at hr
  refine A_of (a := (wdS.getD 3 [], false) :: (xTk tx n l false ++ [])) (b := [([59], false)]) (K1 := (1, 59, 0) :: K) (by omega) (QM_wo (w := 3) (by decide) (fun r h => by
    rw [cS_285, cF_285_0, if_pos (h.no k0 k1), if_pos (h.no k0 k1), h.kd k0 k1, hl, if_neg (by omega), if_neg (by omega), if_neg (by omega), if_neg (by omega), if_pos e, if_pos (h.no k0 k1), if_pos e] <;> rfl) (QM_pl (by omega) (fun r h => rfl) ?_)) (PT_1 (by omega) (by decide)) ?_
  · by_cases h0 : 0 < lbN l
    · have q := QM_to (X := fun s => if (0 : Int) ≤ nO T k ∧ nO T k < 500 then (if 0 < s.2 49 (nO T k) then cm_bv (cm_sem 282 [.inr (.inl 41), .inl (nO T k)] s) fun s1 => some (.inl none, s1) else some (.inl none, s)) else none) (K := (1, 59, 0) :: K) (b := false) ht k0 k1 (by rw [hl]; exact h0) (by rw [hl]; omega) (by rw [hl]; exact (decide_eq_false (by omega)).symm) (fun r h => by rw [if_pos (h.no k0 k1), h.ln k0 k1, hl, if_pos h0]) (QM_nd fun r h => rfl)
      rw [hl] at q
      exact q
    · rw [show xTk tx n l false = [] from if_neg h0]
      exact QM_nd fun r h => by rw [if_pos (h.no k0 k1), h.ln k0 k1, hl, if_neg h0]
  · unfold acB
    have o1 : opn tx n l (fK0 .leaf) = [(wdS.getD 3 [], false)] ++ xTk tx n l false := by simp [opn, opS, e]; rfl
    have o2 : clS 0 0 l (fLn .leaf) = [([59], false)] := by simp [clS, e, k1013]
    rw [o1, o2]
    simp [prF]
theorem AL_12 (ht : tOk tx n) {T : tT} {o1 : Option cm_V} {k : Int} {l : tLb} {ch : tF} (k0 : 0 ≤ k) (k1 : k < tSz T) (hl : nLb (nT T k) = l) (hch : nCh (nT T k) = ch) (hS : SVd tx n T o1 (k + 1) ch) (g1 : gT tx n l) (g2 : gC l.1 (fK ch)) (g3 : gW l ch) (g4 : gF tx n ch) (k9 : k + 1 + fSz ch ≤ tSz T) (e : l.1 = 12) : AL tx n T o1 k l ch := by
  have g2' : fK ch = [] := by
    unfold gC at g2
    rw [e] at g2
    exact g2
  have := fK_nil g2'
  subst this
  intro K hr
  have ln := g1.2.1
  have wt : tWt (l, .leaf) = tOw l (fLn .leaf) + 0 := rfl
  have ow : tOw l (fLn .leaf) = 11 + 2 * lbN l := by simp [tOw, e]
  rw [wt, ow] at hr
  refine A_of (a := (wdS.getD 0 [], false) :: (xTk tx n l false ++ [])) (b := [([59], false)]) (K1 := (1, 59, 0) :: K) (by omega) (QM_wo (w := 0) (by decide) (fun r h => by
    rw [cS_285, cF_285_0, if_pos (h.no k0 k1), if_pos (h.no k0 k1), h.kd k0 k1, hl, if_neg (by omega), if_neg (by omega), if_neg (by omega), if_neg (by omega), if_neg (by omega), if_pos e, if_pos (h.no k0 k1), if_neg (by omega)] <;> rfl) (QM_pl (by omega) (fun r h => rfl) ?_)) (PT_1 (by omega) (by decide)) ?_
  · by_cases h0 : 0 < lbN l
    · have q := QM_to (X := fun s => if (0 : Int) ≤ nO T k ∧ nO T k < 500 then (if 0 < s.2 49 (nO T k) then cm_bv (cm_sem 282 [.inr (.inl 41), .inl (nO T k)] s) fun s1 => some (.inl none, s1) else some (.inl none, s)) else none) (K := (1, 59, 0) :: K) (b := false) ht k0 k1 (by rw [hl]; exact h0) (by rw [hl]; omega) (by rw [hl]; exact (decide_eq_false (by omega)).symm) (fun r h => by rw [if_pos (h.no k0 k1), h.ln k0 k1, hl, if_pos h0]) (QM_nd fun r h => rfl)
      rw [hl] at q
      exact q
    · rw [show xTk tx n l false = [] from if_neg h0]
      exact QM_nd fun r h => by rw [if_pos (h.no k0 k1), h.ln k0 k1, hl, if_neg h0]
  · unfold acB
    have o1 : opn tx n l (fK0 .leaf) = [(wdS.getD 0 [], false)] ++ xTk tx n l false := by simp [opn, opS, e]; rfl
    have o2 : clS 0 0 l (fLn .leaf) = [([59], false)] := by simp [clS, e, k1013]
    rw [o1, o2]
    simp [prF]
theorem AL_13 (ht : tOk tx n) {T : tT} {o1 : Option cm_V} {k : Int} {l : tLb} {ch : tF} (k0 : 0 ≤ k) (k1 : k < tSz T) (hl : nLb (nT T k) = l) (hch : nCh (nT T k) = ch) (hS : SVd tx n T o1 (k + 1) ch) (g1 : gT tx n l) (g2 : gC l.1 (fK ch)) (g3 : gW l ch) (g4 : gF tx n ch) (k9 : k + 1 + fSz ch ≤ tSz T) (e : l.1 = 13) : AL tx n T o1 k l ch := by
  have g2' : fK ch = [] ∨ ∃ a, fK ch = [a] ∧ isE a := by
    unfold gC at g2
    rw [e] at g2
    exact g2
  rcases g2' with em | ⟨a, em, ia⟩
  · have := fK_nil em
    subst this
    intro K hr
    have wt : tWt (l, .leaf) = tOw l (fLn .leaf) + 0 := rfl
    have ow : tOw l (fLn .leaf) = 13 := by simp [tOw, e]
    rw [wt, ow] at hr
    refine A_of (a := [(wdS.getD 17 [], false)]) (b := [([59], false)]) (K1 := (1, 59, 0) :: K) (by omega) (QM_wo (w := 17) (by decide) (fun r h => by
      rw [cS_285, cF_285_0, if_pos (h.no k0 k1), if_pos (h.no k0 k1), h.kd k0 k1, hl, if_neg (by omega), if_neg (by omega), if_neg (by omega), if_neg (by omega), if_neg (by omega), if_neg (by omega), if_pos e, if_pos (h.no k0 k1), if_pos e, h.fn k0 k1, hch, cE_285_96, cF_285_96] <;> rfl) (QM_pl (by omega) (fun r h => rfl) (QM_nd fun r h => by rw [if_pos (show nNum T (k + 1) .leaf = -1 from rfl)]))) (PT_1 (by omega) (by decide)) ?_
    unfold acB
    have o1 : opn tx n l (fK0 .leaf) = [(wdS.getD 17 [], false)] := by simp [opn, opS, e]; rfl
    have o2 : clS 0 0 l (fLn .leaf) = [([59], false)] := by simp [clS, e, k1013]
    rw [o1, o2]
    rfl
  · obtain ⟨x1, l1, u1, c1, r1, rfl, q1, em1⟩ := fK_cons em
    have := fK_nil em1
    subst this
    obtain ⟨v1, w1, T1, S1⟩ := hS
    obtain ⟨h11, h12, h13, h14, h15⟩ := g4
    have A1 := fAt_ch (T := T) k0 k1
    rw [hch] at A1
    have z1 := fSz_0 c1
    simp only [fSz_in, fSz_lf] at k9
    have tw1 := tWt_0 h11 h12 h14
    have bb1 := bB_0 l.1 (lbC l) (0) l1 c1
    intro K hr
    have wt : tWt (l, .inner x1 l1 u1 c1 .leaf) = tOw l (fLn (.inner x1 l1 u1 c1 .leaf)) + (tWt (l1, c1) + bB l.1 (lbC l) (0) l1 c1 + 0) := rfl
    rw [wt] at hr
    have ow : tOw l (fLn (.inner x1 l1 u1 c1 .leaf)) = 13 := by simp [tOw, e]
    rw [ow] at hr
    have kd : ∀ r, rJ tx n r T → r.2 47 (nO T k) = l.1 := fun r h => by rw [h.kd k0 k1, hl]
    rw [← q1] at ia
    refine A_of (a := [(wdS.getD 17 [], false)]) (b := vT tx n l1 c1 false (vBr l1 0 false false) ++ [([59], false)]) (K1 := (3, nO T (k + 1), asW 0 false false) :: (1, 59, 0) :: K) (by omega) (QM_wo (w := 17) (by decide) (fun r h => by
      rw [cS_285, cF_285_0, if_pos (h.no k0 k1), if_pos (h.no k0 k1), h.kd k0 k1, hl, if_neg (by omega), if_neg (by omega), if_neg (by omega), if_neg (by omega), if_neg (by omega), if_neg (by omega), if_pos e, if_pos (h.no k0 k1), if_pos e, h.f5 hch k0 k1, cE_285_96, cF_285_96] <;> rfl) (QM_pl (by omega) (fun r h => rfl) (QM_pl (by simp only [List.length_cons]; omega) (fun r h => by
      have o := h.no (i := k + 1) (by omega) (by omega)
      rw [if_neg (by omega)] <;> rfl) (QM_nd fun r h => rfl)))) (PT_tr (VLx (v1 ia) (pk := l.1) (c := lbC l) (i := 0) (tWn_s (by omega) (by omega) _ _).symm (by decide) (fun z => by cases z) (by simp only [List.length_cons]; omega)) (PT_1 (by omega) (by decide))) ?_
    unfold acB
    rw [prF_e ia (by omega) (by omega) h12 h14]
    have o1 : opn tx n l (fK0 (.inner x1 l1 u1 c1 .leaf)) = [(wdS.getD 17 [], false)] := by simp [opn, opS, e]; rfl
    have o3 : ahd tx n l 0 l1.1 = [] := by simp [ahd, ahH, e]
    have o2 : clS 0 0 l (fLn (.inner x1 l1 u1 c1 .leaf)) = [([59], false)] := by simp [clS, e, k1013]
    rw [o1, o2, o3]
    simp [prF]
theorem AL_17 (ht : tOk tx n) {T : tT} {o1 : Option cm_V} {k : Int} {l : tLb} {ch : tF} (k0 : 0 ≤ k) (k1 : k < tSz T) (hl : nLb (nT T k) = l) (hch : nCh (nT T k) = ch) (hS : SVd tx n T o1 (k + 1) ch) (g1 : gT tx n l) (g2 : gC l.1 (fK ch)) (g3 : gW l ch) (g4 : gF tx n ch) (k9 : k + 1 + fSz ch ≤ tSz T) (e : l.1 = 17) : AL tx n T o1 k l ch := by
  have g2' : ∃ a, fK ch = [a] ∧ isE a := by
    unfold gC at g2
    rw [e] at g2
    exact g2
  obtain ⟨a, em, ia⟩ := g2'
  obtain ⟨x1, l1, u1, c1, r1, rfl, q1, em1⟩ := fK_cons em
  have := fK_nil em1
  subst this
  obtain ⟨v1, w1, T1, S1⟩ := hS
  obtain ⟨h11, h12, h13, h14, h15⟩ := g4
  have A1 := fAt_ch (T := T) k0 k1
  rw [hch] at A1
  have z1 := fSz_0 c1
  simp only [fSz_in, fSz_lf] at k9
  have tw1 := tWt_0 h11 h12 h14
  have bb1 := bB_0 l.1 (lbC l) (0) l1 c1
  intro K hr
  have wt : tWt (l, .inner x1 l1 u1 c1 .leaf) = tOw l (fLn (.inner x1 l1 u1 c1 .leaf)) + (tWt (l1, c1) + bB l.1 (lbC l) (0) l1 c1 + 0) := rfl
  rw [wt] at hr
  have ow : tOw l (fLn (.inner x1 l1 u1 c1 .leaf)) = 11 := by simp [tOw, e]
  rw [ow] at hr
  have kd : ∀ r, rJ tx n r T → r.2 47 (nO T k) = l.1 := fun r h => by rw [h.kd k0 k1, hl]
  rw [← q1] at ia
  refine A_of (a := [(wdS.getD 20 [], false)]) (b := vT tx n l1 c1 false (vBr l1 0 false false) ++ [([59], false)]) (K1 := (3, nO T (k + 1), asW 0 false false) :: (1, 59, 0) :: K) (by omega) (QM_wo (w := 20) (by decide) (fun r h => by
    rw [cS_285, cF_285_0, if_pos (h.no k0 k1), if_pos (h.no k0 k1), h.kd k0 k1, hl, if_neg (by omega), if_neg (by omega), if_neg (by omega), if_neg (by omega), if_neg (by omega), if_neg (by omega), if_neg (by omega), if_neg (by omega), if_pos e, if_pos (h.no k0 k1), if_neg (by omega), h.f5 hch k0 k1, cE_285_96, cF_285_96] <;> rfl) (QM_pl (by omega) (fun r h => rfl) (QM_pl (by simp only [List.length_cons]; omega) (fun r h => by
    have o := h.no (i := k + 1) (by omega) (by omega)
    rw [if_neg (by omega)] <;> rfl) (QM_nd fun r h => rfl)))) (PT_tr (VLx (v1 ia) (pk := l.1) (c := lbC l) (i := 0) (tWn_s (by omega) (by omega) _ _).symm (by decide) (fun z => by cases z) (by simp only [List.length_cons]; omega)) (PT_1 (by omega) (by decide))) ?_
  unfold acB
  rw [prF_e ia (by omega) (by omega) h12 h14]
  have o1 : opn tx n l (fK0 (.inner x1 l1 u1 c1 .leaf)) = [(wdS.getD 20 [], false)] := by simp [opn, opS, e]; rfl
  have o3 : ahd tx n l 0 l1.1 = [] := by simp [ahd, ahH, e]
  have o2 : clS 0 0 l (fLn (.inner x1 l1 u1 c1 .leaf)) = [([59], false)] := by simp [clS, e, k1013]
  rw [o1, o2, o3]
  simp [prF]
theorem AL_16 (ht : tOk tx n) {T : tT} {o1 : Option cm_V} {k : Int} {l : tLb} {ch : tF} (k0 : 0 ≤ k) (k1 : k < tSz T) (hl : nLb (nT T k) = l) (hch : nCh (nT T k) = ch) (hS : SVd tx n T o1 (k + 1) ch) (g1 : gT tx n l) (g2 : gC l.1 (fK ch)) (g3 : gW l ch) (g4 : gF tx n ch) (k9 : k + 1 + fSz ch ≤ tSz T) (e : l.1 = 16) : AL tx n T o1 k l ch := by
  have g2' : ∃ a, fK ch = [a] ∧ isS a := by
    unfold gC at g2
    rw [e] at g2
    exact g2
  obtain ⟨a, em, ia⟩ := g2'
  obtain ⟨x1, l1, u1, c1, r1, rfl, q1, em1⟩ := fK_cons em
  have := fK_nil em1
  subst this
  obtain ⟨v1, w1, T1, S1⟩ := hS
  obtain ⟨h11, h12, h13, h14, h15⟩ := g4
  have A1 := fAt_ch (T := T) k0 k1
  rw [hch] at A1
  have z1 := fSz_0 c1
  simp only [fSz_in, fSz_lf] at k9
  have tw1 := tWt_0 h11 h12 h14
  have bb1 := bB_0 l.1 (lbC l) (0) l1 c1
  intro K hr
  have wt : tWt (l, .inner x1 l1 u1 c1 .leaf) = tOw l (fLn (.inner x1 l1 u1 c1 .leaf)) + (tWt (l1, c1) + bB l.1 (lbC l) (0) l1 c1 + 0) := rfl
  rw [wt] at hr
  have ow : tOw l (fLn (.inner x1 l1 u1 c1 .leaf)) = 2 * lbN l + 1 := by simp [tOw, e]
  rw [ow] at hr
  have kd : ∀ r, rJ tx n r T → r.2 47 (nO T k) = l.1 := fun r h => by rw [h.kd k0 k1, hl]
  rw [← q1] at ia
  have ln := gT_len ht g1 (by omega)
  have l30 : l1.1 < 30 := by unfold isS at ia; omega
  have qt := QM_to (X := fun r => cm_sem 285 [.inr (.inl 41), .inl (nO T k)] r) (K := K) (K' := (1, 58, 0) :: (4, nO T (k + 1), 0) :: K) (ws := []) (b := false) ht k0 k1 (by rw [hl]; exact ln) (by rw [hl]; omega) (by rw [hl]; exact (decide_eq_false (by omega)).symm) (fun r h => by
    rw [cS_285, cF_285_0, if_pos (h.no k0 k1), if_pos (h.no k0 k1), h.kd k0 k1, hl, if_neg (by omega), if_neg (by omega), if_neg (by omega), if_neg (by omega), if_neg (by omega), if_neg (by omega), if_neg (by omega), if_pos e, h.f5 hch k0 k1] <;> rfl) (QM_pl (by omega) (fun r h => rfl) (QM_pl (by simp only [List.length_cons]; omega) (fun r h => rfl) (QM_nd fun r h => rfl)))
  rw [hl] at qt
  refine A_of (a := xTk tx n l false ++ []) (b := [([58], false)] ++ acB tx n l1 c1) (by omega) qt (PT_tr (PT_1 (by simp only [List.length_cons]; omega) (by decide)) (w1 (Or.inl ia) K (by omega))) ?_
  unfold acB
  rw [prF_s l30 (by omega) (by omega)]
  have o1 : opn tx n l (fK0 (.inner x1 l1 u1 c1 .leaf)) = xTk tx n l false ++ [([58], false)] := by simp [opn, opS, e, k1012]
  have o3 : ahd tx n l 0 l1.1 = [] := by simp [ahd, ahH, e]
  have o2 : clS 0 0 l (fLn (.inner x1 l1 u1 c1 .leaf)) = [] := by simp [clS, e]
  rw [o1, o2, o3]
  simp [prF, acB]
theorem AL_20 (ht : tOk tx n) {T : tT} {o1 : Option cm_V} {k : Int} {l : tLb} {ch : tF} (k0 : 0 ≤ k) (k1 : k < tSz T) (hl : nLb (nT T k) = l) (hch : nCh (nT T k) = ch) (hS : SVd tx n T o1 (k + 1) ch) (g1 : gT tx n l) (g2 : gC l.1 (fK ch)) (g3 : gW l ch) (g4 : gF tx n ch) (k9 : k + 1 + fSz ch ≤ tSz T) (e : l.1 = 20) : AL tx n T o1 k l ch := by
  have g2' : ∃ r, fK ch = r ++ [23] ∧ ∀ x ∈ r, x = 22 := by
    unfold gC at g2
    rw [e] at g2
    exact g2
  intro K hr
  obtain ⟨K1, q1, q2⟩ := QM_fn ht k0 k1 hl hch hS g1 g2 g4 k9 (Or.inl e) K (by omega)
  have tw := tWt_0 g1 g2 g4
  have ow : tOw l (fLn ch) = 18 + 2 * lbN l + fLn ch := by simp [tOw, e]
  have wt : tWt (l, ch) = tOw l (fLn ch) + fWt l.1 (lbC l) 0 ch := rfl
  have f0 := fWt_0 ch l.1 (lbC l) 0 g4
  have fl := fLn_0 ch
  have ln := g1.2.1
  refine A_of (by omega) (QM_eq (fun r h => ?_) (QM_tl q1)) q2 ?_
  · rw [cS_285, cF_285_0, if_pos (h.no k0 k1), if_pos (h.no k0 k1), h.kd k0 k1, hl, if_neg (by omega), if_neg (by omega), if_neg (by omega), if_neg (by omega), if_neg (by omega), if_neg (by omega), if_neg (by omega), if_neg (by omega), if_neg (by omega), if_pos e]
  · unfold acB
    rw [fn_pr (Or.inl e) ch 0 false false (by decide) (fun _ => rfl) g2' g4]
    have o1 : opn tx n l (fK0 ch) = [kTok 1022] ++ (xTk tx n l false ++ [kTok 1009]) := by simp [opn, opS, e]
    have o3 : clS 0 0 l (fLn ch) = [] := by simp [clS, e]
    rw [o1, o3]
    simp
end TXb2
