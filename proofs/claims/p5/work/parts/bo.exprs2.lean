/-! ===== the reference's printer: functions, calls, rows of expressions ===== -/
section TXb1
variable {tx : Int → Int} {n : Int}
theorem k1022 : kTok 1022 = (wdS.getD 11 [], false) := rfl
theorem k1023 : kTok 1023 = (wdS.getD 15 [], false) := rfl
/-- printFunction() -/
theorem QM_fn (ht : tOk tx n) {T : tT} {o1 : Option cm_V} {k : Int} {l : tLb} {ch : tF} (k0 : 0 ≤ k) (k1 : k < tSz T) (hl : nLb (nT T k) = l) (hch : nCh (nT T k) = ch) (hS : SVd tx n T o1 (k + 1) ch) (g1 : gT tx n l) (g2 : gC l.1 (fK ch)) (g4 : gF tx n ch) (k9 : k + 1 + fSz ch ≤ tSz T) (e : l.1 = 20 ∨ l.1 = 39) (K : List pE) (hr : (K.length : Int) + tWt (l, ch) ≤ 1001) : ∃ K1, QM tx n T (fun r => cm_sem 281 [.inr (.inl 41), .inl (nO T k)] r) K (kTok 1022 :: xTk tx n l false) K1 ∧ PT tx n T o1 K1 (kTok 1009 :: (pmT tx n false ch ++ fbT tx n ch)) K := by
  have A1 := fAt_ch (T := T) k0 k1
  rw [hch] at A1
  have g2' : ∃ r, fK ch = r ++ [23] ∧ ∀ x ∈ r, x = 22 := by
    unfold gC at g2
    rcases e with e | e <;> (rw [e] at g2; exact g2)
  obtain ⟨x', l', u', c', q1, q2, q3, q4, q5, q6, q7, q8⟩ := fn_last (pk := l.1) (cc := lbC l) ch (k + 1) 0 (by omega) k9 A1 hS g4 g2'
  have fl := fLn_0 ch
  have ln := g1.2.1
  have wt : tWt (l, ch) = tOw l (fLn ch) + fWt l.1 (lbC l) 0 ch := rfl
  have ow : tOw l (fLn ch) = 18 + 2 * lbN l + fLn ch := by
    rcases e with e | e <;> simp [tOw, e]
  have f0 := fWt_0 c' 23 (lbC l') 0 q4
  have fz := fSz_0 c'
  rw [wt, ow] at hr
  rw [show k + 1 + fLn ch - 1 = k + fLn ch by omega] at q2
  obtain ⟨w1, w2, w3⟩ := fAt_in q2
  have kl : k + fLn ch < tSz T := by omega
  have A2 := fAt_ch (T := T) (i := k + fLn ch) (by omega) kl
  rw [w2] at A2
  rw [show k + 1 + fLn ch = k + fLn ch + 1 by omega] at q3
  refine ⟨(1, 40, 0) :: (9, nNum T (k + 1) ch, asW 0 false false) :: (1, 41, 0) :: (1, 123, 0) :: (5, nNum T (k + fLn ch + 1) c', 0) :: (1, 125, 0) :: K, ?_, ?_⟩
  · have tail : ∀ g : cm_S → Option cm_R, (∀ r, rJ tx n r T → g r = cm_bv (cm_sem 271 [.inr (.inl 41), .inl 1, .inl 125, .inl 0] r) fun s10 => cm_bi (cm_sem 258 [.inr (.inl 41), .inl (nO T k)] s10) fun z11 s11 => if (0 : Int) ≤ z11 ∧ z11 < 500 then cm_bv (cm_sem 271 [.inr (.inl 41), .inl 5, .inl (s11.2 50 z11), .inl 0] s11) fun s12 => cm_bv (cm_sem 271 [.inr (.inl 41), .inl 1, .inl 123, .inl 0] s12) fun s13 => cm_bv (cm_sem 271 [.inr (.inl 41), .inl 1, .inl 41, .inl 0] s13) fun s14 => if (0 : Int) ≤ nO T k ∧ nO T k < 500 then cm_bv (cm_sem 271 [.inr (.inl 41), .inl 9, .inl (s14.2 50 (nO T k)), .inl 0] s14) fun s15 => cm_bv (cm_sem 271 [.inr (.inl 41), .inl 1, .inl 40, .inl 0] s15) fun s16 => some (.inl none, s16) else none else none) → QM tx n T g K [] ((1, 40, 0) :: (9, nNum T (k + 1) ch, asW 0 false false) :: (1, 41, 0) :: (1, 123, 0) :: (5, nNum T (k + fLn ch + 1) c', 0) :: (1, 125, 0) :: K) := fun g hg => by
      refine QM_pl (by omega) hg (QM_pl (by simp only [List.length_cons]; omega) (fun r h => by
        have e8 := (r_258 h k0 k1 (by rw [hl]; exact e)).1
        rw [hch] at e8
        rw [e8, cm_bi_i, if_pos (h.no (by omega) kl), h.fn (by omega) kl, w2]) (QM_pl (by simp only [List.length_cons]; omega) (fun r h => rfl) (QM_pl (by simp only [List.length_cons]; omega) (fun r h => rfl) (QM_pl (by simp only [List.length_cons]; omega) (fun r h => by
        rw [if_pos (h.no k0 k1), h.fn k0 k1, hch] <;> rfl) (QM_pl (by simp only [List.length_cons]; omega) (fun r h => rfl) (QM_nd fun r h => rfl))))))
    by_cases h0 : 0 < lbN l
    · rw [show kTok 1022 :: xTk tx n l false = kTok 1022 :: (xTk tx n l false ++ []) by rw [List.append_nil]]
      refine QM_wo (w := 11) (by decide) (fun r h => by rw [cS_281, cF_281_0] <;> rfl) ?_
      have q := QM_to (X := fun s1 => if (0 : Int) ≤ nO T k ∧ nO T k < 500 then (if 0 < s1.2 49 (nO T k) then cm_bv (cm_sem 282 [.inr (.inl 41), .inl (nO T k)] s1) fun s2 => cm_bv (cm_sem 271 [.inr (.inl 41), .inl 1, .inl 125, .inl 0] s2) fun s3 => cm_bi (cm_sem 258 [.inr (.inl 41), .inl (nO T k)] s3) fun z4 s4 => if (0 : Int) ≤ z4 ∧ z4 < 500 then cm_bv (cm_sem 271 [.inr (.inl 41), .inl 5, .inl (s4.2 50 z4), .inl 0] s4) fun s5 => cm_bv (cm_sem 271 [.inr (.inl 41), .inl 1, .inl 123, .inl 0] s5) fun s6 => cm_bv (cm_sem 271 [.inr (.inl 41), .inl 1, .inl 41, .inl 0] s6) fun s7 => if (0 : Int) ≤ nO T k ∧ nO T k < 500 then cm_bv (cm_sem 271 [.inr (.inl 41), .inl 9, .inl (s7.2 50 (nO T k)), .inl 0] s7) fun s8 => cm_bv (cm_sem 271 [.inr (.inl 41), .inl 1, .inl 40, .inl 0] s8) fun s9 => some (.inl none, s9) else none else none else cm_bv (cm_sem 271 [.inr (.inl 41), .inl 1, .inl 125, .inl 0] s1) fun s10 => cm_bi (cm_sem 258 [.inr (.inl 41), .inl (nO T k)] s10) fun z11 s11 => if (0 : Int) ≤ z11 ∧ z11 < 500 then cm_bv (cm_sem 271 [.inr (.inl 41), .inl 5, .inl (s11.2 50 z11), .inl 0] s11) fun s12 => cm_bv (cm_sem 271 [.inr (.inl 41), .inl 1, .inl 123, .inl 0] s12) fun s13 => cm_bv (cm_sem 271 [.inr (.inl 41), .inl 1, .inl 41, .inl 0] s13) fun s14 => if (0 : Int) ≤ nO T k ∧ nO T k < 500 then cm_bv (cm_sem 271 [.inr (.inl 41), .inl 9, .inl (s14.2 50 (nO T k)), .inl 0] s14) fun s15 => cm_bv (cm_sem 271 [.inr (.inl 41), .inl 1, .inl 40, .inl 0] s15) fun s16 => some (.inl none, s16) else none else none) else none) (b := false) ht k0 k1 (by rw [hl]; exact h0) (by rw [hl]; omega) (by rw [hl]; exact (decide_eq_false (by omega)).symm) (fun r h => by rw [if_pos (h.no k0 k1), h.ln k0 k1, hl, if_pos h0]) (tail _ (fun r h => rfl))
      rw [hl] at q
      exact q
    · rw [show xTk tx n l false = [] from if_neg h0]
      refine QM_wo (w := 11) (by decide) (fun r h => by rw [cS_281, cF_281_0] <;> rfl) (tail _ (fun r h => ?_))
      rw [if_pos (h.no k0 k1), h.ln k0 k1, hl, if_neg h0]
  · rw [q6, show kTok 1009 :: (pmT tx n false ch ++ (kTok 1010 :: kTok 1011 :: (acT tx n c' ++ [kTok 1007]))) = [([40], false)] ++ (pmT tx n false ch ++ ([([41], false)] ++ ([([123], false)] ++ (acT tx n c' ++ [([125], false)])))) from rfl]
    have p9 := PT_9 (o1 := o1) (pk := l.1) (c := lbC l) ht ch (k + 1) 0 ((1, 41, 0) :: (1, 123, 0) :: (5, nNum T (k + fLn ch + 1) c', 0) :: (1, 125, 0) :: K) false A1 hS g4 (fun y hy => by
      obtain ⟨m, em, hm⟩ := g2'
      rw [em] at hy
      rcases List.mem_append.mp hy with z | z
      · exact Or.inl (hm y z)
      · exact Or.inr (List.mem_singleton.mp z)) (by omega) k9 (by simp only [List.length_cons]; omega)
    have p5 := PT_5f (o1 := o1) (pk := 23) (c := lbC l') c' (k + fLn ch + 1) 0 ((1, 125, 0) :: K) A2 q3 q4 q5 (by omega) (by omega) (by simp only [List.length_cons]; omega)
    exact PT_tr (PT_1 (by simp only [List.length_cons]; omega) (by decide)) (PT_tr p9 (PT_tr (PT_1 (by simp only [List.length_cons]; omega) (by decide)) (PT_tr (PT_1 (by simp only [List.length_cons]; omega) (by decide)) (PT_tr p5 (PT_1 (by omega) (by decide))))))
theorem BO_39 (ht : tOk tx n) {T : tT} {o1 : Option cm_V} {k : Int} {l : tLb} {ch : tF} (k0 : 0 ≤ k) (k1 : k < tSz T) (hl : nLb (nT T k) = l) (hch : nCh (nT T k) = ch) (hS : SVd tx n T o1 (k + 1) ch) (g1 : gT tx n l) (g2 : gC l.1 (fK ch)) (g4 : gF tx n ch) (k9 : k + 1 + fSz ch ≤ tSz T) (e : l.1 = 39) : BO tx n T o1 k l ch := by
  intro K ni hr
  have sl := slF_1 (l := l) (ch := ch) (by omega)
  obtain ⟨K1, q1, q2⟩ := QM_fn ht k0 k1 hl hch hS g1 g2 g4 k9 (Or.inr e) K (by omega)
  refine ⟨_, _, K1, QM_eq (fun r h => ?_) (QM_tl q1), q2, ?_⟩
  · rw [if_pos (by omega), cS_280, cF_280_0, if_pos (h.no k0 k1), if_pos (h.no k0 k1), h.kd k0 k1, hl, e, if_neg (by decide), if_neg (by decide), if_neg (by decide), if_pos rfl]
  · have g2' : ∃ r, fK ch = r ++ [23] ∧ ∀ x ∈ r, x = 22 := by
      unfold gC at g2
      rw [e] at g2
      exact g2
    rw [fn_pr (Or.inr e) ch 0 ni false (by decide) (fun z => by omega) g2' g4]
    have o1 : opn tx n l (fK0 ch) = [kTok 1022] ++ (xTk tx n l false ++ [kTok 1009]) := by simp [opn, opE, e]
    have o3 : clE tx n l (fLn ch) (nlF ch) = [] := by simp [clE, e]
    rw [o1, o3]
    simp
theorem rw_pr49 {l : tLb} (e : l.1 = 49) (ni : Bool) : ∀ (f : tF) (r : Int), 1 ≤ r → (∀ x ∈ fK f, isE x) → gF tx n f → prF tx n l r ni false f = rwT tx n ni true f := by
  intro f
  induction f with
  | leaf => intro r _ _ _; rfl
  | inner x l1 u ch re i1 i2 =>
    intro r hr hk hF
    obtain ⟨f1, f2, f3, f4, f5⟩ := hF
    have hd : hdF l.1 r ni false = ni := by cases ni <;> simp [hdF, e]
    rw [prF_v (ni := ni) (fc := false) (w := 1) (hk l1.1 (List.mem_cons_self ..)) (by omega) (by simp [tWn, e]) (nofc (by omega) (by omega)) (Or.inl hd) f2 f4, i2 (r + 1) (by omega) (fun y hy => hk y (List.mem_cons_of_mem _ hy)) f5]
    have a : ahd tx n l r l1.1 = [kTok 1005] := by
      have : 0 < r := by omega
      simp [ahd, e, this]
    rw [a]
    rfl
theorem rw_pr42 {l : tLb} (e : l.1 = 42 ∨ l.1 = 43) : ∀ (f : tF) (r : Int) (hp bp : Bool), 2 ≤ r → (∀ x ∈ fK f, isE x) → gF tx n f → prF tx n l r hp bp f = rwT tx n false true f := by
  intro f
  induction f with
  | leaf => intro r hp bp _ _ _; rfl
  | inner x l1 u ch re i1 i2 =>
    intro r hp bp hr hk hF
    obtain ⟨f1, f2, f3, f4, f5⟩ := hF
    have r0 : ¬ r = 0 := by omega
    have r1 : ¬ r = 1 := by omega
    have r2 : 0 < r := by omega
    have hd : hdF l.1 r hp bp = false := by rcases e with e | e <;> simp [hdF, e, r0]
    have w1 : tWn l.1 (lbC l) r = 1 := by rcases e with e | e <;> simp [tWn, e, r0]
    rw [prF_v (ni := false) (fc := false) (w := 1) (hk l1.1 (List.mem_cons_self ..)) (by omega) w1.symm (nofc (by omega) (by omega)) (Or.inl hd) f2 f4, i2 (r + 1) hp bp (by omega) (fun y hy => hk y (List.mem_cons_of_mem _ hy)) f5]
    have a : ahd tx n l r l1.1 = [kTok 1005] := by
      rcases e with e | e <;> simp [ahd, e, r1, r2]
    rw [a]
    rfl
/-- the brackets of a call and what stands in them -/
theorem rw_prc {l : tLb} (e : l.1 = 42 ∨ l.1 = 43) (f : tF) (hp bp : Bool) (hk : ∀ x ∈ fK f, isE x) (hF : gF tx n f) (nl : Bool) : prF tx n l (0 + 1) hp bp f ++ clE tx n l (1 + fLn f) nl = [([40], false)] ++ (rwT tx n false false f ++ [([41], false)]) := by
  cases f with
  | leaf =>
    have o3 : clE tx n l (1 + fLn .leaf) nl = [([40], false)] ++ [([41], false)] := by
      rcases e with e | e <;> simp [clE, e, fLn, k1009, k1010]
    rw [o3]
    rfl
  | inner x l1 u ch re =>
    obtain ⟨f1, f2, f3, f4, f5⟩ := hF
    have fl := fLn_0 re
    have m1 : ¬ 1 + fLn (.inner x l1 u ch re) = 1 := by
      show ¬ 1 + (1 + fLn re) = 1
      omega
    have o3 : clE tx n l (1 + fLn (.inner x l1 u ch re)) nl = [([41], false)] := by
      unfold clE
      rcases e with e | e
      · rw [if_neg (by omega), if_neg (by omega), if_neg (by omega), if_neg (by omega), if_pos e, if_neg m1]
        rfl
      · rw [if_neg (by omega), if_neg (by omega), if_neg (by omega), if_neg (by omega), if_neg (by omega), if_pos e, if_neg m1]
        rfl
    have hd : hdF l.1 (0 + 1) hp bp = false := by rcases e with e | e <;> simp [hdF, e]
    have w1 : tWn l.1 (lbC l) (0 + 1) = 1 := by rcases e with e | e <;> simp [tWn, e]
    have a : ahd tx n l (0 + 1) l1.1 = [([40], false)] := by
      rcases e with e | e <;> simp [ahd, e, k1009]
    rw [o3, prF_v (ni := false) (fc := false) (w := 1) (hk l1.1 (List.mem_cons_self ..)) (by omega) w1.symm (nofc (by omega) (by omega)) (Or.inl hd) f2 f4, rw_pr42 e re (0 + 1 + 1) hp bp (by decide) (fun y hy => hk y (List.mem_cons_of_mem _ hy)) f5, a]
    show _ = [([40], false)] ++ (([] ++ (vT tx n l1 ch false (vBr l1 1 false false) ++ rwT tx n false true re)) ++ [([41], false)])
    simp only [List.nil_append, List.append_assoc]
theorem BO_42 (ht : tOk tx n) {T : tT} {o1 : Option cm_V} {k : Int} {l : tLb} {ch : tF} (k0 : 0 ≤ k) (k1 : k < tSz T) (hl : nLb (nT T k) = l) (hch : nCh (nT T k) = ch) (hS : SVd tx n T o1 (k + 1) ch) (g1 : gT tx n l) (g2 : gC l.1 (fK ch)) (g4 : gF tx n ch) (k9 : k + 1 + fSz ch ≤ tSz T) (e : l.1 = 42) : BO tx n T o1 k l ch := by
  have g2' : ∃ a r, fK ch = a :: r ∧ isE a ∧ ∀ x ∈ r, isE x := by
    unfold gC at g2
    rw [e] at g2
    exact g2
  obtain ⟨a, r, em, ia, ir⟩ := g2'
  obtain ⟨x1, l1, u1, c1, r1, rfl, q1, em1⟩ := fK_cons em
  rw [← q1] at ia
  rw [← em1] at ir
  obtain ⟨v1, -, -, S1⟩ := hS
  obtain ⟨h11, h12, -, h14, h15⟩ := g4
  have A1 := fAt_ch (T := T) k0 k1
  rw [hch] at A1
  have z1 := fSz_0 c1
  have zr := fSz_0 r1
  simp only [fSz_in] at k9
  have tw1 := tWs ht ia h11 h12 h14
  have sl1 := slF_01 l1 c1
  have bb1 := bB_0 l.1 (lbC l) (0) l1 c1
  have sl := slF_01 l (.inner x1 l1 u1 c1 r1)
  intro K ni hr
  have wt : tWt (l, .inner x1 l1 u1 c1 r1) = tOw l (fLn (.inner x1 l1 u1 c1 r1)) + (tWt (l1, c1) + bB l.1 (lbC l) 0 l1 c1 + fWt l.1 (lbC l) (0 + 1) r1) := rfl
  rw [wt] at hr
  have kd : ∀ r, rJ tx n r T → r.2 47 (nO T k) = l.1 := fun r h => by rw [h.kd k0 k1, hl]
  have A2 := fAt_nx A1 (by omega) (by omega)
  have fl0 := fLn_0 r1
  have fl : fLn (.inner x1 l1 u1 c1 r1) = 1 + fLn r1 := rfl
  have sle := slF_1 (l := l) (ch := .inner x1 l1 u1 c1 r1) (by omega)
  have fw0 := fWt_0 r1 l.1 (lbC l) (0 + 1) h15
  rw [tOw_42 e, fl] at hr
  have nf : tCa (l1, c1) = true ↔ (l.1 = 41 ∧ l1.1 = 33 ∨ l.1 = 42 ∧ (0 : Int) = 0 ∧ tCa (l1, c1) = true) := by
    constructor
    · intro z; exact Or.inr ⟨e, rfl, z⟩
    · rintro (z | z)
      · omega
      · exact z.2.2
  refine ⟨[kTok 1023], vT tx n l1 c1 false (vBr l1 15 false (tCa (l1, c1))) ++ ([([40], false)] ++ (rwT tx n false false r1 ++ [([41], false)])), (3, nO T (k + 1), asW 15 false (tCa (l1, c1))) :: (1, 40, 0) :: (6, nNum T (k + 1 + 1 + fSz c1) r1, asW 1 false false) :: (1, 41, 0) :: K, ?_, ?_, ?_⟩
  · refine QM_pl (by omega) (fun r h => by
      rw [if_pos (by omega), cS_280, cF_280_0, if_pos (h.no k0 k1), if_pos (h.no k0 k1), h.f5 hch k0 k1, kd r h, e, if_neg (by decide), if_neg (by decide), if_neg (by decide), if_neg (by decide), if_neg (by decide), if_neg (by decide), if_pos rfl] <;> rfl) (QM_pl (by simp only [List.length_cons]; omega) (fun r h => by
      rw [if_pos (h.no (by omega) (by omega)), (h.nf A1 (by omega) (by omega)).1] <;> rfl) (QM_pl (by simp only [List.length_cons]; omega) (fun r h => rfl) (QM_pl (a := 3) (b := nO T (k + 1)) (c := asW 15 false (tCa (l1, c1))) (g := fun s1 => if (0 : Int) ≤ nO T k ∧ nO T k < 500 then (if (s1.2 47 (nO T k)) = 42 then cm_bv (cm_sem 275 [.inr (.inl 41), .inl 15] s1) fun s2 => some (.inl none, s2) else some (.inl none, s1)) else none) (by simp only [List.length_cons]; omega) (fun r h => by
      obtain ⟨z, ez, hz⟩ := r_283 h (i := k + 1) (by omega) (by omega)
      rw [(fAt_in A1).1, (fAt_in A1).2.1] at hz
      rw [if_pos (h.no k0 k1), kd r h, if_pos e, ez, cm_bi_i]
      rcases hz with ⟨rfl, hz⟩ | ⟨rfl, hz⟩
      · rw [if_pos rfl, cE_280_128, cF_280_128]
        have : tCa (l1, c1) = false := by cases q : tCa (l1, c1) <;> simp_all
        rw [this]
        rfl
      · rw [if_neg (by decide), hz]
        rfl) (QM_wo (w := 15) (by decide) (fun r h => by rw [if_pos (h.no k0 k1), kd r h, if_pos e] <;> rfl) (QM_nd fun r h => rfl)))))
  · exact PT_tr (VLx (v1 ia) (pk := l.1) (c := lbC l) (i := 0) (by simp [tWn, e]) (by decide) (fun z => Or.inr ⟨e, rfl, z⟩) (by simp only [List.length_cons]; omega)) (PT_tr (PT_1 (by simp only [List.length_cons]; omega) (by decide)) (PT_tr (PT_6 ht (pk := l.1) (c := lbC l) false r1 (k + 1 + 1 + fSz c1) (0 + 1) ((1, 41, 0) :: K) false A2 S1 h15 ir (by omega) (by omega) (fun j hj => by
      have : ¬ j = 0 := by omega
      simp [tWn, e, this]) (Or.inr (by decide)) (by simp only [List.length_cons]; omega)) (PT_1 (by omega) (by decide))))
  · rw [prF_v (ni := false) (fc := tCa (l1, c1)) (w := 15) ia (by omega) (by simp [tWn, e]) nf (Or.inr ⟨rfl, by decide⟩) h12 h14, fl]
    have o1 : opn tx n l (fK0 (.inner x1 l1 u1 c1 r1)) = [kTok 1023] := by simp [opn, opE, e]
    have o2 : ahd tx n l 0 l1.1 = [] := by simp [ahd, e]
    rw [o1, o2, List.nil_append, List.append_assoc, rw_prc (Or.inl e) r1 ni false ir h15]
theorem BO_43 (ht : tOk tx n) {T : tT} {o1 : Option cm_V} {k : Int} {l : tLb} {ch : tF} (k0 : 0 ≤ k) (k1 : k < tSz T) (hl : nLb (nT T k) = l) (hch : nCh (nT T k) = ch) (hS : SVd tx n T o1 (k + 1) ch) (g1 : gT tx n l) (g2 : gC l.1 (fK ch)) (g4 : gF tx n ch) (k9 : k + 1 + fSz ch ≤ tSz T) (e : l.1 = 43) : BO tx n T o1 k l ch := by
  have g2' : ∃ a r, fK ch = a :: r ∧ isE a ∧ ∀ x ∈ r, isE x := by
    unfold gC at g2
    rw [e] at g2
    exact g2
  obtain ⟨a, r, em, ia, ir⟩ := g2'
  obtain ⟨x1, l1, u1, c1, r1, rfl, q1, em1⟩ := fK_cons em
  rw [← q1] at ia
  rw [← em1] at ir
  obtain ⟨v1, -, -, S1⟩ := hS
  obtain ⟨h11, h12, -, h14, h15⟩ := g4
  have A1 := fAt_ch (T := T) k0 k1
  rw [hch] at A1
  have z1 := fSz_0 c1
  have zr := fSz_0 r1
  simp only [fSz_in] at k9
  have tw1 := tWs ht ia h11 h12 h14
  have sl1 := slF_01 l1 c1
  have bb1 := bB_0 l.1 (lbC l) (0) l1 c1
  have sl := slF_01 l (.inner x1 l1 u1 c1 r1)
  intro K ni hr
  have wt : tWt (l, .inner x1 l1 u1 c1 r1) = tOw l (fLn (.inner x1 l1 u1 c1 r1)) + (tWt (l1, c1) + bB l.1 (lbC l) 0 l1 c1 + fWt l.1 (lbC l) (0 + 1) r1) := rfl
  rw [wt] at hr
  have kd : ∀ r, rJ tx n r T → r.2 47 (nO T k) = l.1 := fun r h => by rw [h.kd k0 k1, hl]
  have A2 := fAt_nx A1 (by omega) (by omega)
  have fl0 := fLn_0 r1
  have fl : fLn (.inner x1 l1 u1 c1 r1) = 1 + fLn r1 := rfl
  have sle := slF_1 (l := l) (ch := .inner x1 l1 u1 c1 r1) (by omega)
  have fw0 := fWt_0 r1 l.1 (lbC l) (0 + 1) h15
  rw [tOw_43 e, fl] at hr
  have sll : slF l (.inner x1 l1 u1 c1 r1) ≤ slF l1 c1 := by
    by_cases hs : sbN l (.inner x1 l1 u1 c1 r1) = true
    · have s1 := (sb_ch (by omega) hs).2
      omega
    · have : slF l (.inner x1 l1 u1 c1 r1) = 0 := by
        unfold slF
        rw [if_neg (by omega), if_neg (by omega), if_neg hs]
      omega
  have va : PT tx n T o1 ((3, nO T (k + 1), asW 15 false false) :: (1, 40, 0) :: (6, nNum T (k + 1 + 1 + fSz c1) r1, asW 1 false false) :: (1, 41, 0) :: K) (vT tx n l1 c1 false (vBr l1 15 false false)) ((1, 40, 0) :: (6, nNum T (k + 1 + 1 + fSz c1) r1, asW 1 false false) :: (1, 41, 0) :: K) := by
    refine v1 ia _ 15 false false (by decide) (by decide) ?_
    simp only [List.length_cons]
    have w15 : tWn l.1 (lbC l) 0 = 15 := by simp [tWn, e]
    have bt := bt_le (pk := l.1) (c := lbC l) (i := 0) (w := 15) (l := l1) (ch := c1) (ni := false) (fc := false) w15.symm (fun z => by cases z)
    have eb : bB l.1 (lbC l) 0 l1 c1 = (if tB l1 < tWn l.1 (lbC l) 0 ∨ l.1 = 42 ∧ (0 : Int) = 0 ∧ tCa (l1, c1) = true then 2 else 0) := rfl
    rw [← eb] at bt
    by_cases hs : sbN l (.inner x1 l1 u1 c1 r1) = true
    · have s1 := (sb_ch (by omega) hs).2
      by_cases hv : vBr l1 15 false false = true
      · have : bB l.1 (lbC l) 0 l1 c1 = 2 := by
          unfold vBr at hv
          simp at hv
          unfold bB
          rw [if_pos (Or.inl (by rw [w15]; exact hv))]
        rw [if_pos hv]
        omega
      · rw [if_neg hv]
        omega
    · have : slF l (.inner x1 l1 u1 c1 r1) = 0 := by
        unfold slF
        rw [if_neg (by omega), if_neg (by omega), if_neg hs]
      omega
  refine ⟨[], vT tx n l1 c1 false (vBr l1 15 false false) ++ ([([40], false)] ++ (rwT tx n false false r1 ++ [([41], false)])), (3, nO T (k + 1), asW 15 false false) :: (1, 40, 0) :: (6, nNum T (k + 1 + 1 + fSz c1) r1, asW 1 false false) :: (1, 41, 0) :: K, ?_, ?_, ?_⟩
  · refine QM_pl (by omega) (fun r h => by
      rw [if_pos (by omega), cS_280, cF_280_0, if_pos (h.no k0 k1), if_pos (h.no k0 k1), h.f5 hch k0 k1, kd r h, e, if_neg (by decide), if_neg (by decide), if_neg (by decide), if_neg (by decide), if_neg (by decide), if_neg (by decide), if_neg (by decide), if_pos rfl] <;> rfl) (QM_pl (by simp only [List.length_cons]; omega) (fun r h => by
      rw [if_pos (h.no (by omega) (by omega)), (h.nf A1 (by omega) (by omega)).1] <;> rfl) (QM_pl (by simp only [List.length_cons]; omega) (fun r h => rfl) (QM_pl (by simp only [List.length_cons]; omega) (fun r h => by
      rw [if_pos (h.no k0 k1), kd r h, if_neg (by omega), cE_280_128, cF_280_128] <;> rfl) (QM_nd fun r h => by
      rw [if_pos (h.no k0 k1), kd r h, if_neg (by omega)]))))
  · exact PT_tr va (PT_tr (PT_1 (by simp only [List.length_cons]; omega) (by decide)) (PT_tr (PT_6 ht (pk := l.1) (c := lbC l) false r1 (k + 1 + 1 + fSz c1) (0 + 1) ((1, 41, 0) :: K) false A2 S1 h15 ir (by omega) (by omega) (fun j hj => by
      have : ¬ j = 0 := by omega
      simp [tWn, e, this]) (Or.inr (by decide)) (by simp only [List.length_cons]; omega)) (PT_1 (by omega) (by decide))))
  · rw [prF_v (ni := false) (fc := false) (w := 15) ia (by omega) (by simp [tWn, e]) (nofc (by omega) (by omega)) (Or.inr ⟨rfl, by decide⟩) h12 h14, fl]
    have o1 : opn tx n l (fK0 (.inner x1 l1 u1 c1 r1)) = [] := by simp [opn, opE, e]
    have o2 : ahd tx n l 0 l1.1 = [] := by simp [ahd, e]
    rw [o1, o2]
    simp only [List.nil_append, List.append_assoc]
    rw [rw_prc (Or.inr e) r1 ni false ir h15]
theorem BO_49 (ht : tOk tx n) {T : tT} {o1 : Option cm_V} {k : Int} {l : tLb} {ch : tF} (k0 : 0 ≤ k) (k1 : k < tSz T) (hl : nLb (nT T k) = l) (hch : nCh (nT T k) = ch) (hS : SVd tx n T o1 (k + 1) ch) (g1 : gT tx n l) (g2 : gC l.1 (fK ch)) (g4 : gF tx n ch) (k9 : k + 1 + fSz ch ≤ tSz T) (e : l.1 = 49) : BO tx n T o1 k l ch := by
  have g2' : 2 ≤ (fK ch).length ∧ ∀ x ∈ fK ch, isE x := by
    unfold gC at g2
    rw [e] at g2
    exact g2
  obtain ⟨gl, ge⟩ := g2'
  obtain ⟨a, m, em⟩ : ∃ a m, fK ch = a :: m := by
    cases q : fK ch with
    | nil => rw [q] at gl; exact absurd gl (by decide)
    | cons a m => exact ⟨a, m, rfl⟩
  obtain ⟨x1, l1, u1, c1, r1, rfl, q1, em1⟩ := fK_cons em
  have ia : isE l1.1 := ge l1.1 (List.mem_cons_self ..)
  have ir : ∀ x ∈ fK r1, isE x := fun y hy => ge y (List.mem_cons_of_mem _ hy)
  have gl1 : 1 ≤ fLn r1 := by
    have := fK_len (.inner x1 l1 u1 c1 r1)
    have fl : fLn (.inner x1 l1 u1 c1 r1) = 1 + fLn r1 := rfl
    omega
  obtain ⟨v1, -, -, S1⟩ := hS
  obtain ⟨h11, h12, -, h14, h15⟩ := g4
  have A1 := fAt_ch (T := T) k0 k1
  rw [hch] at A1
  have z1 := fSz_0 c1
  have zr := fSz_0 r1
  simp only [fSz_in] at k9
  have tw1 := tWs ht ia h11 h12 h14
  have sl1 := slF_01 l1 c1
  have bb1 := bB_0 l.1 (lbC l) (0) l1 c1
  have sl := slF_01 l (.inner x1 l1 u1 c1 r1)
  intro K ni hr
  have wt : tWt (l, .inner x1 l1 u1 c1 r1) = tOw l (fLn (.inner x1 l1 u1 c1 r1)) + (tWt (l1, c1) + bB l.1 (lbC l) 0 l1 c1 + fWt l.1 (lbC l) (0 + 1) r1) := rfl
  rw [wt] at hr
  have kd : ∀ r, rJ tx n r T → r.2 47 (nO T k) = l.1 := fun r h => by rw [h.kd k0 k1, hl]
  have A2 := fAt_nx A1 (by omega) (by omega)
  have fl0 := fLn_0 r1
  have fl : fLn (.inner x1 l1 u1 c1 r1) = 1 + fLn r1 := rfl
  have sle := slF_1 (l := l) (ch := .inner x1 l1 u1 c1 r1) (by omega)
  have fw0 := fWt_0 r1 l.1 (lbC l) (0 + 1) h15
  rw [tOw_49 e, fl] at hr
  have a5 : cm_or (cm_or 1 (if ni = true then 256 else 0)) 512 = asW 1 ni true := by
    rw [orW (by decide) (by decide)]
    exact (asW_f 1 (by decide) ni false).2.2.2.2.1
  refine ⟨[], vT tx n l1 c1 ni (vBr l1 1 ni false) ++ rwT tx n ni true r1, (3, nO T (k + 1), asW 1 ni false) :: (6, nNum T (k + 1 + 1 + fSz c1) r1, asW 1 ni true) :: K, ?_, ?_, ?_⟩
  · refine QM_pl (by omega) (fun r h => by
      rw [if_neg (by omega), cS_284, cF_284_0, if_pos (h.no k0 k1), h.f5 hch k0 k1, if_pos (h.no (by omega) (by omega)), r_277 ht h k0 k1, cm_bi_i, if_pos (h.no k0 k1), kd r h, e, if_neg (by decide), if_neg (by decide), if_neg (by decide), if_neg (by decide), if_neg (by decide), (h.nf A1 (by omega) (by omega)).1, a5, orW (by decide) (by decide)]) (QM_pl (by simp only [List.length_cons]; omega) (fun r h => rfl) (QM_nd fun r h => rfl))
  · exact PT_tr (VLx (v1 ia) (pk := l.1) (c := lbC l) (i := 0) (by simp [tWn, e]) (by decide) (fun z => by cases z) (by simp only [List.length_cons]; omega)) (PT_6 ht (pk := l.1) (c := lbC l) ni r1 (k + 1 + 1 + fSz c1) (0 + 1) K true A2 S1 h15 ir (by omega) (by omega) (fun j hj => by simp [tWn, e]) (Or.inl (by omega)) (by omega))
  · have hd : hdF l.1 0 ni false = ni := by cases ni <;> simp [hdF, e]
    rw [prF_v (ni := ni) (fc := false) (w := 1) ia (by omega) (by simp [tWn, e]) (nofc (by omega) (by omega)) (Or.inl hd) h12 h14, rw_pr49 e ni r1 (0 + 1) (by decide) ir h15]
    have o1 : opn tx n l (fK0 (.inner x1 l1 u1 c1 r1)) = [] := by simp [opn, opE, e]
    have o2 : ahd tx n l 0 l1.1 = [] := by simp [ahd, e]
    have o3 : clE tx n l (fLn (.inner x1 l1 u1 c1 r1)) (nlF (.inner x1 l1 u1 c1 r1)) = [] := by simp [clE, e]
    rw [o1, o2, o3]
    simp
theorem BO_all (ht : tOk tx n) {T : tT} {o1 : Option cm_V} {k : Int} {l : tLb} {ch : tF} (k0 : 0 ≤ k) (k1 : k < tSz T) (hl : nLb (nT T k) = l) (hch : nCh (nT T k) = ch) (hS : SVd tx n T o1 (k + 1) ch) (g1 : gT tx n l) (g2 : gC l.1 (fK ch)) (g4 : gF tx n ch) (k9 : k + 1 + fSz ch ≤ tSz T) (hE : isE l.1) : BO tx n T o1 k l ch := by
  by_cases e30 : l.1 = 30
  · exact BO_30 ht k0 k1 hl hch hS g1 g2 g4 k9 e30
  by_cases e31 : 31 ≤ l.1 ∧ l.1 ≤ 35
  · exact BO_31 ht k0 k1 hl hch hS g1 g2 g4 k9 e31
  by_cases e36 : l.1 = 36
  · exact BO_36 ht k0 k1 hl hch hS g1 g2 g4 k9 e36
  by_cases e37 : l.1 = 37
  · exact BO_37 ht k0 k1 hl hch hS g1 g2 g4 k9 e37
  by_cases e39 : l.1 = 39
  · exact BO_39 ht k0 k1 hl hch hS g1 g2 g4 k9 e39
  by_cases e40 : l.1 = 40
  · exact BO_40 ht k0 k1 hl hch hS g1 g2 g4 k9 e40
  by_cases e41 : l.1 = 41
  · exact BO_41 ht k0 k1 hl hch hS g1 g2 g4 k9 e41
  by_cases e42 : l.1 = 42
  · exact BO_42 ht k0 k1 hl hch hS g1 g2 g4 k9 e42
  by_cases e43 : l.1 = 43
  · exact BO_43 ht k0 k1 hl hch hS g1 g2 g4 k9 e43
  by_cases e44 : l.1 = 44
  · exact BO_44 ht k0 k1 hl hch hS g1 g2 g4 k9 e44
  by_cases e45 : l.1 = 45
  · exact BO_45 ht k0 k1 hl hch hS g1 g2 g4 k9 e45
  by_cases e46 : l.1 = 46
  · exact BO_46 ht k0 k1 hl hch hS g1 g2 g4 k9 e46
  by_cases e47 : l.1 = 47
  · exact BO_47 ht k0 k1 hl hch hS g1 g2 g4 k9 e47
  by_cases e48 : l.1 = 48
  · exact BO_48 ht k0 k1 hl hch hS g1 g2 g4 k9 e48
  by_cases e49 : l.1 = 49
  · exact BO_49 ht k0 k1 hl hch hS g1 g2 g4 k9 e49
  exfalso
  unfold isE at hE
  omega
end TXb1
