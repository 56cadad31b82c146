/-! ===== the reference's judge: begins(), last(), settle() ===== -/
section TX91
variable {tx : Int → Int} {n : Int}
theorem r_257 (ht : tOk tx n) {r : cm_S} {T : tT} (h : rJ tx n r T) {i : Int} (h0 : 0 ≤ i) (h1 : i < tSz T) : RB (cm_sem 257 [.inr (.inl 41), .inl (nO T i)] r) r (says tx n (nLb (nT T i))) := by
  have n9 := ht.2.1
  have o := h.no h0 h1
  obtain ⟨g1, g2, g3, -⟩ := (h.g h0 h1).1
  rw [cS_257, cF_257_0]
  simp only [if_pos o, h.ln h0 h1, h.pl h0 h1]
  unfold says
  generalize nLb (nT T i) = l at g1 g2 g3
  by_cases e : lbN l = 12
  · rw [if_pos e]
    have A : hA tx n (lbP l + 1) 1002 ↔ (tA tx n (lbP l + 1) = 117 ∧ tA tx n (lbP l + 2) = 115 ∧ tA tx n (lbP l + 3) = 101 ∧ tA tx n (lbP l + 4) = 32 ∧ tA tx n (lbP l + 5) = 115 ∧ tA tx n (lbP l + 6) = 116 ∧ tA tx n (lbP l + 7) = 114 ∧ tA tx n (lbP l + 8) = 105 ∧ tA tx n (lbP l + 9) = 99 ∧ tA tx n (lbP l + 10) = 116) := by
      unfold hA
      have k : cm_kn 1002 = 10 := rfl
      rw [k]
      constructor
      · intro q
        have w : ∀ j : Int, 0 ≤ j → j < 10 → tA tx n (lbP l + (1 + j)) = cm_ka 1002 j := fun j a b => by
          rw [← Int.add_assoc]
          exact q j a b
        exact ⟨w 0 (by decide) (by decide), w 1 (by decide) (by decide), w 2 (by decide) (by decide), w 3 (by decide) (by decide), w 4 (by decide) (by decide), w 5 (by decide) (by decide), w 6 (by decide) (by decide), w 7 (by decide) (by decide), w 8 (by decide) (by decide), w 9 (by decide) (by decide)⟩
      · rintro ⟨q0, q1, q2, q3, q4, q5, q6, q7, q8, q9⟩ j a b
        rw [Int.add_assoc]
        have : j = 0 ∨ j = 1 ∨ j = 2 ∨ j = 3 ∨ j = 4 ∨ j = 5 ∨ j = 6 ∨ j = 7 ∨ j = 8 ∨ j = 9 := by omega
        rcases this with rfl | rfl | rfl | rfl | rfl | rfl | rfl | rfl | rfl | rfl
        · exact q0
        · exact q1
        · exact q2
        · exact q3
        · exact q4
        · exact q5
        · exact q6
        · exact q7
        · exact q8
        · exact q9
    have W : ∀ d : Int, 1 ≤ d → d ≤ 10 → cm_w (lbP l + d) = lbP l + d ∧ r.2 46 (lbP l + d) = tA tx n (lbP l + d) ∧ (0 ≤ lbP l + d ∧ lbP l + d < 480) := fun d a b => ⟨cm_w_id (by omega) (by omega), h.tex (by omega) (by omega), by omega, by omega⟩
    simp only [(W 1 (by decide) (by decide)).1, (W 2 (by decide) (by decide)).1, (W 3 (by decide) (by decide)).1, (W 4 (by decide) (by decide)).1, (W 5 (by decide) (by decide)).1, (W 6 (by decide) (by decide)).1, (W 7 (by decide) (by decide)).1, (W 8 (by decide) (by decide)).1, (W 9 (by decide) (by decide)).1, (W 10 (by decide) (by decide)).1, (W 1 (by decide) (by decide)).2.1, (W 2 (by decide) (by decide)).2.1, (W 3 (by decide) (by decide)).2.1, (W 4 (by decide) (by decide)).2.1, (W 5 (by decide) (by decide)).2.1, (W 6 (by decide) (by decide)).2.1, (W 7 (by decide) (by decide)).2.1, (W 8 (by decide) (by decide)).2.1, (W 9 (by decide) (by decide)).2.1, (W 10 (by decide) (by decide)).2.1, if_pos (W 1 (by decide) (by decide)).2.2, if_pos (W 2 (by decide) (by decide)).2.2, if_pos (W 3 (by decide) (by decide)).2.2, if_pos (W 4 (by decide) (by decide)).2.2, if_pos (W 5 (by decide) (by decide)).2.2, if_pos (W 6 (by decide) (by decide)).2.2, if_pos (W 7 (by decide) (by decide)).2.2, if_pos (W 8 (by decide) (by decide)).2.2, if_pos (W 9 (by decide) (by decide)).2.2, if_pos (W 10 (by decide) (by decide)).2.2]
    clear W
    rw [A]
    clear A
    repeat' split
    all_goals first | exact RB_1 (by omega) | exact RB_0 (by omega)
  · rw [if_neg e]
    exact RB_0 fun q => e q.1
theorem r_256 {r : cm_S} {T : tT} (h : rJ tx n r T) {i : Int} (h0 : 0 ≤ i) (h1 : i < tSz T) : RB (cm_sem 256 [.inr (.inl 41), .inl (nO T i)] r) r ((nLb (nT T i)).1 = 5 ∧ fK0 (nCh (nT T i)) = 34 ∧ lbP (nLb (nT T i)) = fP0 (nCh (nT T i))) := by
  have o := h.no h0 h1
  have g := h.g h0 h1
  rw [cS_256, cF_256_0]
  simp only [if_pos o, h.kd h0 h1]
  split
  · next e5 =>
    have hc := gC_ne g.2.1 (by omega)
    obtain ⟨a1, a2, a3⟩ := nT_1 h0 h1 hc
    have o1 := h.no (i := i + 1) (by omega) a1
    simp only [h.fi h0 h1 hc, if_pos o1, h.kd (i := i + 1) (by omega) a1, h.wr (i := i + 1) (by omega) a1, a2, fL0_k]
    split
    · next e34 =>
      have w := g.2.2.1 e5 e34
      have ew : lbW (fL0 (nCh (nT T i))) = fW0 (nCh (nT T i)) := by
        cases hch : nCh (nT T i) with
        | leaf => exact absurd hch hc
        | inner x l u ch re => rfl
      rw [ew]
      split
      · next e => exact RB_1 ⟨e5, e34, by
          rw [cm_n0] at e
          exact Decidable.byContradiction fun z => by
            rw [w.mpr fun y => z y.symm] at e
            cases e⟩
      · next e => exact RB_0 fun q => e (by
          rw [cm_n0]
          cases hw : fW0 (nCh (nT T i)) with
          | false => rfl
          | true => exact absurd q.2.2.symm (w.mp hw))
    · next e34 => exact RB_0 fun q => e34 q.2.1
  · next e5 => exact RB_0 fun q => e5 q.1
theorem rl_255 (ht : tOk tx n) {r : cm_S} {T : tT} (h : rJ tx n r T) (o1 : Option cm_V) : ∀ (f : tF) (k v z : Int), fAt T k f → (f = .leaf → v = -1) → (f ≠ .leaf → 0 ≤ k ∧ k < tSz T ∧ v = nO T k) → (z = 0 ∨ z = 1) → RB (cm_lp cm_sem cm_k255 8 [some (.inr (.inl 41)), o1, some (.inl z), some (.inl v)] [] r) r (z = 1 ∨ beg tx n f) := by
  intro f
  induction f with
  | leaf =>
    intro k v z _ hv _ hz
    rw [cE_255_8, cF_255_8, if_pos (hv rfl), if_pos (by omega)]
    rcases hz with rfl | rfl
    · exact RB_0 fun q => by
        rcases q with q | q
        · omega
        · exact q
    · exact RB_1 (Or.inl rfl)
  | inner x l u ch re i1 i2 =>
    intro k v z hA _ hR hz
    obtain ⟨k0, k9, rfl⟩ := hR (by intro z; cases z)
    obtain ⟨hl, hch, hre⟩ := hA
    have o := h.no k0 k9
    have lone := r_256 h k0 k9
    rw [hl, hch] at lone
    rw [cE_255_8, cF_255_8, if_neg (by omega)]
    refine RB_if lone (fun hln => ?_) (fun hn => ?_)
    · have hc : nCh (nT T k) ≠ .leaf := gC_ne (h.g k0 k9).2.1 (by rw [hl]; omega)
      obtain ⟨a1, a2, a3⟩ := nT_1 k0 k9 hc
      have fr := fAt_re (T := T) k0 k9
      have go : ∀ z', (z' = 0 ∨ z' = 1) → ((z' = 1 ∨ beg tx n re) ↔ (z = 1 ∨ beg tx n (.inner x l u ch re))) → RB (cm_lp cm_sem cm_k255 8 [some (.inr (.inl 41)), o1, some (.inl z'), some (.inl (r.2 51 (nO T k)))] [] r) r (z = 1 ∨ beg tx n (.inner x l u ch re)) := fun z' hz' hq => by
        rw [hre] at fr
        refine RB_iff (i2 (k + 1 + fSz (nCh (nT T k))) _ z' fr (fun e => h.nl k0 k9 (by rw [hre]; exact e)) (fun hne => ?_) hz') hq
        have c0 := fSz_0 (nCh (nT T k))
        have n2 := nT_2 k0 k9 (by rw [hre]; exact hne)
        exact ⟨by omega, n2.1, h.nx k0 k9 (by rw [hre]; exact hne)⟩
      rcases hz with rfl | rfl
      · rw [if_pos rfl, if_pos o, h.fi k0 k9 hc]
        have sy := r_257 ht h (i := k + 1) (by omega) a1
        rw [a2, hch] at sy
        refine RB_if sy (fun p => ?_) (fun p => ?_)
        · rw [if_pos o]
          exact go 1 (Or.inr rfl) ⟨fun _ => Or.inr ⟨hln, Or.inl p⟩, fun _ => Or.inl rfl⟩
        · rw [if_pos o]
          exact go 0 (Or.inl rfl) ⟨fun q => q.imp id fun q => ⟨hln, Or.inr q⟩, fun q => q.imp id fun q => q.2.resolve_left p⟩
      · rw [if_neg (by decide), if_pos o]
        exact go 1 (Or.inr rfl) ⟨fun _ => Or.inl rfl, fun _ => Or.inl rfl⟩
    · rw [if_pos (by omega)]
      rcases hz with rfl | rfl
      · exact RB_0 fun q => by
          rcases q with q | q
          · omega
          · exact hn q.1
      · exact RB_1 (Or.inl rfl)
theorem r_255 (ht : tOk tx n) {r : cm_S} {T : tT} (h : rJ tx n r T) {i : Int} (h0 : 0 ≤ i) (h1 : i < tSz T) : RB (cm_sem 255 [.inr (.inl 41), .inl (nO T i)] r) r (beg tx n (nCh (nT T i))) := by
  rw [cS_255, cF_255_0, if_pos (h.no h0 h1)]
  exact RB_iff (rl_255 ht h _ (nCh (nT T i)) (i + 1) _ 0 (fAt_ch h0 h1) (fun e => h.fl h0 h1 e) (fun hne => ⟨by omega, (nT_1 h0 h1 hne).1, h.fi h0 h1 hne⟩) (Or.inl rfl)) ⟨fun q => q.resolve_left (by decide), fun q => Or.inr q⟩
/-! a function's parameters, its body -/
theorem rl_259 {r : cm_S} {T : tT} (h : rJ tx n r T) {p : Int} (o1 : Option cm_V) (m : Int) (m9 : m ≤ 1000) : ∀ (f : tF) (k j : Int) (w : List Int), f ≠ .leaf → fAt T k f → gF tx n f → 0 ≤ k → k < tSz T → nPa (nT T k) = p → fK f = w ++ [23] → (∀ x ∈ w, x = 22) → 0 ≤ j → j + fLn f = m + 1 → cm_lp cm_sem cm_k259 8 [some (.inr (.inl 41)), o1, some (.inl m), some (.inl (nO T k)), some (.inl j)] [] r = some (.inl (some (.inl (nO T (k + fLn f - 1)))), r) ∧ k + fLn f - 1 < tSz T ∧ nPa (nT T (k + fLn f - 1)) = p ∧ (nLb (nT T (k + fLn f - 1))).1 = 23 ∧ (p < k → ∀ i, k ≤ i → i < k + fSz f → nPa (nT T i) = p → (nLb (nT T i)).1 = 23 → i = k + fLn f - 1) := by
  intro f
  induction f with
  | leaf => intro k j w hne; exact absurd rfl hne
  | inner x l u ch re i1 i2 =>
    intro k j w _ hA hF k0 k9 hp hw h22 j0 hj
    obtain ⟨hl, hch, hre⟩ := hA
    obtain ⟨f1, f2, f3, f4, f5⟩ := hF
    have el : fLn (.inner x l u ch re) = 1 + fLn re := rfl
    have ez : fSz (.inner x l u ch re) = 1 + fSz ch + fSz re := rfl
    have ek : fK (.inner x l u ch re) = l.1 :: fK re := rfl
    have l0 := fLn_0 re
    have o := h.no k0 k9
    rw [ek] at hw
    rw [el] at hj ⊢
    rw [ez]
    by_cases hlf : re = .leaf
    · subst hlf
      have z0 : fLn (.leaf : tF) = 0 := rfl
      have zs : fSz (.leaf : tF) = 0 := rfl
      rw [z0, show k + (1 + 0) - 1 = k by omega]
      rw [z0] at hj
      have hk23 : l.1 = 23 := by
        have hw' : [l.1] = w ++ [23] := hw
        cases w with
        | nil => exact (List.cons.inj hw').1
        | cons a w =>
          have := (List.cons.inj hw').2
          cases w <;> cases this
      refine ⟨?_, k9, hp, by rw [hl]; exact hk23, fun pk i a b c d => ?_⟩
      · rw [cE_259_8, cF_259_8, if_neg (by omega)]
      · by_cases hi : i = k
        · exact hi
        · have := nT_in k0 k9 (j := i) (by omega) (by rw [hch]; omega)
          omega
    · obtain ⟨a, w', rfl, hw2⟩ : ∃ a w', w = a :: w' ∧ (l.1 = a ∧ fK re = w' ++ [23]) := by
        cases w with
        | nil =>
          exfalso
          have : l.1 :: fK re = [23] := hw
          exact hlf (fK_nil (List.cons.inj this).2)
        | cons a w' =>
          have : l.1 :: fK re = a :: (w' ++ [23]) := hw
          exact ⟨a, w', rfl, (List.cons.inj this).1, (List.cons.inj this).2⟩
      have l22 : l.1 = 22 := hw2.1.trans (h22 a (List.mem_cons_self ..))
      have chl : ch = .leaf := by
        rw [l22] at f2
        exact fK_nil f2
      have zs : fSz ch = 0 := by rw [chl]; rfl
      have n2 := nT_2 k0 k9 (by rw [hre]; exact hlf)
      have fr := fAt_re (T := T) k0 k9
      rw [hch, zs, hre, Int.add_zero] at fr
      rw [hch, zs, Int.add_zero] at n2
      have nx := h.nx k0 k9 (by rw [hre]; exact hlf)
      rw [hch, zs, Int.add_zero] at nx
      have lp : 1 ≤ fLn re := by
        cases re with
        | leaf => exact absurd rfl hlf
        | inner x' l' u' ch' re' =>
          have := fLn_0 re'
          show 1 ≤ 1 + fLn re'
          omega
      obtain ⟨b1, b2, b3, b4, b5⟩ := i2 (k + 1) (j + 1) w' hlf fr f5 (by omega) n2.1 (n2.2.1.trans hp) hw2.2 (fun x hx => h22 x (List.mem_cons_of_mem _ hx)) (by omega) (by omega)
      rw [show k + 1 + fLn re - 1 = k + (1 + fLn re) - 1 by omega] at b1 b2 b3 b4 b5
      refine ⟨?_, b2, b3, b4, fun pk i a b c d => ?_⟩
      · rw [cE_259_8, cF_259_8, if_pos (by omega), if_neg (by omega), if_pos o, nx, cm_w_id (by omega) (by omega)]
        exact b1
      · by_cases hi : i = k
        · subst hi
          rw [hl, l22] at d
          omega
        · exact b5 (by omega) i (by omega) (by omega) c d
theorem r_258 {r : cm_S} {T : tT} (h : rJ tx n r T) {p : Int} (p0 : 0 ≤ p) (p1 : p < tSz T) (hk : (nLb (nT T p)).1 = 20 ∨ (nLb (nT T p)).1 = 39) : cm_sem 258 [.inr (.inl 41), .inl (nO T p)] r = some (.inl (some (.inl (nO T (p + fLn (nCh (nT T p)))))), r) ∧ 0 ≤ p + fLn (nCh (nT T p)) ∧ p + fLn (nCh (nT T p)) < tSz T ∧ nPa (nT T (p + fLn (nCh (nT T p)))) = p ∧ (nLb (nT T (p + fLn (nCh (nT T p))))).1 = 23 ∧ (∀ i, 0 < i → i < tSz T → nPa (nT T i) = p → (nLb (nT T i)).1 = 23 → i = p + fLn (nCh (nT T p))) := by
  have g := h.g p0 p1
  have t9 := h.1
  have o := h.no p0 p1
  have hc := gC_ne g.2.1 (by omega)
  have n1 := nT_1 p0 p1 hc
  have lz := fLn_le (nCh (nT T p))
  have l0 := fLn_0 (nCh (nT T p))
  have pz := (nT_p p0 p1).1
  obtain ⟨w, hw, h22⟩ : ∃ w, fK (nCh (nT T p)) = w ++ [23] ∧ ∀ x ∈ w, x = 22 := by
    have := g.2.1
    rcases hk with e | e <;> rw [e] at this <;> exact this
  obtain ⟨b1, b2, b3, b4, b5⟩ := rl_259 h (p := p) (some (.inl (nO T p))) (fLn (nCh (nT T p)) - 1) (by omega) (nCh (nT T p)) (p + 1) 0 w hc (fAt_ch p0 p1) g.2.2.2.1 (by omega) n1.1 n1.2.2 hw h22 (Int.le_refl _) (by omega)
  rw [show p + 1 + fLn (nCh (nT T p)) - 1 = p + fLn (nCh (nT T p)) by omega] at b1 b2 b3 b4 b5
  refine ⟨?_, by omega, b2, b3, b4, fun i i0 i1 hp hk23 => ?_⟩
  · rw [cS_258, cF_258_0, if_pos o, h.mn p0 p1, cm_w_id (by omega) (by omega), cS_259, cF_259_0, if_pos o, h.fi p0 p1 hc, b1, cm_bi_i]
  · have pp := (nT_p (T := T) (i := i) (Int.le_of_lt i0) i1).2
    rw [hp] at pp
    exact b5 (by omega) i (by omega) (by omega) hp hk23
theorem rJ_q {r : cm_S} {T : tT} (h : rJ tx n r T) {v z : Int} : rJ tx n (cm_q r 55 v z) T := by
  obtain ⟨h1, h2, h3, h4, h5⟩ := h
  refine ⟨h1, ⟨h2.1, fun j a b => by rw [cm_q_ne (by omega)]; exact h2.2 j a b⟩, rFo_fr _ _ _ _ _ (fun a i a1 a2 _ _ => by rw [cm_q_ne (by omega)]) h3, rOr_fr _ _ _ (fun i _ _ => by rw [cm_q_ne (by omega)]) (fun i _ _ => by rw [cm_q_ne (by omega)]) h4, h5⟩
theorem rl_254 (ht : tOk tx n) {T : tT} (hT : T.1.1 = 0) : ∀ (d : Nat) (r : cm_S) (i : Int) (o3 : Option cm_V), rJ tx n r T → stOk tx n T (fun j => r.2 55 (nO T j)) i → 0 < i → i + d = tSz T → ∃ r1, cm_lp cm_sem cm_k254 16 [some (.inr (.inl 41)), some (.inl (tSz T)), some (.inl i), o3] [] r = some (.inl none, r1) ∧ r1.1 = r.1 ∧ (∀ a : Nat, a ≠ 55 → r1.2 a = r.2 a) ∧ stOk tx n T (fun j => r1.2 55 (nO T j)) (tSz T) ∧ rJ tx n r1 T := by
  intro d
  induction d with
  | zero =>
    intro r i o3 h st h0 hd
    rw [cE_254_16, cF_254_16, if_neg (by omega)]
    have e : i = tSz T := by omega
    subst e
    exact ⟨r, rfl, rfl, fun _ _ => rfl, st, h⟩
  | succ d ih =>
    intro r i o3 h st h0 hd
    have t9 := h.1
    have i1 : i < tSz T := by omega
    have m := nT_mem h0 i1
    have p1 : nPa (nT T i) < tSz T := by omega
    have o := h.no (Int.le_of_lt h0) i1
    have op := h.no m.1 p1
    have ck := h.k0 h0 i1
    have spa := st (nPa (nT T i)) m.1 m.2.1
    simp only at spa
    have go : ∀ z, (z = 0 ∧ ¬ stP tx n T (fun j => r.2 55 (nO T j)) i ∨ z = 1 ∧ stP tx n T (fun j => r.2 55 (nO T j)) i) → ∃ r1, cm_lp cm_sem cm_k254 16 [some (.inr (.inl 41)), some (.inl (tSz T)), some (.inl (cm_w (i + 1))), some (.inl (nO T i))] [] (cm_q r 55 (nO T i) z) = some (.inl none, r1) ∧ r1.1 = r.1 ∧ (∀ a : Nat, a ≠ 55 → r1.2 a = r.2 a) ∧ stOk tx n T (fun j => r1.2 55 (nO T j)) (tSz T) ∧ rJ tx n r1 T := fun z hz => by
      rw [cm_w_id (by omega) (by omega)]
      have st2 : stOk tx n T (fun j => (cm_q r 55 (nO T i) z).2 55 (nO T j)) (i + 1) := by
        intro j a b
        have fr : ∀ q, 0 ≤ q → q < i → (fun j => (cm_q r 55 (nO T i) z).2 55 (nO T j)) q = (fun j => r.2 55 (nO T j)) q := fun q q0 q1 => by
          show (cm_q r 55 (nO T i) z).2 55 (nO T q) = r.2 55 (nO T q)
          rw [cm_q_at, if_neg (fun e => by have := h.inj q0 (by omega) (Int.le_of_lt h0) i1 e; omega)]
        have e : stP tx n T (fun j => (cm_q r 55 (nO T i) z).2 55 (nO T j)) j ↔ stP tx n T (fun j => r.2 55 (nO T j)) j := by
          by_cases hj : j = 0
          · rw [hj]; exact stP_0 hT _ _
          · exact stP_fr fr (by omega) (by omega) (by omega)
        rw [e]
        by_cases hj : j = i
        · subst hj
          show (cm_q r 55 (nO T j) z).2 55 (nO T j) = 0 ∧ _ ∨ (cm_q r 55 (nO T j) z).2 55 (nO T j) = 1 ∧ _
          rw [cm_q_at, if_pos rfl]
          exact hz
        · have f2 := fr j a (by omega)
          simp only at f2 ⊢
          rw [f2]
          exact st j a (by omega)
      obtain ⟨r1, b1, b2, b3, b4, b5⟩ := ih (cm_q r 55 (nO T i) z) (i + 1) (some (.inl (nO T i))) (rJ_q h) st2 (by omega) (by omega)
      exact ⟨r1, b1, b2, fun a ha => (b3 a ha).trans (cm_q_ne ha), b4, b5⟩
    rw [cE_254_16, cF_254_16, if_pos i1, if_pos (by omega), h.od (Int.le_of_lt h0) i1]
    simp only [if_pos o, h.pa h0 i1, if_pos op, h.kd (Int.le_of_lt h0) i1]
    split
    · next e0 =>
      have sf : ¬ ((nLb (nT T i)).1 = 22 ∨ (nLb (nT T i)).1 = 23) → ¬ stP tx n T (fun j => r.2 55 (nO T j)) i := fun hn q => by
        rcases q with q | q | q
        · exact ck.1 q.1
        · exact q.2 e0
        · exact hn q.1
      have sb : ((nLb (nT T i)).1 = 22 ∨ (nLb (nT T i)).1 = 23) → (stP tx n T (fun j => r.2 55 (nO T j)) i ↔ beg tx n (nCh (nT T (nPa (nT T i) + fLn (nCh (nT T (nPa (nT T i)))))))) := fun hk => ⟨fun q => by
        rcases q with q | q | q
        · exact absurd q.1 ck.1
        · exact absurd e0 q.2
        · exact q.2, fun q => Or.inr (Or.inr ⟨hk, q⟩)⟩
      split
      · next e23 =>
        have pk : (nLb (nT T (nPa (nT T i)))).1 = 20 ∨ (nLb (nT T (nPa (nT T i)))).1 = 39 := ck.2.1 (Or.inr e23)
        obtain ⟨c1, c2, c3, c4, c5, c6⟩ := r_258 h m.1 p1 pk
        have ei := c6 i h0 i1 rfl e23
        have B := r_255 ht h (Int.le_of_lt h0) i1
        have sb' := sb (Or.inr e23)
        rw [← ei] at sb'
        obtain ⟨z, ez, ⟨rfl, hz⟩ | ⟨rfl, hz⟩⟩ := B
        · rw [ez, cm_bi_i, if_pos rfl, h.kd (Int.le_of_lt h0) i1, if_neg (by omega)]
          exact go 0 (Or.inl ⟨rfl, fun q => hz (sb'.mp q)⟩)
        · rw [ez, cm_bi_i, if_neg (by decide)]
          exact go 1 (Or.inr ⟨rfl, sb'.mpr hz⟩)
      · next e23 =>
        split
        · next e22 =>
          have pk : (nLb (nT T (nPa (nT T i)))).1 = 20 ∨ (nLb (nT T (nPa (nT T i)))).1 = 39 := ck.2.1 (Or.inl e22)
          obtain ⟨c1, c2, c3, c4, c5, c6⟩ := r_258 h m.1 p1 pk
          rw [c1, cm_bi_i]
          obtain ⟨z, ez, ⟨rfl, hz⟩ | ⟨rfl, hz⟩⟩ := r_255 ht h c2 c3
          · rw [ez, cm_bi_i, if_pos rfl]
            exact go 0 (Or.inl ⟨rfl, fun q => hz ((sb (Or.inl e22)).mp q)⟩)
          · rw [ez, cm_bi_i, if_neg (by decide)]
            exact go 1 (Or.inr ⟨rfl, (sb (Or.inl e22)).mpr hz⟩)
        · next e22 => exact go 0 (Or.inl ⟨rfl, sf (by omega)⟩)
    · next e0 => exact go 1 (Or.inr ⟨rfl, Or.inr (Or.inl ⟨ck.1, e0⟩)⟩)
theorem r_254 (ht : tOk tx n) {r : cm_S} {T : tT} (h : rJ tx n r T) (hT : T.1.1 = 0) : ∃ r1, cm_sem 254 [.inr (.inl 41), .inl (tSz T)] r = some (.inl none, r1) ∧ r1.1 = r.1 ∧ (∀ a : Nat, a ≠ 55 → r1.2 a = r.2 a) ∧ stOk tx n T (fun j => r1.2 55 (nO T j)) (tSz T) ∧ rJ tx n r1 T := by
  have tz := tSz_1 T
  have o := h.no (i := 0) (Int.le_refl _) (by omega)
  have k0 : (nLb (nT T 0)).1 = 0 := by rw [nT_0]; exact hT
  rw [cS_254, cF_254_0, h.od (Int.le_refl _) (by omega)]
  obtain ⟨z, ez, hz⟩ := r_255 ht h (i := 0) (Int.le_refl _) (by omega)
  rw [ez, cm_bi_i, if_pos o, if_pos (by omega)]
  have st : stOk tx n T (fun j => (cm_q r 55 (nO T 0) z).2 55 (nO T j)) 1 := by
    intro j a b
    have e : j = 0 := by omega
    subst e
    have q : stP tx n T (fun j => (cm_q r 55 (nO T 0) z).2 55 (nO T j)) 0 ↔ beg tx n (nCh (nT T 0)) := by
      unfold stP
      constructor
      · rintro (q | q | q)
        · exact q.2
        · exact absurd k0 q.1
        · omega
      · exact fun q => Or.inl ⟨k0, q⟩
    rw [q]
    show (cm_q r 55 (nO T 0) z).2 55 (nO T 0) = 0 ∧ _ ∨ (cm_q r 55 (nO T 0) z).2 55 (nO T 0) = 1 ∧ _
    rw [cm_q_at, if_pos rfl]
    exact hz
  obtain ⟨r1, b1, b2, b3, b4, b5⟩ := rl_254 ht hT (tSz T - 1).toNat (cm_q r 55 (nO T 0) z) 1 none (rJ_q h) st (by decide) (by omega)
  exact ⟨r1, b1, b2, fun a ha => (b3 a ha).trans (cm_q_ne ha), b4, b5⟩
end TX91
