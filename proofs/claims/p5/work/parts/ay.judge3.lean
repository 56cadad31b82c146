/-! ===== the class's judge: strict code, look() ===== -/
section TX85
variable (tx : Int → Int) (n : Int)
/-- the code's first statements make it strict -/
def beg : tF → Prop
  | .leaf => False
  | .inner _ l _ ch re => (l.1 = 5 ∧ fK0 ch = 34 ∧ lbP l = fP0 ch) ∧ (says tx n (fL0 ch) ∨ beg re)
/-- is i strict, where s tells it of the nodes ahead of it -/
def stP (T : tT) (σ : Int → Int) (i : Int) : Prop := (nLb (nT T i)).1 = 0 ∧ beg tx n (nCh (nT T i)) ∨ (nLb (nT T i)).1 ≠ 0 ∧ σ (nPa (nT T i)) ≠ 0 ∨ ((nLb (nT T i)).1 = 22 ∨ (nLb (nT T i)).1 = 23) ∧ beg tx n (nCh (nT T (nPa (nT T i) + fLn (nCh (nT T (nPa (nT T i)))))))
def stOk (T : tT) (σ : Int → Int) (m : Int) : Prop := ∀ i, 0 ≤ i → i < m → (σ i = 0 ∧ ¬ stP tx n T σ i ∨ σ i = 1 ∧ stP tx n T σ i)
def wT (T : tT) (i : Int) : Prop := tgt (nT T i) ∧ fK0 (nCh (nT T i)) ≠ 31 ∧ fK0 (nCh (nT T i)) ≠ 40 ∧ fK0 (nCh (nT T i)) ≠ 41
def wS (T : tT) (σ : Int → Int) (i : Int) : Prop := ((nLb (nT T i)).1 = 20 ∨ (nLb (nT T i)).1 = 39) ∧ σ (i + 1) ≠ 0 ∧ spc tx n (nLb (nT T i)) ∨ ((nLb (nT T i)).1 = 3 ∨ (nLb (nT T i)).1 = 19 ∨ (nLb (nT T i)).1 = 22) ∧ σ i ≠ 0 ∧ spc tx n (nLb (nT T i)) ∨ ((nLb (nT T i)).1 = 22 ∨ (nLb (nT T i)).1 = 38) ∧ σ i ≠ 0 ∧ rep tx n T i (nPa (nT T i) + 1) ∨ ((nLb (nT T i)).1 ≠ 3 ∧ (nLb (nT T i)).1 ≠ 19 ∧ (nLb (nT T i)).1 ≠ 20 ∧ (nLb (nT T i)).1 ≠ 22 ∧ (nLb (nT T i)).1 ≠ 38 ∧ (nLb (nT T i)).1 ≠ 39) ∧ σ i ≠ 0 ∧ ((tgt (nT T i) ∧ fK0 (nCh (nT T i)) = 31 ∧ spc tx n (fL0 (nCh (nT T i)))) ∨ ((nLb (nT T i)).1 = 45 ∧ lbC (nLb (nT T i)) = 6 ∧ fK0 (nCh (nT T i)) = 31))
def wJ (T : tT) (i : Int) : Prop := (nLb (nT T i)).1 = 11 ∧ (lbN (nLb (nT T i)) = 0 ∧ ¬ inLp T 0 600 (nPa (nT T i)) ∨ lbN (nLb (nT T i)) ≠ 0 ∧ ¬ ∃ w, LbA tx n T (nLb (nT T i)) 600 (nPa (nT T i)) w ∧ w ≠ -1 ∧ lpS T 600 w) ∨ (nLb (nT T i)).1 = 12 ∧ (lbN (nLb (nT T i)) = 0 ∧ ¬ inLp T 1 600 (nPa (nT T i)) ∨ lbN (nLb (nT T i)) ≠ 0 ∧ LbA tx n T (nLb (nT T i)) 600 (nPa (nT T i)) (-1)) ∨ (nLb (nT T i)).1 = 13 ∧ ¬ inFn T 600 (nPa (nT T i)) ∨ (nLb (nT T i)).1 = 15 ∧ (fK0 (nCh (nT T i)) = 21 ∧ dfl T i (nPa (nT T i) + 1)) ∨ (nLb (nT T i)).1 = 16 ∧ ¬ LbA tx n T (nLb (nT T i)) 600 (nPa (nT T i)) (-1)
def bad (T : tT) (σ : Int → Int) (i : Int) : Prop := wT T i ∨ wS tx n T σ i ∨ wJ tx n T i
end TX85
theorem fLn_le : ∀ f : tF, fLn f ≤ fSz f := by
  intro f
  induction f with
  | leaf => exact Int.le_refl _
  | inner x l u ch re i1 i2 =>
    have c0 := fSz_0 ch
    show 1 + fLn re ≤ 1 + fSz ch + fSz re
    omega
theorem fP0_l (f : tF) (h : f ≠ .leaf) : fP0 f = lbP (fL0 f) := by
  cases f with
  | leaf => exact absurd rfl h
  | inner x l u ch re => rfl
theorem fK_nil {f : tF} (h : fK f = []) : f = .leaf := by
  cases f with
  | leaf => rfl
  | inner x l u ch re => cases h
section TX86
variable {tx : Int → Int} {n : Int}
theorem c_119 {s : cm_S} {t : Nat} {T : tT} (h : cJ tx n s t T) {i : Int} (h0 : 0 ≤ i) (h1 : i < tSz T) : RB (cm_sem 119 [.inr (.inl 36), .inl i] s) s ((nLb (nT T i)).1 = 5 ∧ fK0 (nCh (nT T i)) = 34 ∧ lbP (nLb (nT T i)) = fP0 (nCh (nT T i))) := by
  have n9 := h.2.2.2.1
  rw [cS_119, cF_119_0]
  simp only [h.tn, if_pos h.cl, h.kd h0 h1, cm_bi_i]
  split
  · next e =>
    have hc := gC_ne (h.g h0 h1).2.1 (by omega)
    obtain ⟨a1, a2, a3⟩ := nT_1 h0 h1 hc
    rw [h.k1 h0 h1 hc, cm_bi_i]
    split
    · next e2 =>
      simp only [h.tn, if_pos h.cl, h.pl h0 h1, cm_bi_i]
      rw [cm_w_id (by omega) (by omega), h.pl (by omega) a1, cm_bi_i, a2, fP0_l _ hc]
      split
      · next e3 => exact RB_1 ⟨e, e2, e3⟩
      · next e3 => exact RB_0 fun q => e3 q.2.2
    · next e2 => exact RB_0 fun q => e2 q.2.1
  · next e => exact RB_0 fun q => e q.1
/-- a statement of a string alone has two nodes -/
theorem lone_2 {f : tF} (hC : gC 5 (fK f)) (hF : gF tx n f) (h34 : fK0 f = 34) : fSz f = 1 := by
  cases f with
  | leaf => cases h34
  | inner x l u ch re =>
    obtain ⟨a1, a2, a3, a4, a5⟩ := hF
    have hl : l.1 = 34 := h34
    have e1 : re = .leaf := by
      have : ∃ a, fK (.inner x l u ch re) = [a] ∧ isE a := hC
      obtain ⟨a, ha, -⟩ := this
      have : l.1 :: fK re = [a] := ha
      exact fK_nil (List.cons.inj this).2
    have e2 : ch = .leaf := by
      rw [hl] at a2
      exact fK_nil a2
    subst e1 e2
    rfl
theorem cl_118 (ht : tOk tx n) {s : cm_S} {t : Nat} {T : tT} (h : cJ tx n s t T) {p : Int} (p0 : 0 ≤ p) (p1 : p < tSz T) : ∀ (f : tF) (k : Int) (o3 : Option cm_V), fAt T k f → (f ≠ .leaf → k < tSz T ∧ nPa (nT T k) = p) → k + fSz f = p + 1 + fSz (nCh (nT T p)) → p < k → RB (cm_lp cm_sem cm_k118 5 [some (.inr (.inl 36)), some (.inl p), some (.inl k), o3] [] s) s (beg tx n f) := by
  have n9 := h.2.2.2.1
  have t9 := ht.2.1
  intro f
  induction f with
  | leaf =>
    intro k o3 _ _ hk hp
    have hk' : k + 0 = p + 1 + fSz (nCh (nT T p)) := hk
    have hsz := (nT_p p0 p1).1
    rw [cE_118_5, cF_118_5]
    simp only [h.tn, if_pos h.cl, h.2.2.1]
    split
    · next hlt =>
      refine RB_if (c_119 h (i := k) (by omega) hlt) (fun _ => ?_) (fun _ => RB_0 fun q => q)
      have hpa := (nT_p (T := T) (i := k) (by omega) hlt).2
      simp only [h.tn, if_pos h.cl, h.pa (i := k) (by omega) hlt, cm_bi_i]
      rw [if_neg (fun e => by rw [e] at hpa; omega)]
      exact RB_0 fun q => q
    · exact RB_0 fun q => q
  | inner x l u ch re i1 i2 =>
    intro k o3 hA hR hk hp
    obtain ⟨k9, hpa⟩ := hR (by intro z; cases z)
    obtain ⟨hl, hch, hre⟩ := hA
    have e : fSz (.inner x l u ch re) = 1 + fSz ch + fSz re := rfl
    rw [cE_118_5, cF_118_5]
    simp only [h.tn, if_pos h.cl, h.2.2.1]
    rw [if_pos k9]
    have lone := c_119 h (i := k) (by omega) k9
    rw [hl, hch] at lone
    refine RB_if lone (fun hln => ?_) (fun hn => RB_0 fun q => hn q.1)
    have g := h.g (i := k) (by omega) k9
    rw [hl, hch, hre, hln.1] at g
    have s1 := lone_2 g.2.1 g.2.2.2.1 hln.2.1
    have hc : nCh (nT T k) ≠ .leaf := gC_ne (h.g (i := k) (by omega) k9).2.1 (by rw [hl]; omega)
    obtain ⟨a1, a2, a3⟩ := nT_1 (by omega) k9 hc
    rw [hch] at a2 hc
    have gt1 := (h.g (i := k + 1) (by omega) a1).1
    rw [a2] at gt1
    obtain ⟨b1, b2, b3, -⟩ := gt1
    have go : ∀ o, ¬ says tx n (fL0 ch) → RB (cm_lp cm_sem cm_k118 5 [some (.inr (.inl 36)), some (.inl p), some (.inl (cm_w (k + 2))), o] [] s) s (beg tx n (.inner x l u ch re)) := fun o hs => by
      rw [cm_w_id (by omega) (by omega)]
      have fr := fAt_re (T := T) (i := k) (by omega) k9
      rw [hch, hre, s1, show k + 1 + 1 = k + 2 by omega] at fr
      refine RB_iff (i2 (k + 2) o fr (fun hne => ?_) (by omega) (by omega)) ⟨fun q => ⟨hln, Or.inr q⟩, fun q => q.2.resolve_left hs⟩
      have := nT_2 (T := T) (i := k) (by omega) k9 (by rw [hre]; exact hne)
      rw [hch, s1, show k + 1 + 1 = k + 2 by omega] at this
      exact ⟨this.1, this.2.1.trans hpa⟩
    simp only [h.tn, if_pos h.cl, h.pa (i := k) (by omega) k9, h.pl (i := k) (by omega) k9, cm_bi_i]
    have hpl : lbP (nLb (nT T k)) = lbP (fL0 ch) := by rw [hl, hln.2.2, fP0_l _ hc]
    rw [if_pos hpa, cm_w_id (by omega) (by omega), h.ln (by omega) a1, cm_bi_i, a2, hpl]
    split
    · next e12 =>
      rw [cm_w_id (by omega) (by omega)]
      exact RB_if (c_122 ht h.2.2.2.2.1 (p := lbP (fL0 ch) + 1) (w := 1002) (by omega) (by omega) ⟨by decide, by decide⟩) (fun q => RB_1 ⟨hln, Or.inl ⟨e12, q⟩⟩) (fun q => go _ fun z => q z.2)
    · next e12 => exact go _ fun z => e12 z.1
theorem c_118 (ht : tOk tx n) {s : cm_S} {t : Nat} {T : tT} (h : cJ tx n s t T) {i : Int} (h0 : 0 ≤ i) (h1 : i < tSz T) : RB (cm_sem 118 [.inr (.inl 36), .inl i] s) s (beg tx n (nCh (nT T i))) := by
  have n9 := h.2.2.2.1
  rw [cS_118, cF_118_0, cm_w_id (by omega) (by omega)]
  exact cl_118 ht h h0 h1 (nCh (nT T i)) (i + 1) none (fAt_ch h0 h1) (fun hne => ⟨(nT_1 h0 h1 hne).1, (nT_1 h0 h1 hne).2.2⟩) rfl (by omega)
theorem cJ.k0 {s : cm_S} {t : Nat} {T : tT} (h : cJ tx n s t T) {i : Int} (h0 : 0 < i) (h1 : i < tSz T) : chK (nLb (nT T (nPa (nT T i)))).1 (nLb (nT T i)).1 := by
  obtain ⟨a1, a2, a3⟩ := nT_mem h0 h1
  exact gC_ch (h.g a1 (by omega)).2.1 a3
theorem c_116 (ht : tOk tx n) {s : cm_S} {t : Nat} {T : tT} (h : cJ tx n s t T) (hT : T.1.1 = 0) {i : Int} (h0 : 0 ≤ i) (h1 : i < tSz T) : RB (cm_sem 116 [.inr (.inl 36), .inl i] s) s (stP tx n T (s.2 (t + 8)) i) := by
  have n9 := h.2.2.2.1
  rw [cS_116, cF_116_0]
  simp only [h.tn, if_pos h.cl, h.pa h0 h1, h.kd h0 h1, cm_bi_i]
  unfold stP
  by_cases hi : i = 0
  · subst hi
    have : (nLb (nT T 0)).1 = 0 := by rw [nT_0]; exact hT
    rw [if_pos this]
    exact RB_iff (RB_tl (c_118 ht h h0 h1)) ⟨fun q => Or.inl ⟨this, q⟩, fun q => by
      rcases q with q | q | q
      · exact q.2
      · exact absurd this q.1
      · omega⟩
  · obtain ⟨a1, a2, a3⟩ := nT_mem (T := T) (i := i) (by omega) h1
    have ck := h.k0 (i := i) (by omega) h1
    rw [if_neg ck.1]
    have st := cs_123 h.1 h.sz (nPa (nT T i))
    rw [tg_in ⟨a1, by rw [h.2.2.1]; omega⟩] at st
    have hl := fLn_le (nCh (nT T (nPa (nT T i))))
    have hl0 := fLn_0 (nCh (nT T (nPa (nT T i))))
    have hz := (nT_p (T := T) a1 (by omega)).1
    have w1 : cm_w (nPa (nT T i) + fLn (nCh (nT T (nPa (nT T i))))) = nPa (nT T i) + fLn (nCh (nT T (nPa (nT T i)))) := cm_w_id (by omega) (by omega)
    simp only [h.tn, if_pos h.cl, st, h.ch a1 (show nPa (nT T i) < tSz T by omega), cm_bi_i, w1]
    have dir := c_118 ht h (i := nPa (nT T i) + fLn (nCh (nT T (nPa (nT T i))))) (by omega) (by omega)
    by_cases h22 : (nLb (nT T i)).1 = 22
    · rw [if_pos h22]
      simp only [cm_b0]
      split
      · next e => exact RB_iff (RB_bl dir) ⟨fun q => Or.inr (Or.inr ⟨Or.inl h22, q⟩), fun q => by
          rcases q with q | q | q
          · omega
          · exact absurd q.2 e
          · exact q.2⟩
      · next e => exact RB_1 (Or.inr (Or.inl ⟨ck.1, by simpa using e⟩))
    · rw [if_neg h22]
      by_cases h23 : (nLb (nT T i)).1 = 23
      · rw [if_pos h23]
        simp only [cm_b0]
        split
        · next e => exact RB_iff (RB_bl dir) ⟨fun q => Or.inr (Or.inr ⟨Or.inr h23, q⟩), fun q => by
            rcases q with q | q | q
            · omega
            · exact absurd q.2 e
            · exact q.2⟩
        · next e => exact RB_1 (Or.inr (Or.inl ⟨ck.1, by simpa using e⟩))
      · rw [if_neg h23, if_pos cm_b01]
        exact RB_b ⟨fun q => Or.inr (Or.inl ⟨ck.1, q⟩), fun q => by
          rcases q with q | q | q
          · exact absurd q.1 ck.1
          · exact q.2
          · omega⟩
theorem c_130 (ht : tOk tx n) {s : cm_S} {t : Nat} {T : tT} (h : cJ tx n s t T) (hT : T.1.1 = 0) {i : Int} (h0 : 0 ≤ i) (h1 : i < tSz T) : RB (cm_sem 130 [.inr (.inl 36), .inl i] s) s (wS tx n T (s.2 (t + 8)) i) := by
  have n9 := h.2.2.2.1
  have i0 : (nLb (nT T i)).1 ≠ 0 → 0 < i := fun hk => by
    by_cases hi : i = 0
    · subst hi
      rw [nT_0] at hk
      exact absurd hT hk
    · omega
  have st := cs_123 h.1 h.sz i
  rw [tg_in ⟨h0, by rw [h.2.2.1]; omega⟩] at st
  rw [cS_130, cF_130_0]
  simp only [h.tn, if_pos h.cl, h.kd h0 h1, st, cm_bi_i, cm_b0]
  have gd := c_131 ht h h0 h1
  unfold wS
  by_cases h3 : (nLb (nT T i)).1 = 3
  · rw [if_pos h3]
    split
    · next e => exact RB_0 (by simp only [h3]; simp; intro; omega)
    · next e => exact RB_iff (RB_bl gd) (by simp only [h3]; simp; omega)
  rw [if_neg h3]
  by_cases h19 : (nLb (nT T i)).1 = 19
  · rw [if_pos h19]
    split
    · next e => exact RB_0 (by simp only [h19]; simp; intro; omega)
    · next e => exact RB_iff (RB_bl gd) (by simp only [h19]; simp; omega)
  rw [if_neg h19]
  have fn : ((nLb (nT T i)).1 = 20 ∨ (nLb (nT T i)).1 = 39) → i + 1 < tSz T := fun hk => (nT_1 h0 h1 (gC_ne (h.g h0 h1).2.1 (by omega))).1
  have fs : ((nLb (nT T i)).1 = 20 ∨ (nLb (nT T i)).1 = 39) → RB (cm_bi (cm_sem 123 [.inr (.inl t), .inl (cm_w (i + 1))] s) fun z6 s6 => if z6 = 0 then some (.inl (some (.inl 0)), s6) else cm_bi (cm_sem 131 [.inr (.inl 36), .inl i] s6) fun z7 s7 => if z7 = 0 then some (.inl (some (.inl 0)), s7) else some (.inl (some (.inl 1)), s7)) s (s.2 (t + 8) (i + 1) ≠ 0 ∧ spc tx n (nLb (nT T i))) := fun hk => by
    have := fn hk
    have st1 := cs_123 h.1 h.sz (i + 1)
    rw [tg_in ⟨by omega, by rw [h.2.2.1]; omega⟩] at st1
    rw [cm_w_id (by omega) (by omega), st1, cm_bi_i]
    simp only [cm_b0]
    split
    · next e => exact RB_0 fun q => e q.1
    · next e => exact RB_iff (RB_bl gd) ⟨fun q => ⟨by simpa using e, q⟩, fun q => q.2⟩
  by_cases h20 : (nLb (nT T i)).1 = 20
  · rw [if_pos h20]
    exact RB_iff (fs (Or.inl h20)) (by simp only [h20]; simp)
  rw [if_neg h20]
  by_cases h22 : (nLb (nT T i)).1 = 22
  · rw [if_pos h22]
    split
    · next e => exact RB_0 (by simp only [h22]; simp; omega)
    · next e =>
      refine RB_if gd (fun p => RB_1 (Or.inr (Or.inl ⟨Or.inr (Or.inr h22), by simpa using e, p⟩))) (fun p => ?_)
      refine RB_iff (RB_bl (c_132 ht h (i0 (by omega)) h1)) ⟨fun q => Or.inr (Or.inr (Or.inl ⟨Or.inl h22, by simpa using e, q⟩)), fun q => ?_⟩
      rcases q with q | q | q | q
      · omega
      · exact absurd q.2.2 p
      · exact q.2.2
      · exact absurd h22 q.1.2.2.2.1
  rw [if_neg h22]
  by_cases h38 : (nLb (nT T i)).1 = 38
  · rw [if_pos h38]
    split
    · next e => exact RB_0 (by simp only [h38]; simp; omega)
    · next e => exact RB_iff (RB_bl (c_132 ht h (i0 (by omega)) h1)) (by simp only [h38]; simp; omega)
  rw [if_neg h38]
  by_cases h39 : (nLb (nT T i)).1 = 39
  · rw [if_pos h39]
    exact RB_iff (fs (Or.inr h39)) (by simp only [h39]; simp)
  rw [if_neg h39]
  split
  · next e => exact RB_0 (by simp only [h3, h19, h20, h22, h38, h39]; simp; omega)
  · next e =>
    refine RB_if (c_134 ht h h0 h1) (fun p => RB_1 (Or.inr (Or.inr (Or.inr ⟨⟨h3, h19, h20, h22, h38, h39⟩, by simpa using e, Or.inl p⟩)))) (fun p => ?_)
    refine RB_iff (RB_bl (c_135 h h0 h1)) ⟨fun q => Or.inr (Or.inr (Or.inr ⟨⟨h3, h19, h20, h22, h38, h39⟩, by simpa using e, Or.inr q⟩)), fun q => ?_⟩
    rcases q with q | q | q | q
    · omega
    · omega
    · omega
    · exact q.2.2.resolve_left p
end TX86
