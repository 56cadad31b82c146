/-! ===== the reference's printer: bind(), isIn(), hasCall(), startsBadly() ===== -/
theorem stR_C : ∀ x ∈ sgS, stR x = stC x := by
  intro x hx
  rw [sgS_eq] at hx
  revert x
  decide
section TXa2
variable {tx : Int → Int} {n : Int}
/-- a binary sign: its text and its code -/
theorem bin_tx (ht : tOk tx n) {l : tLb} (h : gT tx n l) (hk : l.1 = 46) : 0 ≤ lbP l ∧ lbP l + lbN l ≤ n ∧ 0 < lbN l ∧ (tA tx n (lbP l) = 105 ∧ (lbC l = 14 ∧ lbN l = 2 ∨ lbC l = 15 ∧ lbN l = 10) ∨ ¬ tA tx n (lbP l) = 105 ∧ lbC l ≠ 14 ∧ lbC l ∈ sgS ∧ (lbN l = 1 ∧ lbC l = tA tx n (lbP l) ∨ lbN l = 2 ∧ lbC l = pk2 tx n (lbP l) ∨ lbN l = 3 ∧ lbC l = pk3 tx n (lbP l) ∨ lbN l = 4 ∧ lbC l = pk4 tx n (lbP l))) := by
  have gl := gT_len ht h (by omega)
  obtain ⟨g1, g2, g3, g4⟩ := h
  rw [hk] at g4
  simp only [show ¬ ((46 : Int) = 3 ∨ (46 : Int) = 16 ∨ (46 : Int) = 19 ∨ (46 : Int) = 20 ∨ (46 : Int) = 22 ∨ (46 : Int) = 31) by decide, show ¬ ((46 : Int) = 11 ∨ (46 : Int) = 12 ∨ (46 : Int) = 39) by decide, show ¬ (46 : Int) = 32 by decide, show ¬ (46 : Int) = 33 by decide, show ¬ (46 : Int) = 34 by decide, show ¬ (46 : Int) = 35 by decide, show ¬ (46 : Int) = 38 by decide, show ¬ (46 : Int) = 41 by decide, show ¬ (46 : Int) = 44 by decide, show ¬ (46 : Int) = 45 by decide, if_false, if_true] at g4
  obtain ⟨g5, g6⟩ := g4
  refine ⟨g1, g3, gl, ?_⟩
  rcases g5 with g5 | g5
  · obtain ⟨a1, a2, a3, a4⟩ := tkA6 ht g5
    have ps := sg_pos _ a3
    have hs : tA tx n (lbP l) ∈ sgS := by
      have b1 := tx_b ht (p := lbP l) a1 (by omega)
      rcases a4 with ⟨c1, c2⟩ | ⟨c1, c2⟩ | ⟨c1, c2⟩ | ⟨c1, c2⟩
      · rw [← c2]; exact a3
      · have b2 := tx_b ht (p := lbP l + 1) (by omega) (by omega)
        rw [c2] at a3
        exact sg_up (by omega) (by omega) a3
      · have b2 := tx_b ht (p := lbP l + 1) (by omega) (by omega)
        have b3 := tx_b ht (p := lbP l + 2) (by omega) (by omega)
        rw [c2] at a3
        unfold pk3 at a3
        have := sg_up (by omega) (by unfold pk2; omega) a3
        unfold pk2 at this
        exact sg_up (by omega) (by omega) this
      · have b2 := tx_b ht (p := lbP l + 1) (by omega) (by omega)
        have b3 := tx_b ht (p := lbP l + 2) (by omega) (by omega)
        have b4 := tx_b ht (p := lbP l + 3) (by omega) (by omega)
        rw [c2] at a3
        unfold pk4 at a3
        have := sg_up (by omega) (by unfold pk3 pk2; omega) a3
        unfold pk3 at this
        have := sg_up (by omega) (by unfold pk2; omega) this
        unfold pk2 at this
        exact sg_up (by omega) (by omega) this
    have nc := sg_chr _ hs
    have b1 := tx_b ht (p := lbP l) a1 (by omega)
    exact Or.inr ⟨by omega, by omega, a3, a4⟩
  · obtain ⟨a1, a2, a3, a4, a5⟩ := tkA2 ht g5
    have hc : lbC l = 14 ∨ lbC l = 15 := by
      unfold stC at g6
      rw [if_neg (show ¬ (lbC l = 37 ∨ lbC l = 42 ∨ lbC l = 47) by omega), if_neg (show ¬ (lbC l = 43 ∨ lbC l = 45) by omega), if_neg (show ¬ (lbC l = 15420 ∨ lbC l = 15934 ∨ lbC l = 4079166) by omega), if_neg (show ¬ (lbC l = 8509 ∨ lbC l = 15677 ∨ lbC l = 2178365 ∨ lbC l = 4013373) by omega), if_neg (show ¬ lbC l = 38 by omega), if_neg (show ¬ lbC l = 94 by omega), if_neg (show ¬ lbC l = 124 by omega), if_neg (show ¬ lbC l = 9766 by omega), if_neg (show ¬ lbC l = 31868 by omega)] at g6
      by_cases q : lbC l = 14 ∨ lbC l = 15 ∨ lbC l = 60 ∨ lbC l = 62 ∨ lbC l = 15421 ∨ lbC l = 15933
      · omega
      · rw [if_neg q] at g6
        omega
    left
    rcases hc with e | e
    · rw [e] at a5
      have := tkL_hd (c := 105) (r := [110]) a5
      exact ⟨this.1, Or.inl ⟨e, by have := this.2; simp only [List.length_cons, List.length_nil] at this; omega⟩⟩
    · rw [e] at a5
      have := tkL_hd (c := 105) (r := [110, 115, 116, 97, 110, 99, 101, 111, 102]) a5
      exact ⟨this.1, Or.inr ⟨e, by have := this.2; simp only [List.length_cons, List.length_nil] at this; omega⟩⟩
theorem r_278 (ht : tOk tx n) {r : cm_S} {T : tT} (h : rJ tx n r T) {i : Int} (h0 : 0 ≤ i) (h1 : i < tSz T) (hk : (nLb (nT T i)).1 = 46) : ∃ z, cm_sem 278 [.inr (.inl 41), .inl (nO T i)] r = some (.inl (some (.inl z)), r) ∧ stR z = stC (lbC (nLb (nT T i))) := by
  have n9 := ht.2.1
  have o := h.no h0 h1
  obtain ⟨a1, a2, a3, a4⟩ := bin_tx ht (h.g h0 h1).1 hk
  rw [cS_278, cF_278_0, if_pos o, h.pl h0 h1, if_pos (by omega), h.tex a1 (by omega)]
  have ln := h.ln h0 h1
  have pl := h.pl h0 h1
  generalize nLb (nT T i) = l at *
  rcases a4 with ⟨b1, b2⟩ | ⟨b1, b2, b3, b4⟩
  · rw [if_pos b1]
    refine ⟨1013, rfl, ?_⟩
    rcases b2 with b2 | b2
    · rw [b2.1]; decide
    · rw [b2.1]; decide
  · rw [if_neg b1]
    have step : ∀ (j : Nat) (x : Int), (j : Int) < lbN l → 0 ≤ x → x < 8388608 → cm_lp cm_sem cm_k278 16 [some (.inr (.inl 41)), some (.inl (nO T i)), some (.inl x), some (.inl j)] [] r = cm_lp cm_sem cm_k278 16 [some (.inr (.inl 41)), some (.inl (nO T i)), some (.inl (256 * x + tA tx n (lbP l + j))), some (.inl (j + 1 : Nat))] [] r := fun j x hj x0 x1 => by
      have b := tx_b ht (p := lbP l + j) (by omega) (by omega)
      rw [cE_278_16, cF_278_16]
      simp only [if_pos o, ln, pl]
      rw [if_pos hj, cm_w_id (by omega) (by omega), if_pos (by omega), h.tex (by omega) (by omega), cm_pack x0 x1 (by omega) (by omega), cm_w_id (by omega) (by omega)]
      rfl
    have fin : ∀ (j : Nat) (x : Int), (j : Int) = lbN l → cm_lp cm_sem cm_k278 16 [some (.inr (.inl 41)), some (.inl (nO T i)), some (.inl x), some (.inl j)] [] r = some (.inl (some (.inl x)), r) := fun j x hj => by
      rw [cE_278_16, cF_278_16, if_pos o, ln, if_neg (by omega)]
    have c0 := tx_b ht (p := lbP l) a1 (by omega)
    have s0 := step 0 0 (by omega) (by decide) (by decide)
    have s0' : cm_lp cm_sem cm_k278 16 [some (.inr (.inl 41)), some (.inl (nO T i)), some (.inl 0), some (.inl 0)] [] r = cm_lp cm_sem cm_k278 16 [some (.inr (.inl 41)), some (.inl (nO T i)), some (.inl (tA tx n (lbP l))), some (.inl (1 : Nat))] [] r := by
      rw [show (256 * 0 + tA tx n (lbP l + (0 : Nat))) = tA tx n (lbP l) by rw [show lbP l + ((0 : Nat) : Int) = lbP l by omega]; omega] at s0
      exact s0
    rw [s0']
    refine ⟨lbC l, ?_, stR_C _ b3⟩
    rcases b4 with ⟨c1, c2⟩ | ⟨c1, c2⟩ | ⟨c1, c2⟩ | ⟨c1, c2⟩
    · rw [fin 1 _ (by omega), c2]
    · have d1 := tx_b ht (p := lbP l + 1) (by omega) (by omega)
      rw [step 1 _ (by omega) (by omega) (by omega), fin 2 _ (by omega), c2]
      rfl
    · have d1 := tx_b ht (p := lbP l + 1) (by omega) (by omega)
      have d2 := tx_b ht (p := lbP l + 2) (by omega) (by omega)
      rw [step 1 _ (by omega) (by omega) (by omega), step 2 _ (by omega) (by show 0 ≤ 256 * tA tx n (lbP l) + tA tx n (lbP l + 1); omega) (by show 256 * tA tx n (lbP l) + tA tx n (lbP l + 1) < _; omega), fin 3 _ (by omega), c2]
      rfl
    · have d1 := tx_b ht (p := lbP l + 1) (by omega) (by omega)
      have d2 := tx_b ht (p := lbP l + 2) (by omega) (by omega)
      have d3 := tx_b ht (p := lbP l + 3) (by omega) (by omega)
      have ps := sg_pos _ b3
      rw [c2] at ps
      unfold pk4 pk3 pk2 at ps
      rw [step 1 _ (by omega) (by omega) (by omega), step 2 _ (by omega) (by show 0 ≤ 256 * tA tx n (lbP l) + tA tx n (lbP l + 1); omega) (by show 256 * tA tx n (lbP l) + tA tx n (lbP l + 1) < _; omega), step 3 _ (by omega) (by show 0 ≤ 256 * (256 * tA tx n (lbP l) + tA tx n (lbP l + 1)) + tA tx n (lbP l + 2); omega) (by show 256 * (256 * tA tx n (lbP l) + tA tx n (lbP l + 1)) + tA tx n (lbP l + 2) < _; omega), fin 4 _ (by omega), c2]
      rfl
theorem r_277 (ht : tOk tx n) {r : cm_S} {T : tT} (h : rJ tx n r T) {i : Int} (h0 : 0 ≤ i) (h1 : i < tSz T) : cm_sem 277 [.inr (.inl 41), .inl (nO T i)] r = some (.inl (some (.inl (tB (nLb (nT T i))))), r) := by
  have o := h.no h0 h1
  have b := stC_b (lbC (nLb (nT T i)))
  rw [cS_277, cF_277_0, if_pos o, h.kd h0 h1]
  unfold tB
  by_cases c44 : (nLb (nT T i)).1 = 44
  · rw [if_pos c44, if_neg (by omega), if_neg (by omega), if_neg (by omega), if_neg (by omega), if_neg (by omega), if_pos c44]
  rw [if_neg c44]
  by_cases c45 : (nLb (nT T i)).1 = 45
  · rw [if_pos c45, if_neg (by omega), if_neg (by omega), if_neg (by omega), if_neg (by omega), if_pos c45]
  rw [if_neg c45]
  by_cases c46 : (nLb (nT T i)).1 = 46
  · obtain ⟨z, e1, e2⟩ := r_278 ht h h0 h1 c46
    rw [if_pos c46, e1, cm_bi_i, cs_237, cm_bi_i, e2, cm_w_id (by omega) (by omega), if_neg (by omega), if_neg (by omega), if_neg (by omega), if_pos c46]
  rw [if_neg c46]
  by_cases c47 : (nLb (nT T i)).1 = 47
  · rw [if_pos c47, if_neg (by omega), if_neg (by omega), if_pos c47]
  rw [if_neg c47]
  by_cases c48 : (nLb (nT T i)).1 = 48
  · rw [if_pos c48, if_neg (by omega), if_pos c48]
  rw [if_neg c48]
  by_cases c49 : (nLb (nT T i)).1 = 49
  · rw [if_pos c49, if_pos c49]
  rw [if_neg c49, if_neg c49, if_neg c48, if_neg c47, if_neg c46, if_neg c45, if_neg c44]
theorem r_279 (ht : tOk tx n) {r : cm_S} {T : tT} (h : rJ tx n r T) {i : Int} (h0 : 0 ≤ i) (h1 : i < tSz T) : RB (cm_sem 279 [.inr (.inl 41), .inl (nO T i)] r) r (lbC (nLb (nT T i)) = 14 ∧ (nLb (nT T i)).1 = 46) := by
  have n9 := ht.2.1
  have o := h.no h0 h1
  rw [cS_279, cF_279_0]
  simp only [if_pos o, h.kd h0 h1, h.pl h0 h1, h.ln h0 h1]
  by_cases c46 : (nLb (nT T i)).1 = 46
  · obtain ⟨a1, a2, a3, a4⟩ := bin_tx ht (h.g h0 h1).1 c46
    rw [if_pos c46, if_pos (by omega), h.tex a1 (by omega)]
    rcases a4 with ⟨b1, b2⟩ | ⟨b1, b2, b3, b4⟩
    · rw [if_pos b1]
      rcases b2 with b2 | b2
      · rw [if_pos b2.2]; exact RB_1 ⟨b2.1, c46⟩
      · rw [if_neg (by omega)]; exact RB_0 fun q => by omega
    · rw [if_neg b1]
      exact RB_0 fun q => b2 q.1
  · rw [if_neg c46]
    exact RB_0 fun q => c46 q.2
theorem rl_283 {r : cm_S} {T : tT} (h : rJ tx n r T) (o1 : Option cm_V) : ∀ (f : tF) (k : Int) (o3 : Option cm_V), fAt T k f → f ≠ .leaf → 0 ≤ k → k < tSz T → RB (cm_lp cm_sem cm_k283 3 [some (.inr (.inl 41)), o1, some (.inl (nO T k)), o3] [] r) r (fCa f = true) := by
  intro f
  induction f with
  | leaf => intro k o3 _ hne; exact absurd rfl hne
  | inner x l u ch re i1 i2 =>
    intro k o3 hA _ k0 k1
    obtain ⟨hl, hch, hre⟩ := hA
    have o := h.no k0 k1
    rw [cE_283_3, cF_283_3]
    simp only [if_pos o, h.kd k0 k1, hl]
    have e : fCa (.inner x l u ch re) = if l.1 = 40 ∨ l.1 = 41 then fCa ch else decide (l.1 = 43) := rfl
    rw [e]
    by_cases h4 : l.1 = 40 ∨ l.1 = 41
    · rw [if_pos h4]
      have gc := (h.g k0 k1).2.1
      rw [hl, hch] at gc
      have hc : ch ≠ .leaf := gC_n2 gc (by omega)
      have n1 := nT_1 k0 k1 (by rw [hch]; exact hc)
      rw [hch] at n1
      have o1' := h.no (i := k + 1) (by omega) n1.1
      have fc := fAt_ch (T := T) k0 k1
      rw [hch] at fc
      rw [h.fi k0 k1 (by rw [hch]; exact hc), h.kd (i := k + 1) (by omega) n1.1, n1.2.1, fL0_k]
      have fk : fCa ch = if fK0 ch = 40 ∨ fK0 ch = 41 then fCa ch else decide (fK0 ch = 43) := by
        cases ch with
        | leaf => exact absurd rfl hc
        | inner x2 l2 u2 ch2 re2 =>
          show fCa (.inner x2 l2 u2 ch2 re2) = if l2.1 = 40 ∨ l2.1 = 41 then _ else decide (l2.1 = 43)
          by_cases q : l2.1 = 40 ∨ l2.1 = 41
          · rw [if_pos q]
          · rw [if_neg q]
            show (if l2.1 = 40 ∨ l2.1 = 41 then fCa ch2 else decide (l2.1 = 43)) = _
            rw [if_neg q]
      have no : ¬ (fK0 ch = 40 ∨ fK0 ch = 41) → ¬ fK0 ch = 43 → ¬ fCa ch = true := fun q1 q2 => by
        rw [fk, if_neg q1, decide_eq_true_iff]
        exact q2
      have go : ∀ o, RB (cm_lp cm_sem cm_k283 3 [some (.inr (.inl 41)), o1, some (.inl (nO T (k + 1))), o] [] r) r (fCa ch = true) := fun o => i1 (k + 1) o fc hc (by omega) n1.1
      simp only [if_pos o1']
      by_cases h40 : l.1 = 40
      · rw [if_pos h40]
        by_cases h43 : 43 < fK0 ch
        · rw [if_pos h43]
          exact RB_0 (no (by omega) (by omega))
        · rw [if_neg h43, if_neg (by omega)]
          exact go _
      · rw [if_neg h40, if_pos (by omega)]
        by_cases h43 : 43 < fK0 ch
        · rw [if_pos h43]
          exact RB_0 (no (by omega) (by omega))
        · rw [if_neg h43, if_pos (by omega)]
          by_cases h33 : fK0 ch = 33
          · rw [if_pos h33]
            exact RB_0 (no (by omega) (by omega))
          · rw [if_neg h33]
            exact go _
    · rw [if_neg h4, if_neg (show ¬ l.1 = 40 by omega), if_neg (show ¬ l.1 = 41 by omega)]
      by_cases h43 : l.1 = 43
      · rw [if_pos h43]; exact RB_1 (decide_eq_true h43)
      · rw [if_neg h43]; exact RB_0 (by rw [decide_eq_true_iff]; exact h43)
theorem r_283 {r : cm_S} {T : tT} (h : rJ tx n r T) {i : Int} (h0 : 0 ≤ i) (h1 : i < tSz T) : RB (cm_sem 283 [.inr (.inl 41), .inl (nO T i)] r) r (tCa (nLb (nT T i), nCh (nT T i)) = true) := by
  rw [cS_283, cF_283_0]
  exact rl_283 h _ (.inner 0 (nLb (nT T i)) () (nCh (nT T i)) (nRe (nT T i))) i none ⟨rfl, rfl, rfl⟩ (by intro z; cases z) h0 h1
def wntF (l : tLb) : Int := if l.1 = 49 then 1 else if l.1 = 47 then 3 else if l.1 = 46 then tB l else if l.1 = 48 then 15 else if l.1 = 44 then 15 else if l.1 = 43 then 15 else if l.1 = 41 then 15 else if l.1 = 40 then 15 else 100
theorem r_288 (ht : tOk tx n) {r : cm_S} {T : tT} (h : rJ tx n r T) {i : Int} (h0 : 0 ≤ i) (h1 : i < tSz T) : cm_sem 288 [.inr (.inl 41), .inl (nO T i)] r = some (.inl (some (.inl (wntF (nLb (nT T i))))), r) := by
  have o := h.no h0 h1
  rw [cS_288, cF_288_0, if_pos o, h.kd h0 h1, r_277 ht h h0 h1, cm_bi_i]
  unfold wntF
  generalize (nLb (nT T i)).1 = k
  by_cases c49 : k = 49
  · rw [if_pos c49, if_pos c49]
  rw [if_neg c49, if_neg c49]
  by_cases c47 : k = 47
  · rw [if_pos c47, if_pos c47]
  rw [if_neg c47, if_neg c47]
  by_cases c46 : k = 46
  · rw [if_pos c46, if_pos c46]
  rw [if_neg c46, if_neg c46]
  by_cases c48 : k = 48
  · rw [if_pos c48, if_pos c48]
  rw [if_neg c48, if_neg c48]
  by_cases c44 : k = 44
  · rw [if_pos c44, if_pos c44]
  rw [if_neg c44, if_neg c44]
  by_cases c43 : k = 43
  · rw [if_pos c43, if_pos c43]
  rw [if_neg c43, if_neg c43]
  by_cases c41 : k = 41
  · rw [if_pos c41, if_pos c41]
  rw [if_neg c41, if_neg c41]
  by_cases c40 : k = 40
  · rw [if_pos c40, if_pos c40]
  rw [if_neg c40, if_neg c40]
theorem wnt_w {l : tLb} (hk : isSb l.1) : wntF l = tWn l.1 (lbC l) 0 ∧ wntF l < 100 := by
  have b := tB_0 l
  unfold wntF
  rcases hk with e | e | e | e | e | e | e | e
  · simp [e, tWn]
  · simp [e, tWn]
  · simp [e, tWn]
  · simp [e, tWn]
  · have : tB l = 2 + stC (lbC l) := by simp [tB, e]
    simp [e, tWn, this]
    omega
  · simp [e, tWn]
  · simp [e, tWn]
  · simp [e, tWn]
theorem wnt_n {l : tLb} (hk : ¬ isSb l.1) : wntF l = 100 := by
  unfold wntF
  rw [if_neg (by omega), if_neg (by omega), if_neg (by omega), if_neg (by omega), if_neg (by omega), if_neg (by omega), if_neg (by omega), if_neg (by omega)]
theorem rl_287 (ht : tOk tx n) {r : cm_S} {T : tT} (h : rJ tx n r T) (o1 : Option cm_V) : ∀ (f : tF) (k : Int) (x : Nat) (l : tLb) (u : Unit) (ch re : tF) (o4 : Option cm_V), f = .inner x l u ch re → fAt T k f → 0 ≤ k → k < tSz T → RB (cm_lp cm_sem cm_k287 5 [some (.inr (.inl 41)), o1, some (.inl (nO T k)), some (.inl 1), o4] [] r) r ((if l.1 = 37 ∨ l.1 = 39 then true else if isSb l.1 then sbF l ch else false) = true) := by
  intro f
  induction f with
  | leaf => intro k x l u ch re o4 e; cases e
  | inner x' l' u' ch' re' i1 i2 =>
    intro k x l u ch re o4 e hA k0 k1
    cases e
    obtain ⟨hl, hch, hre⟩ := hA
    have o := h.no k0 k1
    have stop : ∀ o4, isSb l'.1 ∨ ¬ isSb l'.1 → RB (cm_lp cm_sem cm_k287 5 [some (.inr (.inl 41)), o1, some (.inl (nO T k)), some (.inl 0), o4] [] r) r (l'.1 = 37 ∨ l'.1 = 39) := fun o4 _ => by
      rw [cE_287_5, cF_287_5, if_pos rfl, if_pos o, h.kd k0 k1, hl]
      by_cases c37 : l'.1 = 37
      · rw [if_pos c37]; exact RB_1 (Or.inl c37)
      · rw [if_neg c37, if_pos o]
        by_cases c39 : l'.1 = 39
        · rw [if_pos c39]; exact RB_1 (Or.inr c39)
        · rw [if_neg c39]; exact RB_0 (by omega)
    rw [cE_287_5, cF_287_5, if_neg (by decide), if_pos o, r_288 ht h k0 k1, cm_bi_i, hl]
    by_cases hs : isSb l'.1
    · obtain ⟨w1, w2⟩ := wnt_w hs
      have gc := (h.g k0 k1).2.1
      rw [hl, hch] at gc
      have hc : ch' ≠ .leaf := by
        by_cases q : l'.1 = 44 ∨ l'.1 = 48
        · exact gC_ne gc (by omega)
        · exact gC_n2 gc (by omega)
      have n1 := nT_1 k0 k1 (by rw [hch]; exact hc)
      rw [hch] at n1
      have o1' := h.no (i := k + 1) (by omega) n1.1
      have fc := fAt_ch (T := T) k0 k1
      rw [hch] at fc
      rw [if_pos w2, h.fi k0 k1 (by rw [hch]; exact hc), r_277 ht h (by omega) n1.1, cm_bi_i, r_288 ht h k0 k1, cm_bi_i, hl, n1.2.1]
      simp only [h.kd k0 k1, h.kd (i := k + 1) (by omega) n1.1, hl, n1.2.1, if_pos o, if_pos o1']
      rw [if_neg (show ¬ (l'.1 = 37 ∨ l'.1 = 39) by omega), if_pos hs]
      cases hcc : ch' with
      | leaf => exact absurd hcc hc
      | inner x2 l2 u2 ch2 re2 =>
        have eF0 : fL0 (.inner x2 l2 u2 ch2 re2) = l2 := rfl
        rw [eF0]
        have es : sbF l' (.inner x2 l2 u2 ch2 re2) = if br1 l' 0 l2 ch2 false = true then false else if l2.1 = 37 ∨ l2.1 = 39 then true else if isSb l2.1 then sbF l2 ch2 else false := rfl
        rw [es]
        have b1 : br1 l' 0 l2 ch2 false = true ↔ (tB l2 < wntF l' ∨ l'.1 = 41 ∧ l2.1 = 33) := by
          unfold br1
          rw [decide_eq_true_iff, w1]
          constructor
          · rintro (q | q | q | q)
            · exact Or.inl q
            · exact Or.inr q
            · omega
            · exact absurd q.1 (by decide)
          · rintro (q | q)
            · exact Or.inl q
            · exact Or.inr (Or.inl q)
        have bad : br1 l' 0 l2 ch2 false = true → ∀ o4, RB (cm_lp cm_sem cm_k287 5 [some (.inr (.inl 41)), o1, some (.inl (nO T k)), some (.inl 0), o4] [] r) r ((if br1 l' 0 l2 ch2 false = true then false else if l2.1 = 37 ∨ l2.1 = 39 then true else if isSb l2.1 then sbF l2 ch2 else false) = true) := fun q o4 => by
          rw [if_pos q]
          exact RB_iff (stop o4 (Or.inl hs)) ⟨fun z => by omega, fun z => by cases z⟩
        have good : ¬ br1 l' 0 l2 ch2 false = true → ∀ o4, RB (cm_lp cm_sem cm_k287 5 [some (.inr (.inl 41)), o1, some (.inl (nO T (k + 1))), some (.inl 1), o4] [] r) r ((if br1 l' 0 l2 ch2 false = true then false else if l2.1 = 37 ∨ l2.1 = 39 then true else if isSb l2.1 then sbF l2 ch2 else false) = true) := fun q o4 => by
          rw [if_neg q]
          exact i1 (k + 1) x2 l2 u2 ch2 re2 o4 hcc fc (by omega) n1.1
        by_cases q1 : tB l2 < wntF l'
        · rw [if_pos q1]
          exact bad (b1.mpr (Or.inl q1)) _
        · rw [if_neg q1]
          by_cases q2 : l'.1 = 41
          · rw [if_pos q2]
            by_cases q3 : l2.1 = 33
            · rw [if_pos q3]
              exact bad (b1.mpr (Or.inr ⟨q2, q3⟩)) _
            · rw [if_neg q3]
              exact good (fun z => (b1.mp z).elim q1 fun y => q3 y.2) _
          · rw [if_neg q2]
            exact good (fun z => (b1.mp z).elim q1 fun y => q2 y.1) _
    · have w := wnt_n hs
      rw [w, if_neg (by decide), if_neg hs]
      refine RB_iff (stop _ (Or.inr hs)) ?_
      by_cases q : l'.1 = 37 ∨ l'.1 = 39
      · rw [if_pos q]; exact ⟨fun _ => rfl, fun _ => q⟩
      · rw [if_neg q]; exact ⟨fun z => absurd z q, fun z => by cases z⟩
/-- startsBadly(), of the thing of a statement -/
theorem r_287 (ht : tOk tx n) {r : cm_S} {T : tT} (h : rJ tx n r T) {i : Int} (h0 : 0 ≤ i) (h1 : i < tSz T) {e : tLb} (he : e.1 = 5) : RB (cm_sem 287 [.inr (.inl 41), .inl (nO T i)] r) r (sbF e (tCo (nLb (nT T i)) (nCh (nT T i)) .leaf) = true) := by
  have b0 : br1 e 0 (nLb (nT T i)) (nCh (nT T i)) false = false := by
    have w0 : tWn e.1 (lbC e) 0 = 0 := by simp [tWn, he]
    have tb := tB_0 (nLb (nT T i))
    unfold br1
    rw [decide_eq_false_iff_not, w0, he]
    intro q
    rcases q with q | q | q | q
    · omega
    · omega
    · omega
    · exact absurd q.1 (by decide)
  have es : sbF e (tCo (nLb (nT T i)) (nCh (nT T i)) .leaf) = if br1 e 0 (nLb (nT T i)) (nCh (nT T i)) false = true then false else if (nLb (nT T i)).1 = 37 ∨ (nLb (nT T i)).1 = 39 then true else if isSb (nLb (nT T i)).1 then sbF (nLb (nT T i)) (nCh (nT T i)) else false := rfl
  rw [es, b0, if_neg (by decide), cS_287, cF_287_0]
  exact rl_287 ht h _ (.inner 0 (nLb (nT T i)) () (nCh (nT T i)) (nRe (nT T i))) i 0 _ () _ _ none rfl ⟨rfl, rfl, rfl⟩ h0 h1
end TXa2
