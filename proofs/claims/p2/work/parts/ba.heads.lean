/-! ===== the class's printer: headings and brackets ===== -/
theorem nT_r1 {T : tT} {i : Int} (h0 : 0 ≤ i) (h1 : i < tSz T) (hc : nCh (nT T i) ≠ .leaf) : nRk (nT T (i + 1)) = 0 := by
  cases hch : nCh (nT T i) with
  | leaf => exact absurd hch hc
  | inner x l u ch re =>
    have := nd_1 (fo [T]) 0 (-1) 0 0 i h0 (by rw [fSz_T]; omega) x l u ch re hch
    unfold nT
    rw [this]
theorem nT_r2 {T : tT} {i : Int} (h0 : 0 ≤ i) (h1 : i < tSz T) (hr : nRe (nT T i) ≠ .leaf) : nRk (nT T (i + 1 + fSz (nCh (nT T i)))) = nRk (nT T i) + 1 := by
  cases hre : nRe (nT T i) with
  | leaf => exact absurd hre hr
  | inner x l u ch re =>
    obtain ⟨a1, a2⟩ := nd_2 (fo [T]) 0 (-1) 0 0 i h0 (by rw [fSz_T]; omega) x l u ch re hre
    show nRk (nd (fo [T]) 0 (-1) 0 0 (i + 1 + fSz (nCh (nd (fo [T]) 0 (-1) 0 0 i)))) = _
    rw [a1]
    rfl
def hdF (pk r : Int) (hp bp : Bool) : Bool := if pk = 9 ∨ pk = 10 then decide (r = 0) else if hp = false ∨ bp = true then false else if pk = 36 ∨ pk = 37 ∨ pk = 39 then false else if pk = 40 ∨ pk = 42 ∨ pk = 43 then decide (r = 0) else true
def misF (pl : tLb) (r : Int) (l : tLb) (ch : tF) (hd : Bool) : Prop := pl.1 = 41 ∧ l.1 = 33 ∨ pl.1 = 42 ∧ r = 0 ∧ tCa (l, ch) = true ∨ hd = true ∧ lbC l = 14 ∧ l.1 = 46
/-- brackets, but for the first thing of a statement -/
def br1 (pl : tLb) (r : Int) (l : tLb) (ch : tF) (hd : Bool) : Bool := decide (tB l < tWn pl.1 (lbC pl) r ∨ (pl.1 = 41 ∧ l.1 = 33 ∨ pl.1 = 42 ∧ r = 0 ∧ tCa (l, ch) = true ∨ hd = true ∧ lbC l = 14 ∧ l.1 = 46))
abbrev isSb (k : Int) : Prop := k = 40 ∨ k = 41 ∨ k = 43 ∨ k = 44 ∨ k = 46 ∨ k = 47 ∨ k = 48 ∨ k = 49
/-- would it be read as a block or as a declaration -/
def sbF : tLb → tF → Bool
  | _, .leaf => false
  | pl, .inner _ l _ ch _ => if br1 pl 0 l ch false = true then false else if l.1 = 37 ∨ l.1 = 39 then true else if isSb l.1 then sbF l ch else false
def brF (pl : tLb) (r : Int) (l : tLb) (ch : tF) (hd : Bool) : Bool := br1 pl r l ch hd || decide (pl.1 = 5 ∧ (sbF pl (tCo l ch .leaf) = true ∨ l.1 = 34 ∧ lbP l ≠ lbP pl))
def hbOk (B H : Int → Int) : tLb → Int → Bool → Bool → Int → tF → Prop
  | _, _, _, _, _, .leaf => True
  | pl, r, hp, bp, k, .inner _ l _ ch re => H k = cm_n (hdF pl.1 r hp bp) ∧ B k = cm_n (br1 pl r l ch (hdF pl.1 r hp bp)) ∧ hbOk B H l 0 (hdF pl.1 r hp bp) (br1 pl r l ch (hdF pl.1 r hp bp)) (k + 1) ch ∧ hbOk B H pl (r + 1) hp bp (k + 1 + fSz ch) re
theorem hbOk_fr {B H B' H' : Int → Int} : ∀ (f : tF) (pl : tLb) (r : Int) (hp bp : Bool) (k : Int), (∀ i, k ≤ i → i < k + fSz f → B' i = B i ∧ H' i = H i) → hbOk B H pl r hp bp k f → hbOk B' H' pl r hp bp k f := by
  intro f
  induction f with
  | leaf => intro pl r hp bp k _ _; trivial
  | inner x l u ch re i1 i2 =>
    intro pl r hp bp k hf h
    have e : fSz (.inner x l u ch re) = 1 + fSz ch + fSz re := rfl
    have c0 := fSz_0 ch
    have r0 := fSz_0 re
    obtain ⟨a1, a2, a3, a4⟩ := h
    have g := hf k (by omega) (by omega)
    exact ⟨g.2.trans a1, g.1.trans a2, i1 _ _ _ _ _ (fun i b1 b2 => hf i (by omega) (by omega)) a3, i2 _ _ _ _ _ (fun i b1 b2 => hf i (by omega) (by omega)) a4⟩
section TX97
variable {tx : Int → Int} {n : Int}
theorem pL_ne {T : tT} {i : Int} (h : 0 ≤ nPa (nT T i)) : pL T i = nLb (nT T (nPa (nT T i))) := by
  unfold pL
  rw [if_neg (by omega)]
theorem RB_lt {s : cm_S} {a b : Int} : RB (if a < b then some (.inl (some (.inl 1)), s) else some (.inl (some (.inl 0)), s)) s (a < b) := by
  by_cases h : a < b
  · rw [if_pos h]; exact RB_1 h
  · rw [if_neg h]; exact RB_0 h
theorem gC_n2 {k : Int} {f : tF} (h : gC k (fK f)) (hk : k = 40 ∨ k = 41 ∨ k = 42 ∨ k = 43 ∨ k = 46 ∨ k = 47 ∨ k = 49 ∨ k = 2) : f ≠ .leaf := by
  rintro rfl
  unfold gC at h
  have e : fK (.leaf : tF) = [] := rfl
  rw [e] at h
  rcases hk with rfl | rfl | rfl | rfl | rfl | rfl | rfl | rfl <;> simp at h
theorem c_144 {s : cm_S} {t : Nat} {T : tT} (h : cP tx n s t T) {i : Int} (h0 : 0 ≤ i) (h1 : i < tSz T) {hp bp : Bool} (hq : 0 ≤ nPa (nT T i) → s.2 40 (nPa (nT T i)) = cm_n hp ∧ s.2 39 (nPa (nT T i)) = cm_n bp) (hn : nPa (nT T i) < 0 → hp = false) : RB (cm_sem 144 [.inr (.inl 37), .inl i] s) s (hdF (pL T i).1 (nRk (nT T i)) hp bp = true) := by
  have t9 := h.1.2.2.2.1
  have pp := (nT_p h0 h1).2
  rw [cS_144, cF_144_0]
  simp only [h.tn, if_pos h.1.cl, h.1.pa h0 h1, h.kp h0 h1, h.rk h0 h1, cm_bi_i]
  generalize (pL T i).1 = pk
  generalize nRk (nT T i) = r
  generalize nPa (nT T i) = pa at *
  by_cases hr : r = 0
  · rw [if_pos hr]
    by_cases c9 : pk = 9
    · rw [if_pos c9]
      exact RB_1 (by simp [hdF, hr, c9])
    rw [if_neg c9]
    by_cases c10 : pk = 10
    · rw [if_pos c10]
      exact RB_1 (by simp [hdF, hr, c10])
    rw [if_neg c10]
    by_cases hpa : pa < 0
    · rw [if_pos hpa]
      exact RB_0 (by simp [hdF, hn hpa, c9, c10])
    obtain ⟨q1, q2⟩ := hq (by omega)
    rw [if_neg hpa, if_pos (by omega), if_pos (by omega), q1, q2]
    simp only [cm_n0]
    cases hp with
    | false =>
      rw [if_pos rfl]
      exact RB_0 (by simp [hdF, c9, c10])
    | true =>
      rw [if_neg (by decide), if_pos (by omega)]
      cases bp with
      | true =>
        rw [if_neg (by decide)]
        exact RB_0 (by simp [hdF, c9, c10])
      | false =>
        rw [if_pos rfl]
        by_cases c36 : pk = 36
        · rw [if_pos c36]
          exact RB_0 (by simp [hdF, c36])
        rw [if_neg c36]
        by_cases c37 : pk = 37
        · rw [if_pos c37]
          exact RB_0 (by simp [hdF, c37])
        rw [if_neg c37]
        by_cases c39 : pk = 39
        · rw [if_pos c39]
          exact RB_0 (by simp [hdF, c39])
        rw [if_neg c39]
        by_cases c40 : pk = 40
        · rw [if_pos c40]
          exact RB_1 (by simp [hdF, hr, c40])
        rw [if_neg c40]
        by_cases c42 : pk = 42
        · rw [if_pos c42]
          exact RB_1 (by simp [hdF, hr, c42])
        rw [if_neg c42]
        by_cases c43 : pk = 43
        · rw [if_pos c43]
          exact RB_1 (by simp [hdF, hr, c43])
        rw [if_neg c43]
        exact RB_1 (by simp [hdF, c9, c10, c36, c37, c39, c40, c42, c43])
  · rw [if_neg hr]
    by_cases c9 : pk = 9
    · rw [if_pos c9]
      exact RB_0 (by simp [hdF, hr, c9])
    rw [if_neg c9]
    by_cases c10 : pk = 10
    · rw [if_pos c10]
      exact RB_0 (by simp [hdF, hr, c10])
    rw [if_neg c10]
    by_cases hpa : pa < 0
    · rw [if_pos hpa]
      exact RB_0 (by simp [hdF, hn hpa, c9, c10])
    obtain ⟨q1, q2⟩ := hq (by omega)
    rw [if_neg hpa, if_pos (by omega), if_pos (by omega), q1, q2]
    simp only [cm_n0]
    cases hp with
    | false =>
      rw [if_pos rfl]
      exact RB_0 (by simp [hdF, c9, c10])
    | true =>
      rw [if_neg (by decide), if_pos (by omega)]
      cases bp with
      | true =>
        rw [if_neg (by decide)]
        exact RB_0 (by simp [hdF, c9, c10])
      | false =>
        rw [if_pos rfl]
        by_cases c36 : pk = 36
        · rw [if_pos c36]
          exact RB_0 (by simp [hdF, c36])
        rw [if_neg c36]
        by_cases c37 : pk = 37
        · rw [if_pos c37]
          exact RB_0 (by simp [hdF, c37])
        rw [if_neg c37]
        by_cases c39 : pk = 39
        · rw [if_pos c39]
          exact RB_0 (by simp [hdF, c39])
        rw [if_neg c39]
        by_cases c40 : pk = 40
        · rw [if_pos c40]
          exact RB_0 (by simp [hdF, hr, c40])
        rw [if_neg c40]
        by_cases c42 : pk = 42
        · rw [if_pos c42]
          exact RB_0 (by simp [hdF, hr, c42])
        rw [if_neg c42]
        by_cases c43 : pk = 43
        · rw [if_pos c43]
          exact RB_0 (by simp [hdF, hr, c43])
        rw [if_neg c43]
        exact RB_1 (by simp [hdF, c9, c10, c36, c37, c39, c40, c42, c43])
theorem c_147 {s : cm_S} {t : Nat} {T : tT} (h : cP tx n s t T) {i : Int} (h0 : 0 ≤ i) (h1 : i < tSz T) : cm_sem 147 [.inr (.inl 37), .inl i] s = some (.inl (some (.inl (tB (nLb (nT T i))))), s) := by
  have b := stC_b (lbC (nLb (nT T i)))
  rw [cS_147, cF_147_0]
  simp only [h.tn, if_pos h.1.cl, h.1.kd h0 h1, h.1.sg h0 h1, cm_bi_i, cs_87]
  rw [cm_w_id (by omega) (by omega)]
  unfold tB
  generalize (nLb (nT T i)).1 = k
  repeat' split
  all_goals first | rfl | (exfalso; omega)
theorem c_146 {s : cm_S} {t : Nat} {T : tT} (h : cP tx n s t T) {i : Int} (h0 : 0 ≤ i) (h1 : i < tSz T) : RB (cm_sem 146 [.inr (.inl 37), .inl i] s) s (tB (nLb (nT T i)) < tWn (pL T i).1 (lbC (pL T i)) (nRk (nT T i))) := by
  have pp := (nT_p h0 h1).2
  have tb := tB_0 (nLb (nT T i))
  have lp : 0 ≤ nPa (nT T i) → cm_sem 147 [.inr (.inl 37), .inl (nPa (nT T i))] s = some (.inl (some (.inl (tB (pL T i)))), s) := fun q => by
    rw [pL_ne q]
    exact c_147 h q (by omega)
  have pk : (pL T i).1 ≠ -1 → 0 ≤ nPa (nT T i) := fun e => by
    by_cases q : nPa (nT T i) < 0
    · exfalso
      apply e
      unfold pL
      rw [if_pos q]
    · omega
  have tb6 : (pL T i).1 = 46 → tB (pL T i) = 2 + stC (lbC (pL T i)) := fun e => by
    unfold tB
    rw [if_neg (by omega), if_neg (by omega), if_neg (by omega), if_pos e]
  have tb5 : (pL T i).1 = 45 → tB (pL T i) = 13 := fun e => by
    unfold tB
    rw [if_neg (by omega), if_neg (by omega), if_neg (by omega), if_neg (by omega), if_pos e]
  have body : ∀ (o3 o4 : Option cm_V) (y : Int), (y = 1 ∧ nRk (nT T i) = 0 ∨ y = 0 ∧ ¬ nRk (nT T i) = 0) → RB (cm_lp cm_sem cm_k146 14 [some (.inr (.inl 37)), some (.inl i), some (.inl (nPa (nT T i))), o3, o4] [.inl y] s) s (tB (nLb (nT T i)) < tWn (pL T i).1 (lbC (pL T i)) (nRk (nT T i))) := fun o3 o4 y hy => by
    rw [cE_146_14, cF_146_14, c_147 h h0 h1, cm_bi_i]
    simp only [h.tn, if_pos h.1.cl, h.kp h0 h1, cm_bi_i]
    by_cases k45 : (pL T i).1 = 45
    · simp only [lp (pk (by omega)), cm_bi_i, tb5 k45]
      unfold tWn
      simp only [k45]
      simp only [show ((45 : Int) = 3 ∨ (45 : Int) = 36 ∨ (45 : Int) = 38 ∨ (45 : Int) = 49) = False by decide, show ((45 : Int) = 41 ∨ (45 : Int) = 44) = False by decide, show ((45 : Int) = 40) = False by decide, show ((45 : Int) = 42 ∨ (45 : Int) = 43 ∨ (45 : Int) = 48) = False by decide, show ((45 : Int) = 3) = False by decide, show ((45 : Int) = 36) = False by decide, show ((45 : Int) = 38) = False by decide, show ((45 : Int) = 41) = False by decide, show ((45 : Int) = 42) = False by decide, show ((45 : Int) = 43) = False by decide, show ((45 : Int) = 44) = False by decide, if_false, if_true]
      split
      · next e => exact RB_1 e
      · next e => exact RB_0 e
    · by_cases k46 : (pL T i).1 = 46
      · simp only [lp (pk (by omega)), cm_bi_i]
        rw [if_neg (show ¬ (pL T i).1 = 3 by omega), if_neg (show ¬ (pL T i).1 = 36 by omega), if_neg (show ¬ (pL T i).1 = 38 by omega), if_neg (show ¬ (pL T i).1 = 40 by omega), if_neg (show ¬ (pL T i).1 = 41 by omega), if_neg (show ¬ (pL T i).1 = 42 by omega), if_neg (show ¬ (pL T i).1 = 43 by omega), if_neg (show ¬ (pL T i).1 = 44 by omega), if_neg k45, if_pos k46, tb6 k46]
        rcases hy with ⟨rfl, hr⟩ | ⟨rfl, hr⟩
        · have e : tWn (pL T i).1 (lbC (pL T i)) (nRk (nT T i)) = 2 + stC (lbC (pL T i)) := by simp [tWn, hr, k46]
          rw [if_neg (by decide), e]
          exact RB_lt
        · have e : tWn (pL T i).1 (lbC (pL T i)) (nRk (nT T i)) = 3 + stC (lbC (pL T i)) := by simp [tWn, hr, k46]
          rw [if_pos rfl, e]
          by_cases hl : 2 + stC (lbC (pL T i)) < tB (nLb (nT T i))
          · rw [if_pos hl]
            exact RB_0 (by omega)
          · rw [if_neg hl]
            exact RB_1 (by omega)
      · generalize (pL T i).1 = q at *
        generalize nRk (nT T i) = r at *
        generalize tB (nLb (nT T i)) = b at *
        generalize lbC (pL T i) = c at *
        clear lp pk tb5 tb6 pp
        rcases hy with ⟨rfl, hr⟩ | ⟨rfl, hr⟩
        · skip
          by_cases c3 : q = 3
          · rw [if_pos c3]
            have e : tWn q c r = 1 := by simp [tWn, hr, c3]
            rw [e]
            exact RB_lt
          rw [if_neg c3]
          by_cases c36 : q = 36
          · rw [if_pos c36]
            have e : tWn q c r = 1 := by simp [tWn, hr, c36]
            rw [e]
            exact RB_lt
          rw [if_neg c36]
          by_cases c38 : q = 38
          · rw [if_pos c38]
            have e : tWn q c r = 1 := by simp [tWn, hr, c38]
            rw [e]
            exact RB_lt
          rw [if_neg c38]
          by_cases c40 : q = 40
          · rw [if_pos c40]
            rw [if_neg (by decide)]
            have e : tWn q c r = 15 := by simp [tWn, hr, c40]
            rw [e]
            exact RB_lt
          rw [if_neg c40]
          by_cases c41 : q = 41
          · rw [if_pos c41]
            have e : tWn q c r = 15 := by simp [tWn, hr, c41]
            rw [e]
            exact RB_lt
          rw [if_neg c41]
          by_cases c42 : q = 42
          · rw [if_pos c42]
            rw [if_neg (by decide)]
            have e : tWn q c r = 15 := by simp [tWn, hr, c42]
            rw [e]
            exact RB_lt
          rw [if_neg c42]
          by_cases c43 : q = 43
          · rw [if_pos c43]
            rw [if_neg (by decide)]
            have e : tWn q c r = 15 := by simp [tWn, hr, c43]
            rw [e]
            exact RB_lt
          rw [if_neg c43]
          by_cases c44 : q = 44
          · rw [if_pos c44]
            have e : tWn q c r = 15 := by simp [tWn, hr, c44]
            rw [e]
            exact RB_lt
          rw [if_neg c44]
          rw [if_neg k45, if_neg k46]
          by_cases c47 : q = 47
          · rw [if_pos c47]
            rw [if_neg (by decide)]
            have e : tWn q c r = 3 := by simp [tWn, hr, c47]
            rw [e]
            exact RB_lt
          rw [if_neg c47]
          by_cases c48 : q = 48
          · rw [if_pos c48]
            rw [if_neg (by decide)]
            have e : tWn q c r = 15 := by simp [tWn, hr, c48]
            rw [e]
            exact RB_lt
          rw [if_neg c48]
          by_cases c49 : q = 49
          · rw [if_pos c49]
            have e : tWn q c r = 1 := by simp [tWn, hr, c49]
            rw [e]
            exact RB_lt
          rw [if_neg c49]
          have e : tWn q c r = 0 := by simp [tWn, k45, k46, c3, c36, c38, c40, c41, c42, c43, c44, c47, c48, c49]
          rw [e]
          exact RB_0 (by omega)
        · skip
          by_cases c3 : q = 3
          · rw [if_pos c3]
            have e : tWn q c r = 1 := by simp [tWn, hr, c3]
            rw [e]
            exact RB_lt
          rw [if_neg c3]
          by_cases c36 : q = 36
          · rw [if_pos c36]
            have e : tWn q c r = 1 := by simp [tWn, hr, c36]
            rw [e]
            exact RB_lt
          rw [if_neg c36]
          by_cases c38 : q = 38
          · rw [if_pos c38]
            have e : tWn q c r = 1 := by simp [tWn, hr, c38]
            rw [e]
            exact RB_lt
          rw [if_neg c38]
          by_cases c40 : q = 40
          · rw [if_pos c40]
            rw [if_pos rfl]
            have e : tWn q c r = 0 := by simp [tWn, hr, c40]
            rw [e]
            exact RB_0 (by omega)
          rw [if_neg c40]
          by_cases c41 : q = 41
          · rw [if_pos c41]
            have e : tWn q c r = 15 := by simp [tWn, hr, c41]
            rw [e]
            exact RB_lt
          rw [if_neg c41]
          by_cases c42 : q = 42
          · rw [if_pos c42]
            rw [if_pos rfl]
            have e : tWn q c r = 1 := by simp [tWn, hr, c42]
            rw [e]
            exact RB_lt
          rw [if_neg c42]
          by_cases c43 : q = 43
          · rw [if_pos c43]
            rw [if_pos rfl]
            have e : tWn q c r = 1 := by simp [tWn, hr, c43]
            rw [e]
            exact RB_lt
          rw [if_neg c43]
          by_cases c44 : q = 44
          · rw [if_pos c44]
            have e : tWn q c r = 15 := by simp [tWn, hr, c44]
            rw [e]
            exact RB_lt
          rw [if_neg c44]
          rw [if_neg k45, if_neg k46]
          by_cases c47 : q = 47
          · rw [if_pos c47]
            rw [if_pos rfl]
            have e : tWn q c r = 1 := by simp [tWn, hr, c47]
            rw [e]
            exact RB_lt
          rw [if_neg c47]
          by_cases c48 : q = 48
          · rw [if_pos c48]
            rw [if_pos rfl]
            have e : tWn q c r = 1 := by simp [tWn, hr, c48]
            rw [e]
            exact RB_lt
          rw [if_neg c48]
          by_cases c49 : q = 49
          · rw [if_pos c49]
            have e : tWn q c r = 1 := by simp [tWn, hr, c49]
            rw [e]
            exact RB_lt
          rw [if_neg c49]
          have e : tWn q c r = 0 := by simp [tWn, k45, k46, c3, c36, c38, c40, c41, c42, c43, c44, c47, c48, c49]
          rw [e]
          exact RB_0 (by omega)
  rw [cS_146, cF_146_0]
  simp only [h.tn, if_pos h.1.cl, h.1.pa h0 h1, h.rk h0 h1, cm_bi_i]
  split
  · next e => exact body _ _ 1 (Or.inl ⟨rfl, e⟩)
  · next e => exact body _ _ 0 (Or.inr ⟨rfl, e⟩)
theorem cl_149 {s : cm_S} {t : Nat} {T : tT} (h : cP tx n s t T) (o1 : Option cm_V) : ∀ (f : tF) (k : Int) (o3 : Option cm_V), fAt T k f → f ≠ .leaf → 0 ≤ k → k < tSz T → RB (cm_lp cm_sem cm_k149 3 [some (.inr (.inl 37)), o1, some (.inl k), o3] [] s) s (fCa f = true) := by
  have t9 := h.1.2.2.2.1
  intro f
  induction f with
  | leaf => intro k o3 _ hne; exact absurd rfl hne
  | inner x l u ch re i1 i2 =>
    intro k o3 hA _ k0 k1
    obtain ⟨hl, hch, hre⟩ := hA
    rw [cE_149_3, cF_149_3]
    simp only [h.tn, if_pos h.1.cl, h.1.2.2.1, h.1.kd k0 k1, cm_bi_i]
    rw [if_pos k1, hl]
    have e : fCa (.inner x l u ch re) = if l.1 = 40 ∨ l.1 = 41 then fCa ch else decide (l.1 = 43) := rfl
    rw [e]
    have go : (l.1 = 40 ∨ l.1 = 41) → ∀ o, RB (cm_lp cm_sem cm_k149 3 [some (.inr (.inl 37)), o1, some (.inl (cm_w (k + 1))), o] [] s) s (fCa ch = true) := fun hk o => by
      have gc := (h.1.g k0 k1).2.1
      rw [hl, hch] at gc
      have hc : ch ≠ .leaf := gC_n2 gc (by omega)
      have n1 := nT_1 k0 k1 (by rw [hch]; exact hc)
      have fc := fAt_ch (T := T) k0 k1
      rw [hch] at fc
      rw [cm_w_id (by omega) (by omega)]
      exact i1 (k + 1) o fc hc (by omega) n1.1
    split
    · next e40 =>
      rw [if_pos (Or.inl e40)]
      exact go (Or.inl e40) _
    · next e40 =>
      split
      · next e41 =>
        rw [if_pos (Or.inr e41)]
        exact go (Or.inr e41) _
      · next e41 =>
        rw [if_neg (show ¬ (l.1 = 40 ∨ l.1 = 41) by omega)]
        split
        · next e => exact RB_1 (decide_eq_true e)
        · next e => exact RB_0 (by rw [decide_eq_true_iff]; exact e)
theorem c_149 {s : cm_S} {t : Nat} {T : tT} (h : cP tx n s t T) {i : Int} (h0 : 0 ≤ i) (h1 : i < tSz T) : RB (cm_sem 149 [.inr (.inl 37), .inl i] s) s (tCa (nLb (nT T i), nCh (nT T i)) = true) := by
  rw [cS_149, cF_149_0]
  exact cl_149 h _ (.inner 0 (nLb (nT T i)) () (nCh (nT T i)) (nRe (nT T i))) i none ⟨rfl, rfl, rfl⟩ (by intro z; cases z) h0 h1
theorem c_148 {s : cm_S} {t : Nat} {T : tT} (h : cP tx n s t T) {i : Int} (h0 : 0 ≤ i) (h1 : i < tSz T) {hd : Bool} (hh : s.2 40 i = cm_n hd) : RB (cm_sem 148 [.inr (.inl 37), .inl i] s) s (misF (pL T i) (nRk (nT T i)) (nLb (nT T i)) (nCh (nT T i)) hd) := by
  have t9 := h.1.2.2.2.1
  have tl : RB (if s.2 40 i = 0 then some (.inl (some (.inl 0)), s) else cm_bi (cm_sem 128 [.inr (.inl t), .inl i] s) fun z7 s7 => if z7 = 14 then (if cm_cl ((s7.1 3704).toNat) = 6 then cm_bi (cm_sem 15 [.inr (.inl ((s7.1 3704).toNat)), .inl i] s7) fun z8 s8 => if z8 = 46 then some (.inl (some (.inl 1)), s8) else some (.inl (some (.inl 0)), s8) else none) else some (.inl (some (.inl 0)), s7)) s (hd = true ∧ lbC (nLb (nT T i)) = 14 ∧ (nLb (nT T i)).1 = 46) := by
    rw [hh, h.1.sg h0 h1, cm_bi_i]
    simp only [cm_n0]
    cases hd with
    | false =>
      rw [if_pos rfl]
      exact RB_0 fun q => absurd q.1 (by decide)
    | true =>
      rw [if_neg (by decide)]
      split
      · next e =>
        simp only [h.tn, if_pos h.1.cl, h.1.kd h0 h1, cm_bi_i]
        split
        · next e2 => exact RB_1 ⟨trivial, e, e2⟩
        · next e2 => exact RB_0 fun q => e2 q.2.2
      · next e => exact RB_0 fun q => e q.2.1
  have b20 : ¬ ((pL T i).1 = 41 ∧ (nLb (nT T i)).1 = 33) → RB (cm_lp cm_sem cm_k148 20 [some (.inr (.inl 37)), some (.inl i), some (.inl (pL T i).1)] [] s) s (misF (pL T i) (nRk (nT T i)) (nLb (nT T i)) (nCh (nT T i)) hd) := fun hn => by
    rw [cE_148_20, cF_148_20]
    simp only [h.tn, if_pos h.1.cl, h.rk h0 h1, cm_bi_i]
    unfold misF
    simp only [if_neg (show ¬ i < 0 by omega), if_pos (show i < 512 by omega), if_pos (show (0 : Int) ≤ i ∧ i < 512 by omega)]
    split
    · next e42 =>
      split
      · next er =>
        refine RB_if (c_149 h h0 h1) (fun p => RB_1 (Or.inr (Or.inl ⟨e42, er, p⟩))) (fun p => ?_)
        simp only [h.tn, if_pos h.1.cl]
        exact RB_iff tl ⟨fun q => Or.inr (Or.inr q), fun q => (q.resolve_left hn).resolve_left fun z => p z.2.2⟩
      · next er => exact RB_iff tl ⟨fun q => Or.inr (Or.inr q), fun q => (q.resolve_left hn).resolve_left fun z => er z.2.1⟩
    · next e42 => exact RB_iff tl ⟨fun q => Or.inr (Or.inr q), fun q => (q.resolve_left hn).resolve_left fun z => e42 z.1⟩
  rw [cS_148, cF_148_0]
  simp only [h.tn, if_pos h.1.cl, h.1.pa h0 h1, h.kp h0 h1, h.1.kd h0 h1, cm_bi_i]
  split
  · next e41 =>
    split
    · next e33 => exact RB_1 (Or.inl ⟨e41, e33⟩)
    · next e33 => exact b20 fun q => e33 q.2
  · next e41 => exact b20 fun q => e41 q.1
end TX97
