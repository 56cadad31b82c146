/-! ===== a tree's nodes by their place in its order ===== -/
/-- label, parent's place, rank, children, right brothers, the first number below it -/
abbrev ndI : Type := tLb × Int × Int × tF × tF × Int
abbrev nLb (x : ndI) : tLb := x.1
abbrev nPa (x : ndI) : Int := x.2.1
abbrev nRk (x : ndI) : Int := x.2.2.1
abbrev nCh (x : ndI) : tF := x.2.2.2.1
abbrev nRe (x : ndI) : tF := x.2.2.2.2.1
abbrev nLo (x : ndI) : Int := x.2.2.2.2.2
/-- the reference's number -/
def nNo (x : ndI) : Int := nLo x + fSz (nCh x)
def nd : tF → Int → Int → Int → Int → Int → ndI
  | .leaf, _, _, _, _, _ => ((0, 0, 0, 0, false), 0, 0, .leaf, .leaf, 0)
  | .inner _ l _ ch re, k, p, r, lo, i => if i = k then (l, p, r, ch, re, lo) else if i < k + 1 + fSz ch then nd ch (k + 1) k 0 lo i else nd re (k + 1 + fSz ch) p (r + 1) (lo + fSz ch + 1) i
/-- what the class has of a node -/
def nC (s : cm_S) (t : Nat) (i : Int) (x : ndI) : Prop := s.2 (t + 1) i = (nLb x).1 ∧ s.2 (t + 2) i = lbP (nLb x) ∧ s.2 (t + 3) i = lbN (nLb x) ∧ s.2 (t + 4) i = lbC (nLb x) ∧ s.2 (t + 5) i = nPa x ∧ s.2 (t + 6) i = nRk x ∧ s.2 (t + 7) i = fLn (nCh x) ∧ cFl s t i 0 (i + 1) (nCh x) ∧ cFl s t (nPa x) (nRk x + 1) (i + 1 + fSz (nCh x)) (nRe x)
/-- what the reference has of it -/
def nR (s : cm_S) (i : Int) (x : ndI) : Prop := s.2 65 i = nNo x ∧ s.2 66 (nNo x) = i ∧ rLb s (nNo x) (nLb x) ∧ s.2 53 (nNo x) = fLn (nCh x) ∧ rFo s (nNo x) (nLo x) (nNo x) (s.2 50 (nNo x)) (nCh x) ∧ rOr s (i + 1) (nLo x) (nCh x) ∧ (∃ h, rFo s (s.2 52 (nNo x)) (nNo x + 1) h (s.2 51 (nNo x)) (nRe x)) ∧ rOr s (i + 1 + fSz (nCh x)) (nNo x + 1) (nRe x)
theorem nd_c {s : cm_S} {t : Nat} : ∀ (f : tF) (k p r lo : Int), cFl s t p r k f → ∀ i, k ≤ i → i < k + fSz f → nC s t i (nd f k p r lo i) := by
  intro f
  induction f with
  | leaf =>
    intro k p r lo _ i h1 h2
    have z0 : fSz (.leaf : tF) = 0 := rfl
    omega
  | inner x l u ch re i1 i2 =>
    intro k p r lo h i h1 h2
    have e : fSz (.inner x l u ch re) = 1 + fSz ch + fSz re := rfl
    obtain ⟨a1, a2, a3, a4, a5, a6, a7, a8, a9⟩ := h
    unfold nd
    by_cases hi : i = k
    · rw [if_pos hi]
      subst hi
      exact ⟨a1, a2, a3, a4, a5, a6, a7, a8, a9⟩
    · rw [if_neg hi]
      by_cases hc : i < k + 1 + fSz ch
      · rw [if_pos hc]
        exact i1 _ _ _ _ a8 i (by omega) (by omega)
      · rw [if_neg hc]
        exact i2 _ _ _ _ a9 i (by omega) (by omega)
theorem nd_r {s : cm_S} : ∀ (f : tF) (k p r lo q hi v : Int), rFo s q lo hi v f → rOr s k lo f → ∀ i, k ≤ i → i < k + fSz f → nR s i (nd f k p r lo i) ∧ lo ≤ nLo (nd f k p r lo i) ∧ nNo (nd f k p r lo i) < hi := by
  intro f
  induction f with
  | leaf =>
    intro k p r lo q hi v _ _ i h1 h2
    have z0 : fSz (.leaf : tF) = 0 := rfl
    omega
  | inner x l u ch re i1 i2 =>
    intro k p r lo q hi v h ho i h1 h2
    have e : fSz (.inner x l u ch re) = 1 + fSz ch + fSz re := rfl
    have c0 := fSz_0 ch
    have r0 := fSz_0 re
    obtain ⟨m, a1, a2, a3, a4, a5, a6, a7, a8⟩ := h
    have em := rFo_sz _ _ _ _ _ a7
    have eh := rFo_sz _ _ _ _ _ a8
    obtain ⟨b1, b2, b3, b4⟩ := ho
    have ev : v = lo + fSz ch := by omega
    have ev1 : m = lo + fSz ch + 1 := by omega
    unfold nd
    by_cases hi : i = k
    · rw [if_pos hi]
      subst hi
      rw [show m - 1 = v by omega] at a7
      rw [show m = v + 1 by omega] at a8
      subst ev
      exact ⟨⟨b1, b2, a4, a5, a7, b3, ⟨_, by rw [show s.2 52 (nNo (l, p, r, ch, re, lo)) = q from a6]; exact a8⟩, b4⟩, Int.le_refl _, by show lo + fSz ch < _; omega⟩
    · rw [if_neg hi]
      by_cases hc : i < k + 1 + fSz ch
      · rw [if_pos hc]
        have := i1 (k + 1) k 0 lo _ _ _ a7 b3 i (by omega) (by omega)
        exact ⟨this.1, this.2.1, by omega⟩
      · rw [if_neg hc]
        rw [ev1] at a8
        have := i2 (k + 1 + fSz ch) p (r + 1) _ _ _ _ a8 b4 i (by omega) (by omega)
        exact ⟨this.1, by omega, this.2.2⟩
theorem nd_g {tx : Int → Int} {n : Int} : ∀ (f : tF) (k p r lo : Int), gF tx n f → ∀ i, k ≤ i → i < k + fSz f → gT tx n (nLb (nd f k p r lo i)) ∧ gC (nLb (nd f k p r lo i)).1 (fK (nCh (nd f k p r lo i))) ∧ gW (nLb (nd f k p r lo i)) (nCh (nd f k p r lo i)) ∧ gF tx n (nCh (nd f k p r lo i)) ∧ gF tx n (nRe (nd f k p r lo i)) := by
  intro f
  induction f with
  | leaf =>
    intro k p r lo _ i h1 h2
    have z0 : fSz (.leaf : tF) = 0 := rfl
    omega
  | inner x l u ch re i1 i2 =>
    intro k p r lo h i h1 h2
    have e : fSz (.inner x l u ch re) = 1 + fSz ch + fSz re := rfl
    obtain ⟨a1, a2, a3, a4, a5⟩ := h
    unfold nd
    by_cases hi : i = k
    · rw [if_pos hi]
      exact ⟨a1, a2, a3, a4, a5⟩
    · rw [if_neg hi]
      by_cases hc : i < k + 1 + fSz ch
      · rw [if_pos hc]
        exact i1 _ _ _ _ a4 i (by omega) (by omega)
      · rw [if_neg hc]
        exact i2 _ _ _ _ a5 i (by omega) (by omega)
/-- the node's parent; how far the node's own part goes -/
theorem nd_p : ∀ (f : tF) (k p r lo : Int), p < k → ∀ i, k ≤ i → i < k + fSz f → i + 1 + fSz (nCh (nd f k p r lo i)) ≤ k + fSz f ∧ (nPa (nd f k p r lo i) = p ∨ k ≤ nPa (nd f k p r lo i) ∧ nPa (nd f k p r lo i) < i ∧ i < nPa (nd f k p r lo i) + 1 + fSz (nCh (nd f k p r lo (nPa (nd f k p r lo i))))) := by
  intro f
  induction f with
  | leaf =>
    intro k p r lo _ i h1 h2
    have z0 : fSz (.leaf : tF) = 0 := rfl
    omega
  | inner x l u ch re i1 i2 =>
    intro k p r lo hp i h1 h2
    have e : fSz (.inner x l u ch re) = 1 + fSz ch + fSz re := rfl
    have c0 := fSz_0 ch
    have r0 := fSz_0 re
    by_cases hi : i = k
    · have en : nd (.inner x l u ch re) k p r lo i = (l, p, r, ch, re, lo) := by
        show (if i = k then _ else _) = _
        rw [if_pos hi]
      rw [en]
      exact ⟨by show i + 1 + fSz ch ≤ _; omega, Or.inl rfl⟩
    · by_cases hc : i < k + 1 + fSz ch
      · have en : nd (.inner x l u ch re) k p r lo i = nd ch (k + 1) k 0 lo i := by
          show (if i = k then _ else _) = _
          rw [if_neg hi, if_pos hc]
        rw [en]
        obtain ⟨g1, g2⟩ := i1 (k + 1) k 0 lo (by omega) i (by omega) (by omega)
        refine ⟨by omega, Or.inr ?_⟩
        rcases g2 with g2 | ⟨g2, g3, g4⟩
        · rw [g2]
          have en2 : nd (.inner x l u ch re) k p r lo k = (l, p, r, ch, re, lo) := by
            show (if k = k then _ else _) = _
            rw [if_pos rfl]
          rw [en2]
          exact ⟨Int.le_refl _, by omega, hc⟩
        · have en2 : nd (.inner x l u ch re) k p r lo (nPa (nd ch (k + 1) k 0 lo i)) = nd ch (k + 1) k 0 lo (nPa (nd ch (k + 1) k 0 lo i)) := by
            show (if _ = k then _ else _) = _
            rw [if_neg (by omega), if_pos (by omega)]
          rw [en2]
          exact ⟨by omega, g3, g4⟩
      · have en : nd (.inner x l u ch re) k p r lo i = nd re (k + 1 + fSz ch) p (r + 1) (lo + fSz ch + 1) i := by
          show (if i = k then _ else _) = _
          rw [if_neg hi, if_neg hc]
        rw [en]
        obtain ⟨g1, g2⟩ := i2 (k + 1 + fSz ch) p (r + 1) (lo + fSz ch + 1) (by omega) i (by omega) (by omega)
        refine ⟨by omega, ?_⟩
        rcases g2 with g2 | ⟨g2, g3, g4⟩
        · exact Or.inl g2
        · right
          have en2 : nd (.inner x l u ch re) k p r lo (nPa (nd re (k + 1 + fSz ch) p (r + 1) (lo + fSz ch + 1) i)) = nd re (k + 1 + fSz ch) p (r + 1) (lo + fSz ch + 1) (nPa (nd re (k + 1 + fSz ch) p (r + 1) (lo + fSz ch + 1) i)) := by
            show (if _ = k then _ else _) = _
            rw [if_neg (by omega), if_neg (by omega)]
          rw [en2]
          exact ⟨by omega, g3, g4⟩
/-- the reference's parent is the same -/
theorem nd_q {s : cm_S} : ∀ (f : tF) (k p r lo q hi v : Int), p < k → rFo s q lo hi v f → ∀ i, k ≤ i → i < k + fSz f → s.2 52 (nNo (nd f k p r lo i)) = if nPa (nd f k p r lo i) = p then q else nNo (nd f k p r lo (nPa (nd f k p r lo i))) := by
  intro f
  induction f with
  | leaf =>
    intro k p r lo q hi v _ _ i h1 h2
    have z0 : fSz (.leaf : tF) = 0 := rfl
    omega
  | inner x l u ch re i1 i2 =>
    intro k p r lo q hi v hp h i h1 h2
    have e : fSz (.inner x l u ch re) = 1 + fSz ch + fSz re := rfl
    have c0 := fSz_0 ch
    have r0 := fSz_0 re
    obtain ⟨m, a1, a2, a3, a4, a5, a6, a7, a8⟩ := h
    have em := rFo_sz _ _ _ _ _ a7
    have eh := rFo_sz _ _ _ _ _ a8
    have ev : v = lo + fSz ch := by omega
    have ev1 : m = lo + fSz ch + 1 := by omega
    have en0 : nd (.inner x l u ch re) k p r lo k = (l, p, r, ch, re, lo) := by
      show (if k = k then _ else _) = _
      rw [if_pos rfl]
    by_cases hi : i = k
    · rw [hi, en0]
      show s.2 52 (lo + fSz ch) = if p = p then q else _
      rw [if_pos rfl, ← ev]
      exact a6
    · by_cases hc : i < k + 1 + fSz ch
      · have en : nd (.inner x l u ch re) k p r lo i = nd ch (k + 1) k 0 lo i := by
          show (if i = k then _ else _) = _
          rw [if_neg hi, if_pos hc]
        rw [en, i1 (k + 1) k 0 lo v _ _ (by omega) a7 i (by omega) (by omega)]
        obtain ⟨g1, g2⟩ := nd_p ch (k + 1) k 0 lo (by omega) i (by omega) (by omega)
        rcases g2 with g2 | ⟨g2, g3, g4⟩
        · rw [g2, if_pos rfl, if_neg (by omega), en0]
          exact ev
        · have en2 : nd (.inner x l u ch re) k p r lo (nPa (nd ch (k + 1) k 0 lo i)) = nd ch (k + 1) k 0 lo (nPa (nd ch (k + 1) k 0 lo i)) := by
            show (if _ = k then _ else _) = _
            rw [if_neg (by omega), if_pos (by omega)]
          rw [if_neg (by omega), if_neg (by omega), en2]
      · have en : nd (.inner x l u ch re) k p r lo i = nd re (k + 1 + fSz ch) p (r + 1) (lo + fSz ch + 1) i := by
          show (if i = k then _ else _) = _
          rw [if_neg hi, if_neg hc]
        rw [ev1] at a8
        rw [en, i2 (k + 1 + fSz ch) p (r + 1) (lo + fSz ch + 1) q _ _ (by omega) a8 i (by omega) (by omega)]
        obtain ⟨g1, g2⟩ := nd_p re (k + 1 + fSz ch) p (r + 1) (lo + fSz ch + 1) (by omega) i (by omega) (by omega)
        rcases g2 with g2 | ⟨g2, g3, g4⟩
        · rw [g2, if_pos rfl, if_pos rfl]
        · have en2 : nd (.inner x l u ch re) k p r lo (nPa (nd re (k + 1 + fSz ch) p (r + 1) (lo + fSz ch + 1) i)) = nd re (k + 1 + fSz ch) p (r + 1) (lo + fSz ch + 1) (nPa (nd re (k + 1 + fSz ch) p (r + 1) (lo + fSz ch + 1) i)) := by
            show (if _ = k then _ else _) = _
            rw [if_neg (by omega), if_neg (by omega)]
          rw [if_neg (by omega), if_neg (by omega), en2]
/-- the first child stands behind its parent; so does the next brother behind the node's part -/
theorem nd_1 : ∀ (f : tF) (k p r lo : Int), ∀ i, k ≤ i → i < k + fSz f → ∀ (x : Nat) (l : tLb) (u : Unit) (ch re : tF), nCh (nd f k p r lo i) = .inner x l u ch re → nd f k p r lo (i + 1) = (l, i, 0, ch, re, nLo (nd f k p r lo i)) := by
  intro f
  induction f with
  | leaf =>
    intro k p r lo i h1 h2
    have z0 : fSz (.leaf : tF) = 0 := rfl
    omega
  | inner x l u ch re i1 i2 =>
    intro k p r lo i h1 h2 x' l' u' ch' re' hc'
    have e : fSz (.inner x l u ch re) = 1 + fSz ch + fSz re := rfl
    have c0 := fSz_0 ch
    have r0 := fSz_0 re
    have en0 : nd (.inner x l u ch re) k p r lo k = (l, p, r, ch, re, lo) := by
      show (if k = k then _ else _) = _
      rw [if_pos rfl]
    by_cases hi : i = k
    · subst hi
      rw [en0] at hc'
      have hc2 : ch = .inner x' l' u' ch' re' := hc'
      rw [en0]
      have e2 : fSz ch = 1 + fSz ch' + fSz re' := by rw [hc2]; rfl
      have c1 := fSz_0 ch'
      have r1 := fSz_0 re'
      show (if i + 1 = i then _ else _) = _
      rw [if_neg (by omega), if_pos (by omega), hc2]
      show (if i + 1 = i + 1 then _ else _) = _
      rw [if_pos rfl]
    · by_cases hc : i < k + 1 + fSz ch
      · have en : nd (.inner x l u ch re) k p r lo i = nd ch (k + 1) k 0 lo i := by
          show (if i = k then _ else _) = _
          rw [if_neg hi, if_pos hc]
        rw [en] at hc' ⊢
        have g := (nd_p ch (k + 1) k 0 lo (by omega) i (by omega) (by omega)).1
        rw [hc'] at g
        have e2 : fSz (.inner x' l' u' ch' re' : tF) = 1 + fSz ch' + fSz re' := rfl
        have c1 := fSz_0 ch'
        have r1 := fSz_0 re'
        have := i1 (k + 1) k 0 lo i (by omega) (by omega) x' l' u' ch' re' hc'
        show (if i + 1 = k then _ else _) = _
        rw [if_neg (by omega), if_pos (by omega), this]
      · have en : nd (.inner x l u ch re) k p r lo i = nd re (k + 1 + fSz ch) p (r + 1) (lo + fSz ch + 1) i := by
          show (if i = k then _ else _) = _
          rw [if_neg hi, if_neg hc]
        rw [en] at hc' ⊢
        have := i2 (k + 1 + fSz ch) p (r + 1) (lo + fSz ch + 1) i (by omega) (by omega) x' l' u' ch' re' hc'
        show (if i + 1 = k then _ else _) = _
        rw [if_neg (by omega), if_neg (by omega), this]
