/-! ===== more of a tree's nodes by their place ===== -/
theorem nd_2 : ∀ (f : tF) (k p r lo : Int), ∀ i, k ≤ i → i < k + fSz f → ∀ (x : Nat) (l : tLb) (u : Unit) (ch re : tF), nRe (nd f k p r lo i) = .inner x l u ch re → nd f k p r lo (i + 1 + fSz (nCh (nd f k p r lo i))) = (l, nPa (nd f k p r lo i), nRk (nd f k p r lo i) + 1, ch, re, nNo (nd f k p r lo i) + 1) ∧ i + 1 + fSz (nCh (nd f k p r lo i)) + (1 + fSz ch + fSz re) ≤ k + fSz f := by
  intro f
  induction f with
  | leaf =>
    intro k p r lo i h1 h2
    have z0 : fSz (.leaf : tF) = 0 := rfl
    omega
  | inner x l u ch re i1 i2 =>
    intro k p r lo i h1 h2 x' l' u' ch' re' hc'
    have e : fSz (.inner x l u ch re) = 1 + fSz ch + fSz re := rfl
    have c0 := fSz_0 ch
    have r0 := fSz_0 re
    have c1 := fSz_0 ch'
    have r1 := fSz_0 re'
    have en0 : nd (.inner x l u ch re) k p r lo k = (l, p, r, ch, re, lo) := by
      show (if k = k then _ else _) = _
      rw [if_pos rfl]
    by_cases hi : i = k
    · subst hi
      rw [en0] at hc'
      have hc2 : re = .inner x' l' u' ch' re' := hc'
      rw [en0]
      have e2 : fSz re = 1 + fSz ch' + fSz re' := by rw [hc2]; rfl
      rw [show nCh (l, p, r, ch, re, lo) = ch from rfl]
      refine ⟨?_, by omega⟩
      show (if i + 1 + fSz ch = i then _ else _) = _
      rw [if_neg (by omega), if_neg (by omega), hc2]
      show (if i + 1 + fSz ch = i + 1 + fSz ch then _ else _) = _
      rw [if_pos rfl]
      rfl
    · by_cases hc : i < k + 1 + fSz ch
      · have en : nd (.inner x l u ch re) k p r lo i = nd ch (k + 1) k 0 lo i := by
          show (if i = k then _ else _) = _
          rw [if_neg hi, if_pos hc]
        rw [en] at hc' ⊢
        obtain ⟨a1, a2⟩ := i1 (k + 1) k 0 lo i (by omega) (by omega) x' l' u' ch' re' hc'
        have s0 := fSz_0 (nCh (nd ch (k + 1) k 0 lo i))
        refine ⟨?_, by omega⟩
        show (if i + 1 + fSz (nCh (nd ch (k + 1) k 0 lo i)) = k then _ else _) = _
        rw [if_neg (by omega), if_pos (by omega), a1]
      · have en : nd (.inner x l u ch re) k p r lo i = nd re (k + 1 + fSz ch) p (r + 1) (lo + fSz ch + 1) i := by
          show (if i = k then _ else _) = _
          rw [if_neg hi, if_neg hc]
        rw [en] at hc' ⊢
        obtain ⟨a1, a2⟩ := i2 (k + 1 + fSz ch) p (r + 1) (lo + fSz ch + 1) i (by omega) (by omega) x' l' u' ch' re' hc'
        have s0 := fSz_0 (nCh (nd re (k + 1 + fSz ch) p (r + 1) (lo + fSz ch + 1) i))
        refine ⟨?_, by omega⟩
        show (if i + 1 + fSz (nCh (nd re (k + 1 + fSz ch) p (r + 1) (lo + fSz ch + 1) i)) = k then _ else _) = _
        rw [if_neg (by omega), if_neg (by omega), a1]
/-- within a node's part the parents are not above it -/
theorem nd_in : ∀ (f : tF) (k p r lo : Int), p < k → ∀ i j, k ≤ i → i < k + fSz f → i < j → j < i + 1 + fSz (nCh (nd f k p r lo i)) → i ≤ nPa (nd f k p r lo j) := by
  intro f
  induction f with
  | leaf =>
    intro k p r lo _ i j h1 h2
    have z0 : fSz (.leaf : tF) = 0 := rfl
    omega
  | inner x l u ch re i1 i2 =>
    intro k p r lo hp i j h1 h2 h3 h4
    have e : fSz (.inner x l u ch re) = 1 + fSz ch + fSz re := rfl
    have c0 := fSz_0 ch
    have r0 := fSz_0 re
    have en0 : nd (.inner x l u ch re) k p r lo k = (l, p, r, ch, re, lo) := by
      show (if k = k then _ else _) = _
      rw [if_pos rfl]
    by_cases hi : i = k
    · subst hi
      rw [en0] at h4
      have h4' : j < i + 1 + fSz ch := h4
      have en : nd (.inner x l u ch re) i p r lo j = nd ch (i + 1) i 0 lo j := by
        show (if j = i then _ else _) = _
        rw [if_neg (by omega), if_pos h4']
      rw [en]
      have := (nd_p ch (i + 1) i 0 lo (by omega) j (by omega) (by omega)).2
      omega
    · by_cases hc : i < k + 1 + fSz ch
      · have en : nd (.inner x l u ch re) k p r lo i = nd ch (k + 1) k 0 lo i := by
          show (if i = k then _ else _) = _
          rw [if_neg hi, if_pos hc]
        rw [en] at h4
        have hp2 := (nd_p ch (k + 1) k 0 lo (by omega) i (by omega) (by omega)).1
        have en2 : nd (.inner x l u ch re) k p r lo j = nd ch (k + 1) k 0 lo j := by
          show (if j = k then _ else _) = _
          rw [if_neg (by omega), if_pos (by omega)]
        rw [en2]
        exact i1 (k + 1) k 0 lo (by omega) i j (by omega) (by omega) h3 h4
      · have en : nd (.inner x l u ch re) k p r lo i = nd re (k + 1 + fSz ch) p (r + 1) (lo + fSz ch + 1) i := by
          show (if i = k then _ else _) = _
          rw [if_neg hi, if_neg hc]
        rw [en] at h4
        have en2 : nd (.inner x l u ch re) k p r lo j = nd re (k + 1 + fSz ch) p (r + 1) (lo + fSz ch + 1) j := by
          show (if j = k then _ else _) = _
          rw [if_neg (by omega), if_neg (by omega)]
        rw [en2]
        exact i2 (k + 1 + fSz ch) p (r + 1) (lo + fSz ch + 1) (by omega) i j (by omega) (by omega) h3 h4
/-- a node is one of its parent's children -/
theorem nd_mem : ∀ (f : tF) (k p r lo : Int), p < k → ∀ i, k ≤ i → i < k + fSz f → nPa (nd f k p r lo i) = p ∧ (nLb (nd f k p r lo i)).1 ∈ fK f ∨ k ≤ nPa (nd f k p r lo i) ∧ (nLb (nd f k p r lo i)).1 ∈ fK (nCh (nd f k p r lo (nPa (nd f k p r lo i)))) := by
  intro f
  induction f with
  | leaf =>
    intro k p r lo _ i h1 h2
    have z0 : fSz (.leaf : tF) = 0 := rfl
    omega
  | inner x l u ch re i1 i2 =>
    intro k p r lo hp i h1 h2
    have e : fSz (.inner x l u ch re) = 1 + fSz ch + fSz re := rfl
    have c0 := fSz_0 ch
    have r0 := fSz_0 re
    have en0 : nd (.inner x l u ch re) k p r lo k = (l, p, r, ch, re, lo) := by
      show (if k = k then _ else _) = _
      rw [if_pos rfl]
    have fk : fK (.inner x l u ch re) = l.1 :: fK re := rfl
    by_cases hi : i = k
    · rw [hi, en0, fk]
      exact Or.inl ⟨rfl, List.mem_cons_self ..⟩
    · by_cases hc : i < k + 1 + fSz ch
      · have en : nd (.inner x l u ch re) k p r lo i = nd ch (k + 1) k 0 lo i := by
          show (if i = k then _ else _) = _
          rw [if_neg hi, if_pos hc]
        rw [en]
        right
        have g := (nd_p ch (k + 1) k 0 lo (by omega) i (by omega) (by omega)).2
        rcases i1 (k + 1) k 0 lo (by omega) i (by omega) (by omega) with ⟨a1, a2⟩ | ⟨a1, a2⟩
        · rw [a1, en0]
          exact ⟨Int.le_refl _, a2⟩
        · have en2 : nd (.inner x l u ch re) k p r lo (nPa (nd ch (k + 1) k 0 lo i)) = nd ch (k + 1) k 0 lo (nPa (nd ch (k + 1) k 0 lo i)) := by
            show (if _ = k then _ else _) = _
            rw [if_neg (by omega), if_pos (by omega)]
          rw [en2]
          exact ⟨by omega, a2⟩
      · have en : nd (.inner x l u ch re) k p r lo i = nd re (k + 1 + fSz ch) p (r + 1) (lo + fSz ch + 1) i := by
          show (if i = k then _ else _) = _
          rw [if_neg hi, if_neg hc]
        rw [en]
        have g := (nd_p re (k + 1 + fSz ch) p (r + 1) (lo + fSz ch + 1) (by omega) i (by omega) (by omega)).2
        rcases i2 (k + 1 + fSz ch) p (r + 1) (lo + fSz ch + 1) (by omega) i (by omega) (by omega) with ⟨a1, a2⟩ | ⟨a1, a2⟩
        · rw [fk]
          exact Or.inl ⟨a1, List.mem_cons_of_mem _ a2⟩
        · have en2 : nd (.inner x l u ch re) k p r lo (nPa (nd re (k + 1 + fSz ch) p (r + 1) (lo + fSz ch + 1) i)) = nd re (k + 1 + fSz ch) p (r + 1) (lo + fSz ch + 1) (nPa (nd re (k + 1 + fSz ch) p (r + 1) (lo + fSz ch + 1) i)) := by
            show (if _ = k then _ else _) = _
            rw [if_neg (by omega), if_neg (by omega)]
          rw [en2]
          exact Or.inr ⟨by omega, a2⟩
/-- the forest f stands at k -/
def fAt (T : tT) (k : Int) : tF → Prop
  | .leaf => True
  | .inner _ l _ ch re => nLb (nT T k) = l ∧ nCh (nT T k) = ch ∧ nRe (nT T k) = re
theorem fAt_ch {T : tT} {i : Int} (h0 : 0 ≤ i) (h1 : i < tSz T) : fAt T (i + 1) (nCh (nT T i)) := by
  cases hch : nCh (nT T i) with
  | leaf => trivial
  | inner x l u ch re =>
    have := nd_1 (fo [T]) 0 (-1) 0 0 i h0 (by rw [fSz_T]; omega) x l u ch re hch
    unfold fAt nT
    rw [this]
    exact ⟨rfl, rfl, rfl⟩
theorem nT_2 {T : tT} {i : Int} (h0 : 0 ≤ i) (h1 : i < tSz T) (hr : nRe (nT T i) ≠ .leaf) : i + 1 + fSz (nCh (nT T i)) < tSz T ∧ nPa (nT T (i + 1 + fSz (nCh (nT T i)))) = nPa (nT T i) ∧ i + 1 + fSz (nCh (nT T i)) + fSz (nRe (nT T i)) ≤ tSz T := by
  cases hre : nRe (nT T i) with
  | leaf => exact absurd hre hr
  | inner x l u ch re =>
    obtain ⟨a1, a2⟩ := nd_2 (fo [T]) 0 (-1) 0 0 i h0 (by rw [fSz_T]; omega) x l u ch re hre
    have c0 := fSz_0 ch
    have r0 := fSz_0 re
    rw [fSz_T] at a2
    refine ⟨by show i + 1 + fSz (nCh (nd (fo [T]) 0 (-1) 0 0 i)) < _; omega, ?_, by show i + 1 + fSz (nCh (nd (fo [T]) 0 (-1) 0 0 i)) + (1 + fSz ch + fSz re) ≤ _; omega⟩
    show nPa (nd (fo [T]) 0 (-1) 0 0 (i + 1 + fSz (nCh (nd (fo [T]) 0 (-1) 0 0 i)))) = _
    rw [a1]
    rfl
theorem fAt_re {T : tT} {i : Int} (h0 : 0 ≤ i) (h1 : i < tSz T) : fAt T (i + 1 + fSz (nCh (nT T i))) (nRe (nT T i)) := by
  cases hre : nRe (nT T i) with
  | leaf => trivial
  | inner x l u ch re =>
    obtain ⟨a1, a2⟩ := nd_2 (fo [T]) 0 (-1) 0 0 i h0 (by rw [fSz_T]; omega) x l u ch re hre
    show nLb (nd (fo [T]) 0 (-1) 0 0 (i + 1 + fSz (nCh (nd (fo [T]) 0 (-1) 0 0 i)))) = l ∧ nCh (nd (fo [T]) 0 (-1) 0 0 (i + 1 + fSz (nCh (nd (fo [T]) 0 (-1) 0 0 i)))) = ch ∧ nRe (nd (fo [T]) 0 (-1) 0 0 (i + 1 + fSz (nCh (nd (fo [T]) 0 (-1) 0 0 i)))) = re
    rw [a1]
    exact ⟨rfl, rfl, rfl⟩
theorem nT_in {T : tT} {i j : Int} (h0 : 0 ≤ i) (h1 : i < tSz T) (h2 : i < j) (h3 : j < i + 1 + fSz (nCh (nT T i))) : i ≤ nPa (nT T j) := nd_in (fo [T]) 0 (-1) 0 0 (by decide) i j h0 (by rw [fSz_T]; omega) h2 h3
theorem nT_mem {T : tT} {i : Int} (h0 : 0 < i) (h1 : i < tSz T) : 0 ≤ nPa (nT T i) ∧ nPa (nT T i) < i ∧ nK T i ∈ fK (nCh (nT T (nPa (nT T i)))) := by
  rcases nd_mem (fo [T]) 0 (-1) 0 0 (by decide) i (by omega) (by rw [fSz_T]; omega) with ⟨a1, a2⟩ | ⟨a1, a2⟩
  · exfalso
    have hp := (nT_p (T := T) (i := 0) (by omega) (by omega)).1
    have := nT_in (T := T) (i := 0) (j := i) (by omega) (by omega) h0 (by
      show i < 0 + 1 + fSz (nCh (nd (fo [T]) 0 (-1) 0 0 0))
      have : nd (fo [T]) 0 (-1) 0 0 0 = (T.1, -1, 0, T.2, .leaf, 0) := by
        show (if (0 : Int) = 0 then _ else _) = _
        rw [if_pos rfl]
        rfl
      rw [this]
      have : tSz T = 1 + fSz T.2 := rfl
      show i < 0 + 1 + fSz T.2
      omega)
    have a1' : nPa (nT T i) = -1 := a1
    omega
  · have a1' : 0 ≤ nPa (nT T i) := a1
    have := (nT_p (T := T) (i := i) (by omega) h1).2
    exact ⟨a1, by omega, a2⟩
theorem nT_0 (T : tT) : nT T 0 = (T.1, -1, 0, T.2, .leaf, 0) := by
  show (if (0 : Int) = 0 then ((T.1, -1, 0, T.2, .leaf, 0) : ndI) else if (0 : Int) < 0 + 1 + fSz T.2 then nd T.2 (0 + 1) 0 0 0 0 else nd .leaf (0 + 1 + fSz T.2) (-1) (0 + 1) (0 + fSz T.2 + 1) 0) = _
  rw [if_pos rfl]
/-- which children a node may have -/
def chK (k c : Int) : Prop := c ≠ 0 ∧ (c = 22 ∨ c = 23 → k = 20 ∨ k = 39) ∧ (c = 15 → k = 14) ∧ (c = 38 → k = 37) ∧ (c = 19 → k = 18) ∧ (c = 3 → k = 2)
theorem gC_ch {k : Int} {m : List Int} (h : gC k m) {c : Int} (hc : c ∈ m) : chK k c := by
  unfold gC at h
  unfold chK
  by_cases b0 : k = 0 ∨ k = 23
  · rw [if_pos b0] at h
    have := h c hc
    try simp only [isE, isS] at *
    omega
  rw [if_neg b0] at h
  by_cases b1 : k = 1
  · rw [if_pos b1] at h
    have := h c hc
    try simp only [isE, isS] at *
    omega
  rw [if_neg b1] at h
  by_cases b2 : k = 2
  · rw [if_pos b2] at h
    have := h.2 c hc
    try simp only [isE, isS] at *
    omega
  rw [if_neg b2] at h
  by_cases b3 : k = 3 ∨ k = 13
  · rw [if_pos b3] at h
    rcases h with rfl | ⟨a, rfl, h1⟩
    · cases hc
    · simp only [List.mem_cons, List.not_mem_nil, or_false, isE, isS] at *
      omega
  rw [if_neg b3] at h
  by_cases b4 : k = 5 ∨ k = 17 ∨ k = 38 ∨ k = 41 ∨ k = 44 ∨ k = 45
  · rw [if_pos b4] at h
    obtain ⟨a, rfl, h1⟩ := h
    simp only [List.mem_cons, List.not_mem_nil, or_false, isE, isS] at *
    omega
  rw [if_neg b4] at h
  by_cases b5 : k = 6
  · rw [if_pos b5] at h
    obtain ⟨a, b, h1, h2, rfl | ⟨d, rfl, h3⟩⟩ := h
    · simp only [List.mem_cons, List.not_mem_nil, or_false, isE, isS] at *
      omega
    · simp only [List.mem_cons, List.not_mem_nil, or_false, isE, isS] at *
      omega
  rw [if_neg b5] at h
  by_cases b6 : k = 7
  · rw [if_pos b6] at h
    obtain ⟨a, b, rfl, h1, h2⟩ := h
    simp only [List.mem_cons, List.not_mem_nil, or_false, isE, isS] at *
    omega
  rw [if_neg b6] at h
  by_cases b7 : k = 8
  · rw [if_pos b7] at h
    obtain ⟨a, b, rfl, h1, h2⟩ := h
    simp only [List.mem_cons, List.not_mem_nil, or_false, isE, isS] at *
    omega
  rw [if_neg b7] at h
  by_cases b8 : k = 9
  · rw [if_pos b8] at h
    obtain ⟨a, b, d, e, rfl, h1, h2, h3, h4⟩ := h
    simp only [List.mem_cons, List.not_mem_nil, or_false, isE, isS] at *
    omega
  rw [if_neg b8] at h
  by_cases b9 : k = 10
  · rw [if_pos b9] at h
    obtain ⟨a, b, d, rfl, h1, h2, h3⟩ := h
    simp only [List.mem_cons, List.not_mem_nil, or_false, isE, isS] at *
    omega
  rw [if_neg b9] at h
  by_cases b10 : k = 14
  · rw [if_pos b10] at h
    obtain ⟨a, r, rfl, h1, h2⟩ := h
    rcases List.mem_cons.mp hc with rfl | hc
    · simp only [isE, isS] at *
      omega
    · have := h2 c hc
      try simp only [isE, isS] at *
      omega
  rw [if_neg b10] at h
  by_cases b11 : k = 15
  · rw [if_pos b11] at h
    obtain ⟨a, r, rfl, h1, h2⟩ := h
    rcases List.mem_cons.mp hc with rfl | hc
    · simp only [isE, isS] at *
      omega
    · have := h2 c hc
      try simp only [isE, isS] at *
      omega
  rw [if_neg b11] at h
  by_cases b12 : k = 16
  · rw [if_pos b12] at h
    obtain ⟨a, rfl, h1⟩ := h
    simp only [List.mem_cons, List.not_mem_nil, or_false, isE, isS] at *
    omega
  rw [if_neg b12] at h
  by_cases b13 : k = 18
  · rw [if_pos b13] at h
    obtain ⟨a, b, rfl, h1, h2⟩ := h
    simp only [List.mem_cons, List.not_mem_nil, or_false, isE, isS] at *
    omega
  rw [if_neg b13] at h
  by_cases b14 : k = 19
  · rw [if_pos b14] at h
    subst h
    simp only [List.mem_cons, List.not_mem_nil, or_false, isE, isS] at *
    omega
  rw [if_neg b14] at h
  by_cases b15 : k = 20 ∨ k = 39
  · rw [if_pos b15] at h
    obtain ⟨r, rfl, h1⟩ := h
    rcases List.mem_append.mp hc with hc | hc
    · have := h1 c hc
      omega
    · have : c = 23 := by simpa using hc
      omega
  rw [if_neg b15] at h
  by_cases b16 : k = 36
  · rw [if_pos b16] at h
    have := h c hc
    try simp only [isE, isS] at *
    omega
  rw [if_neg b16] at h
  by_cases b17 : k = 37
  · rw [if_pos b17] at h
    have := h c hc
    try simp only [isE, isS] at *
    omega
  rw [if_neg b17] at h
  by_cases b18 : k = 40 ∨ k = 46 ∨ k = 48
  · rw [if_pos b18] at h
    obtain ⟨a, b, rfl, h1, h2⟩ := h
    simp only [List.mem_cons, List.not_mem_nil, or_false, isE, isS] at *
    omega
  rw [if_neg b18] at h
  by_cases b19 : k = 42 ∨ k = 43
  · rw [if_pos b19] at h
    obtain ⟨a, r, rfl, h1, h2⟩ := h
    rcases List.mem_cons.mp hc with rfl | hc
    · simp only [isE, isS] at *
      omega
    · have := h2 c hc
      try simp only [isE, isS] at *
      omega
  rw [if_neg b19] at h
  by_cases b20 : k = 47
  · rw [if_pos b20] at h
    obtain ⟨a, b, d, rfl, h1, h2, h3⟩ := h
    simp only [List.mem_cons, List.not_mem_nil, or_false, isE, isS] at *
    omega
  rw [if_neg b20] at h
  by_cases b21 : k = 49
  · rw [if_pos b21] at h
    have := h.2 c hc
    try simp only [isE, isS] at *
    omega
  rw [if_neg b21] at h
  subst h
  cases hc
