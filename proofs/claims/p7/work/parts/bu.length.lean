/-! ===== what is printed is no longer than the tree's weight ===== -/
def knK (k c : Int) : Prop := (1 ≤ c ∧ c ≤ 23 ∨ 30 ≤ c ∧ c ≤ 49) ∧ (30 ≤ k ∧ k ≠ 36 ∧ k ≠ 37 ∧ k ≠ 39 → isE c) ∧ (k = 5 → isE c) ∧ (k = 3 → isE c) ∧ (k = 2 → c = 3)
theorem gC_kn {k : Int} {m : List Int} (h : gC k m) {c : Int} (hc : c ∈ m) : knK k c := by
  unfold gC at h
  unfold knK isE
  by_cases b0 : k = 0 ∨ k = 23
  · rw [if_pos b0] at h
    have := h c hc
    try simp only [isE, isS] at *
    omega
  rw [if_neg b0] at h
  by_cases b1 : k = 1
  · rw [if_pos b1] at h
    have := h c hc
    try simp only [isE, isS] at *
    omega
  rw [if_neg b1] at h
  by_cases b2 : k = 2
  · rw [if_pos b2] at h
    have := h.2 c hc
    try simp only [isE, isS] at *
    omega
  rw [if_neg b2] at h
  by_cases b3 : k = 3 ∨ k = 13
  · rw [if_pos b3] at h
    rcases h with rfl | ⟨a, rfl, h1⟩
    · cases hc
    · simp only [List.mem_cons, List.not_mem_nil, or_false, isE, isS] at *
      omega
  rw [if_neg b3] at h
  by_cases b4 : k = 5 ∨ k = 17 ∨ k = 38 ∨ k = 41 ∨ k = 44 ∨ k = 45
  · rw [if_pos b4] at h
    obtain ⟨a, rfl, h1⟩ := h
    simp only [List.mem_cons, List.not_mem_nil, or_false, isE, isS] at *
    omega
  rw [if_neg b4] at h
  by_cases b5 : k = 6
  · rw [if_pos b5] at h
    obtain ⟨a, b, h1, h2, rfl | ⟨d, rfl, h3⟩⟩ := h
    · simp only [List.mem_cons, List.not_mem_nil, or_false, isE, isS] at *
      omega
    · simp only [List.mem_cons, List.not_mem_nil, or_false, isE, isS] at *
      omega
  rw [if_neg b5] at h
  by_cases b6 : k = 7
  · rw [if_pos b6] at h
    obtain ⟨a, b, rfl, h1, h2⟩ := h
    simp only [List.mem_cons, List.not_mem_nil, or_false, isE, isS] at *
    omega
  rw [if_neg b6] at h
  by_cases b7 : k = 8
  · rw [if_pos b7] at h
    obtain ⟨a, b, rfl, h1, h2⟩ := h
    simp only [List.mem_cons, List.not_mem_nil, or_false, isE, isS] at *
    omega
  rw [if_neg b7] at h
  by_cases b8 : k = 9
  · rw [if_pos b8] at h
    obtain ⟨a, b, d, e, rfl, h1, h2, h3, h4⟩ := h
    simp only [List.mem_cons, List.not_mem_nil, or_false, isE, isS] at *
    omega
  rw [if_neg b8] at h
  by_cases b9 : k = 10
  · rw [if_pos b9] at h
    obtain ⟨a, b, d, rfl, h1, h2, h3⟩ := h
    simp only [List.mem_cons, List.not_mem_nil, or_false, isE, isS] at *
    omega
  rw [if_neg b9] at h
  by_cases b10 : k = 14
  · rw [if_pos b10] at h
    obtain ⟨a, r, rfl, h1, h2⟩ := h
    rcases List.mem_cons.mp hc with rfl | hc
    · simp only [isE, isS] at *
      omega
    · have := h2 c hc
      try simp only [isE, isS] at *
      omega
  rw [if_neg b10] at h
  by_cases b11 : k = 15
  · rw [if_pos b11] at h
    obtain ⟨a, r, rfl, h1, h2⟩ := h
    rcases List.mem_cons.mp hc with rfl | hc
    · simp only [isE, isS] at *
      omega
    · have := h2 c hc
      try simp only [isE, isS] at *
      omega
  rw [if_neg b11] at h
  by_cases b12 : k = 16
  · rw [if_pos b12] at h
    obtain ⟨a, rfl, h1⟩ := h
    simp only [List.mem_cons, List.not_mem_nil, or_false, isE, isS] at *
    omega
  rw [if_neg b12] at h
  by_cases b13 : k = 18
  · rw [if_pos b13] at h
    obtain ⟨a, b, rfl, h1, h2⟩ := h
    simp only [List.mem_cons, List.not_mem_nil, or_false, isE, isS] at *
    omega
  rw [if_neg b13] at h
  by_cases b14 : k = 19
  · rw [if_pos b14] at h
    subst h
    simp only [List.mem_cons, List.not_mem_nil, or_false, isE, isS] at *
    omega
  rw [if_neg b14] at h
  by_cases b15 : k = 20 ∨ k = 39
  · rw [if_pos b15] at h
    obtain ⟨r, rfl, h1⟩ := h
    rcases List.mem_append.mp hc with hc | hc
    · have := h1 c hc
      omega
    · have : c = 23 := by simpa using hc
      omega
  rw [if_neg b15] at h
  by_cases b16 : k = 36
  · rw [if_pos b16] at h
    have := h c hc
    try simp only [isE, isS] at *
    omega
  rw [if_neg b16] at h
  by_cases b17 : k = 37
  · rw [if_pos b17] at h
    have := h c hc
    try simp only [isE, isS] at *
    omega
  rw [if_neg b17] at h
  by_cases b18 : k = 40 ∨ k = 46 ∨ k = 48
  · rw [if_pos b18] at h
    obtain ⟨a, b, rfl, h1, h2⟩ := h
    simp only [List.mem_cons, List.not_mem_nil, or_false, isE, isS] at *
    omega
  rw [if_neg b18] at h
  by_cases b19 : k = 42 ∨ k = 43
  · rw [if_pos b19] at h
    obtain ⟨a, r, rfl, h1, h2⟩ := h
    rcases List.mem_cons.mp hc with rfl | hc
    · simp only [isE, isS] at *
      omega
    · have := h2 c hc
      try simp only [isE, isS] at *
      omega
  rw [if_neg b19] at h
  by_cases b20 : k = 47
  · rw [if_pos b20] at h
    obtain ⟨a, b, d, rfl, h1, h2, h3⟩ := h
    simp only [List.mem_cons, List.not_mem_nil, or_false, isE, isS] at *
    omega
  rw [if_neg b20] at h
  by_cases b21 : k = 49
  · rw [if_pos b21] at h
    have := h.2 c hc
    try simp only [isE, isS] at *
    omega
  rw [if_neg b21] at h
  subst h
  cases hc
section TXb7
variable {tx : Int → Int} {n : Int}
theorem OW_all {l : tLb} {ch : tF} (ht : tOk tx n) (g1 : gT tx n l) (g2 : gC l.1 (fK ch)) (hk : 0 ≤ l.1 ∧ l.1 ≤ 23 ∨ 30 ≤ l.1 ∧ l.1 ≤ 49) : OW tx n l ch := by
  by_cases e0 : l.1 = 0
  · exact OW_0 ht g1 g2 e0
  by_cases e1 : l.1 = 1
  · exact OW_1 ht g1 g2 e1
  by_cases e2 : l.1 = 2
  · exact OW_2 ht g1 g2 e2
  by_cases e3 : l.1 = 3
  · exact OW_3 ht g1 g2 e3
  by_cases e4 : l.1 = 4
  · exact OW_4 ht g1 g2 e4
  by_cases e5 : l.1 = 5
  · exact OW_5 ht g1 g2 e5
  by_cases e6 : l.1 = 6
  · exact OW_6 ht g1 g2 e6
  by_cases e7 : l.1 = 7
  · exact OW_7 ht g1 g2 e7
  by_cases e8 : l.1 = 8
  · exact OW_8 ht g1 g2 e8
  by_cases e9 : l.1 = 9
  · exact OW_9 ht g1 g2 e9
  by_cases e10 : l.1 = 10
  · exact OW_10 ht g1 g2 e10
  by_cases e11 : l.1 = 11
  · exact OW_11 ht g1 g2 e11
  by_cases e12 : l.1 = 12
  · exact OW_12 ht g1 g2 e12
  by_cases e13 : l.1 = 13
  · exact OW_13 ht g1 g2 e13
  by_cases e14 : l.1 = 14
  · exact OW_14 ht g1 g2 e14
  by_cases e15 : l.1 = 15
  · exact OW_15 ht g1 g2 e15
  by_cases e16 : l.1 = 16
  · exact OW_16 ht g1 g2 e16
  by_cases e17 : l.1 = 17
  · exact OW_17 ht g1 g2 e17
  by_cases e18 : l.1 = 18
  · exact OW_18 ht g1 g2 e18
  by_cases e19 : l.1 = 19
  · exact OW_19 ht g1 g2 e19
  by_cases e20 : l.1 = 20
  · exact OW_20 ht g1 g2 e20
  by_cases e21 : l.1 = 21
  · exact OW_21 ht g1 g2 e21
  by_cases e22 : l.1 = 22
  · exact OW_22 ht g1 g2 e22
  by_cases e23 : l.1 = 23
  · exact OW_23 ht g1 g2 e23
  by_cases e30 : l.1 = 30
  · exact OW_30 ht g1 g2 e30
  by_cases e31 : l.1 = 31
  · exact OW_31 ht g1 g2 e31
  by_cases e32 : l.1 = 32
  · exact OW_32 ht g1 g2 e32
  by_cases e33 : l.1 = 33
  · exact OW_33 ht g1 g2 e33
  by_cases e34 : l.1 = 34
  · exact OW_34 ht g1 g2 e34
  by_cases e35 : l.1 = 35
  · exact OW_35 ht g1 g2 e35
  by_cases e36 : l.1 = 36
  · exact OW_36 ht g1 g2 e36
  by_cases e37 : l.1 = 37
  · exact OW_37 ht g1 g2 e37
  by_cases e38 : l.1 = 38
  · exact OW_38 ht g1 g2 e38
  by_cases e39 : l.1 = 39
  · exact OW_39 ht g1 g2 e39
  by_cases e40 : l.1 = 40
  · exact OW_40 ht g1 g2 e40
  by_cases e41 : l.1 = 41
  · exact OW_41 ht g1 g2 e41
  by_cases e42 : l.1 = 42
  · exact OW_42 ht g1 g2 e42
  by_cases e43 : l.1 = 43
  · exact OW_43 ht g1 g2 e43
  by_cases e44 : l.1 = 44
  · exact OW_44 ht g1 g2 e44
  by_cases e45 : l.1 = 45
  · exact OW_45 ht g1 g2 e45
  by_cases e46 : l.1 = 46
  · exact OW_46 ht g1 g2 e46
  by_cases e47 : l.1 = 47
  · exact OW_47 ht g1 g2 e47
  by_cases e48 : l.1 = 48
  · exact OW_48 ht g1 g2 e48
  by_cases e49 : l.1 = 49
  · exact OW_49 ht g1 g2 e49
  exfalso
  omega
/-- what a node saves when it stands in brackets that need not be there -/
def gSv (l : tLb) (ch : tF) : Int := if (l.1 = 46 ∧ lbC l = 14) ∨ l.1 = 34 ∨ sbN l ch = true then 1 else 0
theorem gSv_01 (l : tLb) (ch : tF) : 0 ≤ gSv l ch ∧ gSv l ch ≤ 1 := by
  unfold gSv
  split <;> omega
theorem gSv_0 {l : tLb} {ch : tF} (h : ¬ isSb l.1) (h1 : l.1 ≠ 34) (h2 : l.1 ≠ 37) (h3 : l.1 ≠ 39) : gSv l ch = 0 := by
  unfold gSv
  have : sbN l ch = false := by
    unfold sbN
    rw [if_neg (by omega), if_neg h]
  rw [this, if_neg]
  rintro (z | z | z)
  · exact h (by omega)
  · exact h1 z
  · cases z
/-- the same, where nothing is joined to what stands ahead -/
theorem OW2 {l : tLb} {ch : tF} (ht : tOk tx n) (g1 : gT tx n l) (g2 : gC l.1 (fK ch)) (hE : isE l.1) (hs : ¬ isSb l.1) : cst true (opn tx n l (fK0 ch)) + aS tx n l 0 (fK ch) + cst false (clE tx n l (fLn ch) (nlF ch)) + 1 + gSv l ch ≤ tOw l (fLn ch) := by
  have ow := OW_all ht g1 g2 (by unfold isE at hE; omega) 0 0
  have g01 := gSv_01 l ch
  have ln := g1.2.1
  have fl := fLn_0 ch
  have fk := fK_len ch
  rw [if_neg (show ¬ l.1 < 30 by unfold isE at hE; omega), if_neg (show ¬ (l.1 = 41 ∧ fK0 ch = 33) from fun z => hs (by omega)), if_neg (show ¬ (l.1 = 46 ∧ lbC l = 14) from fun z => hs (by omega))] at ow
  by_cases e30 : l.1 = 30
  · have o1 : opn tx n l (fK0 ch) = [kTok 1021] := by simp [opn, opE, e30]
    have a1 : cst false [kTok 1021] = 5 := by decide
    have a2 : cst true [kTok 1021] = 4 := by decide
    have z := gSv_0 (l := l) (ch := ch) hs (by omega) (by omega) (by omega)
    rw [o1] at ow ⊢
    omega
  by_cases e31 : l.1 = 31 ∨ l.1 = 32 ∨ l.1 = 33 ∨ l.1 = 35 ∨ l.1 = 34 ∨ l.1 = 45
  · have ln1 := gT_len ht g1 (by omega)
    have o1 : ∃ b, opn tx n l (fK0 ch) = xTk tx n l b := by
      rcases e31 with e | e | e | e | e | e
      · exact ⟨false, by simp [opn, opE, e]⟩
      · exact ⟨false, by simp [opn, opE, e]⟩
      · exact ⟨true, by simp [opn, opE, e]⟩
      · exact ⟨true, by simp [opn, opE, e]⟩
      · exact ⟨false, by simp [opn, opE, e]⟩
      · exact ⟨false, by simp [opn, opE, e]⟩
    obtain ⟨b, o1⟩ := o1
    have c1 : clE tx n l (fLn ch) (nlF ch) = [] := by rcases e31 with e | e | e | e | e | e <;> simp [clE, e]
    have a1 : aS tx n l 0 (fK ch) = 0 := by
      by_cases e45 : l.1 = 45
      · have g2' : ∃ a, fK ch = [a] ∧ isE a := by
          unfold gC at g2
          rw [e45] at g2
          exact g2
        obtain ⟨a, em, -⟩ := g2'
        rw [em]
        have z0 : ahd tx n l 0 a = [] := by simp [ahd, ahH, e45]
        show cst false (ahd tx n l 0 a) + 0 = _
        rw [z0]
        decide
      · rw [(gC_hd g2).2.2.2.2.1 (by omega)]
        rfl
    have x1 := (xC (tx := tx) (n := n) ln b).2.1
    have tw : tOw l (fLn ch) = 2 * lbN l := by rcases e31 with e | e | e | e | e | e <;> simp [tOw, e]
    have z0 : cst false [] = 0 := rfl
    rw [o1, c1, a1, tw]
    by_cases e34 : l.1 = 34
    · have l2 : 2 ≤ lbN l := by
        obtain ⟨-, -, -, q⟩ := g1
        simp only [e34] at q
        have q' : tkA tx n l 4 := by simpa using q
        obtain ⟨g, e, b, h0, h1, hT⟩ := q'
        have := st_len ht h0 h1 hT rfl
        simp only at this
        omega
      omega
    · have z := gSv_0 (l := l) (ch := ch) hs e34 (by omega) (by omega)
      omega
  by_cases e36 : l.1 = 36
  · have o1 : opn tx n l (fK0 ch) = [kTok 1016] := by simp [opn, opE, e36]
    have a2 : cst true [kTok 1016] = 1 := by decide
    have z := gSv_0 (l := l) (ch := ch) hs (by omega) (by omega) (by omega)
    have a1 := aS_c (tx := tx) (n := n) (l := l) (fun r k hr => by
      have : ahd tx n l r k = if 0 < r then [kTok 1005] else [] := by simp [ahd, e36]
      rw [this]
      split <;> decide) (fun k => by simp [ahd, e36]) (fK ch)
    have cc : cst false (clE tx n l (fLn ch) (nlF ch)) ≤ if nlF ch = true then 2 else 1 := by
      have : clE tx n l (fLn ch) (nlF ch) = (if nlF ch = true then [kTok 1005] else []) ++ [kTok 1006] := by simp [clE, e36]
      rw [this]
      split <;> decide
    have nl : nlF ch = true → 1 ≤ fLn ch := fun z => by
      cases ch with
      | leaf => cases z
      | inner x l1 u c re =>
        have := fLn_0 re
        show 1 ≤ 1 + fLn re
        omega
    rw [tOw_36 e36, o1]
    rw [fk] at a1
    by_cases h : nlF ch = true
    · have := a1.2 (nl h)
      rw [if_pos h] at cc
      omega
    · rw [if_neg h] at cc
      omega
  by_cases e37 : l.1 = 37
  · have o1 : opn tx n l (fK0 ch) = [kTok 1011] := by simp [opn, opE, e37]
    have a2 : cst true [kTok 1011] = 1 := by decide
    have a1 := aS_c (tx := tx) (n := n) (l := l) (fun r k hr => by
      have : ahd tx n l r k = if 0 < r then [kTok 1005] else [] := by simp [ahd, e37]
      rw [this]
      split <;> decide) (fun k => by simp [ahd, e37]) (fK ch)
    have c1 : clE tx n l (fLn ch) (nlF ch) = [kTok 1007] := by simp [clE, e37]
    have cc : cst false [kTok 1007] = 1 := by decide
    rw [tOw_37 e37, o1, c1]
    rw [fk] at a1
    by_cases h : 1 ≤ fLn ch
    · have := a1.2 h
      omega
    · omega
  by_cases e39 : l.1 = 39
  · have m1 := (cst_mn true (opn tx n l (fK0 ch))).1
    have o1 : opn tx n l (fK0 ch) = [kTok 1022] ++ (xTk tx n l false ++ [kTok 1009]) := by simp [opn, opE, e39]
    have oc := (xC (tx := tx) (n := n) ln false).1
    have oc2 := cst_af [kTok 1022] (xTk tx n l false ++ [kTok 1009])
    have oc3 : cst false [kTok 1022] = 9 := by decide
    have oc4 := cst_af (xTk tx n l false) [kTok 1009]
    have oc5 : cst false [kTok 1009] = 1 := by decide
    have c1 : clE tx n l (fLn ch) (nlF ch) = [] := by simp [clE, e39]
    have z0 : cst false [] = 0 := rfl
    have a1 := aS_le (tx := tx) (n := n) (l := l) (fun r k hr => by
      have : ahd tx n l r k = if k = 23 then [kTok 1010] else if 0 < r then [kTok 1005] else [] := by simp [ahd, e39]
      rw [this]
      split
      · decide
      · split <;> decide) (fK ch) 0 (by decide)
    rw [fk] at a1
    rw [tOw_39 e39, c1]
    rw [o1] at m1 ⊢
    omega
  by_cases e42 : l.1 = 42
  · have o1 : opn tx n l (fK0 ch) = [kTok 1023] := by simp [opn, opE, e42]
    have a1 : cst false [kTok 1023] = 4 := by decide
    have a2 : cst true [kTok 1023] = 3 := by decide
    have z := gSv_0 (l := l) (ch := ch) hs (by omega) (by omega) (by omega)
    rw [o1] at ow ⊢
    omega
  exfalso
  unfold isE at hE
  omega
end TXb7
