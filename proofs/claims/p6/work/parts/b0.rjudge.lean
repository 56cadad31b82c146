/-! ===== the reference's judge: its rows at a node ===== -/
/-- the reference's judge looks at the tree T -/
def rJ (tx : Int → Int) (n : Int) (r : cm_S) (T : tT) : Prop := tSz T ≤ 482 ∧ rTx tx n r ∧ rFo r (-1) 0 (tSz T) (tSz T - 1) (fo [T]) ∧ rOr r 0 0 (fo [T]) ∧ gF tx n (fo [T])
/-- the reference's number of the node at i -/
def nO (T : tT) (i : Int) : Int := nNo (nT T i)
section TX88
variable {tx : Int → Int} {n : Int}
theorem rJ.r {r : cm_S} {T : tT} (h : rJ tx n r T) {i : Int} (h0 : 0 ≤ i) (h1 : i < tSz T) : nR r i (nT T i) ∧ 0 ≤ nLo (nT T i) ∧ nO T i < tSz T := nd_r (fo [T]) 0 (-1) 0 0 _ _ _ h.2.2.1 h.2.2.2.1 i h0 (by rw [fSz_T]; omega)
theorem rJ.g {r : cm_S} {T : tT} (h : rJ tx n r T) {i : Int} (h0 : 0 ≤ i) (h1 : i < tSz T) : gT tx n (nLb (nT T i)) ∧ gC (nLb (nT T i)).1 (fK (nCh (nT T i))) ∧ gW (nLb (nT T i)) (nCh (nT T i)) ∧ gF tx n (nCh (nT T i)) ∧ gF tx n (nRe (nT T i)) := nd_g (fo [T]) 0 (-1) 0 0 h.2.2.2.2 i h0 (by rw [fSz_T]; omega)
theorem rJ.no {r : cm_S} {T : tT} (h : rJ tx n r T) {i : Int} (h0 : 0 ≤ i) (h1 : i < tSz T) : 0 ≤ nO T i ∧ nO T i < 500 := by
  have a := h.r h0 h1
  have b := fSz_0 (nCh (nT T i))
  have c := h.1
  have e : nO T i = nLo (nT T i) + fSz (nCh (nT T i)) := rfl
  omega
theorem rJ.od {r : cm_S} {T : tT} (h : rJ tx n r T) {i : Int} (h0 : 0 ≤ i) (h1 : i < tSz T) : r.2 65 i = nO T i := (h.r h0 h1).1.1
theorem rJ.inj {r : cm_S} {T : tT} (h : rJ tx n r T) {i j : Int} (h0 : 0 ≤ i) (h1 : i < tSz T) (j0 : 0 ≤ j) (j1 : j < tSz T) (e : nO T i = nO T j) : i = j := by
  have a : r.2 66 (nO T i) = i := (h.r h0 h1).1.2.1
  have b : r.2 66 (nO T j) = j := (h.r j0 j1).1.2.1
  rw [e] at a
  omega
theorem rJ.kd {r : cm_S} {T : tT} (h : rJ tx n r T) {i : Int} (h0 : 0 ≤ i) (h1 : i < tSz T) : r.2 47 (nO T i) = (nLb (nT T i)).1 := (h.r h0 h1).1.2.2.1.1
theorem rJ.pl {r : cm_S} {T : tT} (h : rJ tx n r T) {i : Int} (h0 : 0 ≤ i) (h1 : i < tSz T) : r.2 48 (nO T i) = lbP (nLb (nT T i)) := (h.r h0 h1).1.2.2.1.2.1
theorem rJ.ln {r : cm_S} {T : tT} (h : rJ tx n r T) {i : Int} (h0 : 0 ≤ i) (h1 : i < tSz T) : r.2 49 (nO T i) = lbN (nLb (nT T i)) := (h.r h0 h1).1.2.2.1.2.2.1
theorem rJ.wr {r : cm_S} {T : tT} (h : rJ tx n r T) {i : Int} (h0 : 0 ≤ i) (h1 : i < tSz T) : r.2 54 (nO T i) = cm_n (lbW (nLb (nT T i))) := (h.r h0 h1).1.2.2.1.2.2.2
theorem rJ.mn {r : cm_S} {T : tT} (h : rJ tx n r T) {i : Int} (h0 : 0 ≤ i) (h1 : i < tSz T) : r.2 53 (nO T i) = fLn (nCh (nT T i)) := (h.r h0 h1).1.2.2.2.1
theorem rJ.pa {r : cm_S} {T : tT} (h : rJ tx n r T) {i : Int} (h0 : 0 < i) (h1 : i < tSz T) : r.2 52 (nO T i) = nO T (nPa (nT T i)) := by
  have := nd_q (fo [T]) 0 (-1) 0 0 (-1) _ _ (by decide) h.2.2.1 i (by omega) (by rw [fSz_T]; omega)
  have m := nT_mem h0 h1
  rw [if_neg (by show ¬ nPa (nT T i) = -1; omega)] at this
  exact this
theorem rJ.fi {r : cm_S} {T : tT} (h : rJ tx n r T) {i : Int} (h0 : 0 ≤ i) (h1 : i < tSz T) (hc : nCh (nT T i) ≠ .leaf) : r.2 50 (nO T i) = nO T (i + 1) := by
  have a := (h.r h0 h1).1.2.2.2.2.1
  cases hch : nCh (nT T i) with
  | leaf => exact absurd hch hc
  | inner x l u ch re =>
    have e := nd_1 (fo [T]) 0 (-1) 0 0 i h0 (by rw [fSz_T]; omega) x l u ch re hch
    rw [hch] at a
    obtain ⟨m, a1, a2, a3, a4, a5, a6, a7, a8⟩ := a
    have em := rFo_sz _ _ _ _ _ a7
    have : nO T (i + 1) = nLo (nT T i) + fSz ch := by
      show nNo (nd (fo [T]) 0 (-1) 0 0 (i + 1)) = _
      rw [e]
      rfl
    rw [this]
    show r.2 50 (nNo (nT T i)) = _
    omega
theorem rJ.fl {r : cm_S} {T : tT} (h : rJ tx n r T) {i : Int} (h0 : 0 ≤ i) (h1 : i < tSz T) (hc : nCh (nT T i) = .leaf) : r.2 50 (nO T i) = -1 := by
  have a := (h.r h0 h1).1.2.2.2.2.1
  rw [hc] at a
  exact a.1
theorem rJ.nx {r : cm_S} {T : tT} (h : rJ tx n r T) {i : Int} (h0 : 0 ≤ i) (h1 : i < tSz T) (hc : nRe (nT T i) ≠ .leaf) : r.2 51 (nO T i) = nO T (i + 1 + fSz (nCh (nT T i))) := by
  obtain ⟨hh, a⟩ := (h.r h0 h1).1.2.2.2.2.2.2.1
  cases hre : nRe (nT T i) with
  | leaf => exact absurd hre hc
  | inner x l u ch re =>
    obtain ⟨e, -⟩ := nd_2 (fo [T]) 0 (-1) 0 0 i h0 (by rw [fSz_T]; omega) x l u ch re hre
    rw [hre] at a
    obtain ⟨m, a1, a2, a3, a4, a5, a6, a7, a8⟩ := a
    have em := rFo_sz _ _ _ _ _ a7
    have : nO T (i + 1 + fSz (nCh (nT T i))) = nNo (nT T i) + 1 + fSz ch := by
      show nNo (nd (fo [T]) 0 (-1) 0 0 (i + 1 + fSz (nCh (nd (fo [T]) 0 (-1) 0 0 i)))) = _
      rw [e]
      rfl
    rw [this]
    show r.2 51 (nNo (nT T i)) = _
    omega
theorem rJ.nl {r : cm_S} {T : tT} (h : rJ tx n r T) {i : Int} (h0 : 0 ≤ i) (h1 : i < tSz T) (hc : nRe (nT T i) = .leaf) : r.2 51 (nO T i) = -1 := by
  obtain ⟨hh, a⟩ := (h.r h0 h1).1.2.2.2.2.2.2.1
  rw [hc] at a
  exact a.1
theorem rJ.k0 {r : cm_S} {T : tT} (h : rJ tx n r T) {i : Int} (h0 : 0 < i) (h1 : i < tSz T) : chK (nLb (nT T (nPa (nT T i)))).1 (nLb (nT T i)).1 := by
  obtain ⟨a1, a2, a3⟩ := nT_mem h0 h1
  exact gC_ch (h.g a1 (by omega)).2.1 a3
theorem rJ.tex {r : cm_S} {T : tT} (h : rJ tx n r T) {p : Int} (h0 : 0 ≤ p) (h1 : p < n) : r.2 46 p = tA tx n p := by
  rw [h.2.1.2 p h0 h1]
  unfold tA
  rw [if_pos ⟨h0, h1⟩]
/-- a sign ahead: its text and its code -/
theorem pre_tx (ht : tOk tx n) {l : tLb} (h : gT tx n l) (hk : l.1 = 45) : 0 ≤ lbP l ∧ lbP l < n ∧ ((tA tx n (lbP l) = 43 ∨ tA tx n (lbP l) = 45) ∧ lbN l = 2 ↔ lbC l = 11051 ∨ lbC l = 11565) ∧ (tA tx n (lbP l) = 100 ↔ lbC l = 6) := by
  obtain ⟨g1, g2, g3, g4⟩ := h
  rw [hk] at g4
  simp only [show ¬ ((45 : Int) = 3 ∨ (45 : Int) = 16 ∨ (45 : Int) = 19 ∨ (45 : Int) = 20 ∨ (45 : Int) = 22 ∨ (45 : Int) = 31) by decide, show ¬ ((45 : Int) = 11 ∨ (45 : Int) = 12 ∨ (45 : Int) = 39) by decide, show ¬ (45 : Int) = 32 by decide, show ¬ (45 : Int) = 33 by decide, show ¬ (45 : Int) = 34 by decide, show ¬ (45 : Int) = 35 by decide, show ¬ (45 : Int) = 38 by decide, show ¬ (45 : Int) = 41 by decide, show ¬ (45 : Int) = 44 by decide, if_false, if_true] at g4
  rcases g4 with ⟨g4, g5⟩ | ⟨g4, g5⟩
  · obtain ⟨a1, a2, a3, a4⟩ := tkA6 ht g4
    clear a3
    have b1 := tx_b ht (p := lbP l) a1 (by omega)
    refine ⟨a1, by omega, ?_, by
      rcases a4 with ⟨c1, c2⟩ | ⟨c1, c2⟩ | ⟨c1, c2⟩ | ⟨c1, c2⟩
      · omega
      · have b2 := tx_b ht (p := lbP l + 1) (by omega) (by omega)
        unfold pk2 at c2
        omega
      · have b2 := tx_b ht (p := lbP l + 1) (by omega) (by omega)
        have b3 := tx_b ht (p := lbP l + 2) (by omega) (by omega)
        unfold pk3 pk2 at c2
        omega
      · have b2 := tx_b ht (p := lbP l + 1) (by omega) (by omega)
        have b3 := tx_b ht (p := lbP l + 2) (by omega) (by omega)
        have b4 := tx_b ht (p := lbP l + 3) (by omega) (by omega)
        unfold pk4 pk3 pk2 at c2
        omega⟩
    rcases a4 with ⟨c1, c2⟩ | ⟨c1, c2⟩ | ⟨c1, c2⟩ | ⟨c1, c2⟩
    · omega
    · have b2 := tx_b ht (p := lbP l + 1) (by omega) (by omega)
      unfold pk2 at c2
      omega
    · have b2 := tx_b ht (p := lbP l + 1) (by omega) (by omega)
      have b3 := tx_b ht (p := lbP l + 2) (by omega) (by omega)
      unfold pk3 pk2 at c2
      omega
    · have b2 := tx_b ht (p := lbP l + 1) (by omega) (by omega)
      have b3 := tx_b ht (p := lbP l + 2) (by omega) (by omega)
      have b4 := tx_b ht (p := lbP l + 3) (by omega) (by omega)
      unfold pk4 pk3 pk2 at c2
      omega
  · obtain ⟨a1, a2, a3, a4, a5⟩ := tkA2 ht g4
    have e6 : lbC l = 6 → tA tx n (lbP l) = 100 ∧ (((lbN l).toNat : Nat) : Int) = 6 := fun e => by
      rw [e] at a5
      exact tkL_hd (c := 100) (r := [101, 108, 101, 116, 101]) a5
    have e24 : lbC l = 24 → tA tx n (lbP l) = 116 ∧ (((lbN l).toNat : Nat) : Int) = 6 := fun e => by
      rw [e] at a5
      exact tkL_hd (c := 116) (r := [121, 112, 101, 111, 102]) a5
    have e26 : lbC l = 26 → tA tx n (lbP l) = 118 ∧ (((lbN l).toNat : Nat) : Int) = 4 := fun e => by
      rw [e] at a5
      exact tkL_hd (c := 118) (r := [111, 105, 100]) a5
    refine ⟨a1, by omega, by omega, by omega⟩
end TX88
