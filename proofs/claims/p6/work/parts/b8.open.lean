/-! ===== the class's printer: what stands ahead of a node, its begin, its end ===== -/
def cP (tx : Int → Int) (n : Int) (s : cm_S) (t : Nat) (T : tT) : Prop := cJ tx n s t T ∧ s.1 3704 = t
/-- the token of the node's own -/
def xTk (tx : Int → Int) (n : Int) (l : tLb) (b : Bool) : List tok := if 0 < lbN l then [(tkL tx n (lbP l) (lbN l).toNat, b)] else []
/-- the parent's label -/
def pL (T : tT) (i : Int) : tLb := if nPa (nT T i) < 0 then (-1, -1, 0, 0, false) else nLb (nT T (nPa (nT T i)))
def ahH (k r : Int) : List tok :=
  if k = 6 then (if 0 < r then (if r = 1 then [kTok 1010] else [kTok 1018]) else [])
  else if k = 7 then (if r = 1 then [kTok 1019, kTok 1009] else [])
  else if k = 8 then (if r = 1 then [kTok 1010] else [])
  else if k = 9 then (if 0 < r then (if r = 3 then [kTok 1010] else [kTok 1013]) else [])
  else if k = 10 then (if 0 < r then (if r = 1 then [kTok 1020] else [kTok 1010]) else [])
  else if k = 14 then (if r = 1 then [kTok 1010, kTok 1011] else [])
  else []
/-- what a parent has ahead of its child of rank r and kind k -/
def ahd (tx : Int → Int) (n : Int) (pl : tLb) (r k : Int) : List tok :=
  if pl.1 = 2 then (if 0 < r then [kTok 1005] else [])
  else if pl.1 = 3 then [kTok 1014]
  else if pl.1 = 15 then (if r = 1 then [kTok 1012] else [])
  else if pl.1 = 18 then (if r = 2 then (if k = 1 then [kTok 1015] else []) else [])
  else if pl.1 = 20 then (if k = 23 then [kTok 1010] else if 0 < r then [kTok 1005] else [])
  else if pl.1 = 36 then (if 0 < r then [kTok 1005] else [])
  else if pl.1 = 37 then (if 0 < r then [kTok 1005] else [])
  else if pl.1 = 39 then (if k = 23 then [kTok 1010] else if 0 < r then [kTok 1005] else [])
  else if pl.1 = 40 then (if r = 1 then [kTok 1016] else [])
  else if pl.1 = 42 then (if 0 < r then (if r = 1 then [kTok 1009] else [kTok 1005]) else [])
  else if pl.1 = 43 then (if 0 < r then (if r = 1 then [kTok 1009] else [kTok 1005]) else [])
  else if pl.1 = 46 then (if r = 1 then xTk tx n pl false else [])
  else if pl.1 = 47 then (if 0 < r then (if r = 1 then [kTok 1017] else [kTok 1012]) else [])
  else if pl.1 = 48 then (if r = 1 then xTk tx n pl false else [])
  else if pl.1 = 49 then (if 0 < r then [kTok 1005] else [])
  else ahH pl.1 r
def opE (tx : Int → Int) (n : Int) (l : tLb) : List tok :=
  if l.1 = 30 then [kTok 1021]
  else if l.1 = 31 then xTk tx n l false
  else if l.1 = 32 then xTk tx n l false
  else if l.1 = 33 then xTk tx n l true
  else if l.1 = 34 then xTk tx n l false
  else if l.1 = 35 then xTk tx n l true
  else if l.1 = 36 then [kTok 1016]
  else if l.1 = 37 then [kTok 1011]
  else if l.1 = 38 then xTk tx n l false ++ [kTok 1012]
  else if l.1 = 39 then [kTok 1022] ++ (xTk tx n l false ++ [kTok 1009])
  else if l.1 = 42 then [kTok 1023]
  else if l.1 = 45 then xTk tx n l false
  else []
def opH (tx : Int → Int) (n : Int) (l : tLb) : List tok :=
  if l.1 = 6 then [kTok 1032, kTok 1009]
  else if l.1 = 7 then [kTok 1033]
  else if l.1 = 8 then [kTok 1019, kTok 1009]
  else if l.1 = 9 then [kTok 1034, kTok 1009]
  else if l.1 = 10 then [kTok 1034, kTok 1009]
  else if l.1 = 14 then [kTok 1035, kTok 1009]
  else if l.1 = 19 then [kTok 1036] ++ ([kTok 1009] ++ (xTk tx n l false ++ [kTok 1010]))
  else []
def opS (tx : Int → Int) (n : Int) (l : tLb) (k1 : Int) : List tok :=
  if l.1 = 1 then [kTok 1011]
  else if l.1 = 2 then [kTok 1024]
  else if l.1 = 3 then xTk tx n l false
  else if l.1 = 11 then [kTok 1025] ++ xTk tx n l false
  else if l.1 = 12 then [kTok 1026] ++ xTk tx n l false
  else if l.1 = 13 then [kTok 1027]
  else if l.1 = 15 then (if k1 = 21 then [kTok 1028] else [kTok 1029])
  else if l.1 = 16 then xTk tx n l false ++ [kTok 1012]
  else if l.1 = 17 then [kTok 1030]
  else if l.1 = 18 then [kTok 1031]
  else if l.1 = 20 then [kTok 1022] ++ (xTk tx n l false ++ [kTok 1009])
  else if l.1 = 22 then xTk tx n l false
  else if l.1 = 23 then [kTok 1011]
  else opH tx n l
def opn (tx : Int → Int) (n : Int) (l : tLb) (k1 : Int) : List tok := if l.1 < 30 then opS tx n l k1 else opE tx n l
/-- .. behind its m children; nl: the last one is nothing -/
def clE (tx : Int → Int) (n : Int) (l : tLb) (m : Int) (nl : Bool) : List tok :=
  if l.1 = 36 then (if nl = true then [kTok 1005] else []) ++ [kTok 1006]
  else if l.1 = 37 then [kTok 1007]
  else if l.1 = 40 then [kTok 1006]
  else if l.1 = 41 then [kTok 1008] ++ xTk tx n l false
  else if l.1 = 42 then (if m = 1 then [kTok 1009] else []) ++ [kTok 1010]
  else if l.1 = 43 then (if m = 1 then [kTok 1009] else []) ++ [kTok 1010]
  else if l.1 = 44 then xTk tx n l false
  else []
def clS (pk r : Int) (l : tLb) (m : Int) : List tok :=
  if l.1 = 1 then [kTok 1007]
  else if l.1 = 2 then (if (pk = 9 ∨ pk = 10) ∧ r = 0 then [] else [kTok 1013])
  else if l.1 = 4 then [kTok 1013]
  else if l.1 = 5 then [kTok 1013]
  else if l.1 = 7 then [kTok 1010, kTok 1013]
  else if l.1 = 11 then [kTok 1013]
  else if l.1 = 12 then [kTok 1013]
  else if l.1 = 13 then [kTok 1013]
  else if l.1 = 14 then (if m = 1 then [kTok 1010, kTok 1011, kTok 1007] else [kTok 1007])
  else if l.1 = 15 then (if m = 1 then [kTok 1012] else [])
  else if l.1 = 17 then [kTok 1013]
  else if l.1 = 23 then [kTok 1007]
  else []
section TX95
variable {tx : Int → Int} {n : Int}
theorem cP.fr {s s' : cm_S} {t : Nat} {T : tT} (h : cP tx n s t T) (hf : pF s s') : cP tx n s' t T := by
  obtain ⟨⟨h1, h2, h3, h4, h5, h6, h7⟩, h8⟩ := h
  have tt : t ≤ 27 ∧ 18 ≤ t := by rcases h1 with rfl | rfl <;> omega
  refine ⟨⟨h1, (hf.2 _ (by decide) (by decide)).trans h2, (hf.2 _ (by omega) (by omega)).trans h3, h4, ⟨(hf.2 _ (by decide) (by decide)).trans h5.1, fun j a b => by rw [hf.1 2 (by decide)]; exact h5.2 j a b⟩, cFl_fr _ _ _ _ (fun a i a1 a2 _ _ => by rw [hf.1 a (by omega)]) h6, h7⟩, (hf.2 _ (by decide) (by decide)).trans h8⟩
theorem cP.tn {s : cm_S} {t : Nat} {T : tT} (h : cP tx n s t T) : (s.1 3704).toNat = t := by rw [h.2]; rfl
theorem cP.rk {s : cm_S} {t : Nat} {T : tT} (h : cP tx n s t T) {i : Int} (h0 : 0 ≤ i) (h1 : i < tSz T) : cm_sem 145 [.inr (.inl t), .inl i] s = some (.inl (some (.inl (nRk (nT T i)))), s) := by
  rw [cs_145 h.1.1 h.1.sz, tg_in ⟨h0, by rw [h.1.2.2.1]; exact h1⟩, (h.1.c h0 h1).2.2.2.2.2.1]
theorem cP.kp {s : cm_S} {t : Nat} {T : tT} (h : cP tx n s t T) {i : Int} (h0 : 0 ≤ i) (h1 : i < tSz T) : cm_sem 15 [.inr (.inl t), .inl (nPa (nT T i))] s = some (.inl (some (.inl (pL T i).1)), s) := by
  have hp := (nT_p h0 h1).2
  unfold pL
  split
  · next e => rw [cs_15 h.1.1 h.1.sz, show tg s t 1 (-1) (nPa (nT T i)) = -1 from if_neg (by omega)]
  · next e => exact h.1.kd (by omega) (by omega)
theorem cl_159 (ht : tOk tx n) {p m : Int} (p0 : 0 ≤ p) (pm : p + m ≤ n) (o1 : Option cm_V) : ∀ (k : Nat) (j : Int) (s : cm_S) (st : oS), cTx tx n s → 0 ≤ j → j + k = m → cOut s st → (pushL st.1 (tkL tx n (p + j) k)).length ≤ 1024 → ∃ s', cm_lp cm_sem cm_k159 21 [some (.inr (.inl 37)), o1, some (.inl m), some (.inl p), some (.inl j)] [] s = some (.inl none, s') ∧ pF s s' ∧ cOut s' (pushL st.1 (tkL tx n (p + j) k), st.2) := by
  have n9 := ht.2.1
  intro k
  induction k with
  | zero =>
    intro j s st hx j0 hj hc _
    rw [cE_159_21, cF_159_21, if_neg (by omega)]
    exact ⟨s, rfl, pF_rf s, hc⟩
  | succ k ih =>
    intro j s st hx j0 hj hc hl
    have b := tx_b ht (p := p + j) (by omega) (by omega)
    have hl' : (pushL (tA tx n (p + j) :: st.1) (tkL tx n (p + j + 1) k)).length ≤ 1024 := hl
    have pl := pushL_len (tkL tx n (p + j + 1) k) (tA tx n (p + j) :: st.1)
    rw [List.length_cons] at pl
    rw [cE_159_21, cF_159_21, if_pos (by omega), cm_w_id (by omega) (by omega), cs_28 ht hx, cm_bi_i, cm_w_id (by omega) (by omega)]
    obtain ⟨s1, e1, f1, c1⟩ := c_158 hc (by omega) (c := tA tx n (p + j)) (by omega)
    rw [e1, cm_bv_o]
    have hx1 : cTx tx n s1 := ⟨(f1.2 102 (by decide) (by decide)).trans hx.1, fun q a b => by rw [f1.1 2 (by decide)]; exact hx.2 q a b⟩
    obtain ⟨s2, e2, f2, c2⟩ := ih (j + 1) s1 (tA tx n (p + j) :: st.1, st.2) hx1 (by omega) (by omega) c1 (by rw [← Int.add_assoc]; exact hl')
    rw [← Int.add_assoc] at c2
    exact ⟨s2, e2, f1.tr f2, c2⟩
theorem PM_txt (ht : tOk tx n) {s : cm_S} {t : Nat} {T : tT} (h : cP tx n s t T) {st : oS} {i : Int} (h0 : 0 ≤ i) (h1 : i < tSz T) : PM s (cm_sem 159 [.inr (.inl 37), .inl i] s) st (xTk tx n (nLb (nT T i)) false) := fun hc hl => by
  have n9 := ht.2.1
  obtain ⟨g1, g2, g3, -⟩ := (h.1.g h0 h1).1
  rw [cS_159, cF_159_0]
  simp only [h.tn, if_pos h.1.cl, h.1.ln h0 h1, h.1.pl h0 h1, cm_bi_i]
  unfold xTk at hl ⊢
  generalize nLb (nT T i) = l at *
  by_cases hn : 0 < lbN l
  · rw [if_pos hn] at hl ⊢
    rw [if_pos hn, cs_28 ht h.1.2.2.2.2.1, cm_bi_i]
    obtain ⟨k, hk⟩ : ∃ k, (lbN l).toNat = k + 1 := ⟨(lbN l).toNat - 1, by omega⟩
    rw [hk] at hl ⊢
    have hl' : (pushL (sepR st (tA tx n (lbP l))) (tkL tx n (lbP l) (k + 1))).length ≤ 1024 := hl
    have pl := pushL_len (tkL tx n (lbP l) (k + 1)) (sepR st (tA tx n (lbP l)))
    rw [tkL_len] at pl
    obtain ⟨s1, e1, f1, c1⟩ := c_157 hc (c := tA tx n (lbP l)) (by omega)
    rw [e1, cm_bv_o]
    have hx1 : cTx tx n s1 := (h.fr f1).1.2.2.2.2.1
    obtain ⟨s2, e2, f2, c2⟩ := cl_159 ht g1 g3 (some (.inl i)) (k + 1) 0 s1 _ hx1 (Int.le_refl _) (by omega) c1 (by rw [Int.add_zero]; exact hl')
    rw [Int.add_zero] at c2
    exact ⟨s2, e2, f1.tr f2, c2⟩
  · rw [if_neg hn] at hl ⊢
    rw [if_neg hn, cE_159_21, cF_159_21, if_neg hn]
    exact ⟨s, rfl, pF_rf s, hc⟩
theorem PM_txl (ht : tOk tx n) {s : cm_S} {t : Nat} {T : tT} (h : cP tx n s t T) {st : oS} {i : Int} (h0 : 0 ≤ i) (h1 : i < tSz T) (hl : 0 < lbN (nLb (nT T i))) (b : Bool) : PM s (cm_bv (cm_sem 159 [.inr (.inl 37), .inl i] s) fun s2 => some (.inl none, cm_p s2 3705 (cm_n b))) st (xTk tx n (nLb (nT T i)) b) := fun hc hlen => by
  have e : ∀ b, xTk tx n (nLb (nT T i)) b = [(tkL tx n (lbP (nLb (nT T i))) (lbN (nLb (nT T i))).toNat, b)] := fun b => if_pos hl
  obtain ⟨s', e1, f1, c1⟩ := PM_txt ht h h0 h1 (st := st) hc (by rw [e] at hlen ⊢; exact hlen)
  rw [e] at c1 ⊢
  rw [e1, cm_bv_o]
  exact ⟨_, rfl, pF_l f1 _, cOut_l c1 b⟩
end TX95
