/-! ===== the reference's printer: statements with a heading ===== -/
section TXb3
variable {tx : Int → Int} {n : Int}
/-- inBrackets() -/
theorem QM_ib {T : tT} {j : Int} {K K' : List pE} {ws : List tok} {X g : cm_S → Option cm_R} (hK : K.length < 998) (he : ∀ r, rJ tx n r T → X r = cm_bv (cm_sem 290 [.inr (.inl 41), .inl j] r) g) (h2 : QM tx n T g ((1, 40, 0) :: (3, j, asW 0 false false) :: (1, 41, 0) :: K) ws K') : QM tx n T X K ws K' := by
  have q : QM tx n T (fun r => cm_sem 290 [.inr (.inl 41), .inl j] r) K [] ((1, 40, 0) :: (3, j, asW 0 false false) :: (1, 41, 0) :: K) := QM_pl (by omega) (fun r h => by rw [cS_290, cF_290_0] <;> rfl) (QM_pl (by simp only [List.length_cons]; omega) (fun r h => rfl) (QM_pl (by simp only [List.length_cons]; omega) (fun r h => rfl) (QM_nd fun r h => rfl)))
  exact QM_eq he (QM_bv (a := []) q h2)
theorem PT_ib {T : tT} {o1 : Option cm_V} {j : Int} {l : tLb} {ch : tF} {K : List pE} (v : VL tx n T o1 j l ch) {pk c i : Int} (p : pk < 30 ∧ pk ≠ 3) (hr : (K.length : Int) + 1 + tWt (l, ch) + bB pk c i l ch ≤ 1000) (hK : K.length < 998) : PT tx n T o1 ((1, 40, 0) :: (3, nO T j, asW 0 false false) :: (1, 41, 0) :: K) ([([40], false)] ++ (vT tx n l ch false (vBr l 0 false false) ++ [([41], false)])) K := PT_tr (PT_1 (by simp only [List.length_cons]; omega) (by decide)) (PT_tr (VLx v (pk := pk) (c := c) (i := i) (tWn_s p.1 p.2 _ _).symm (by decide) (fun z => by cases z) (by simp only [List.length_cons]; omega)) (PT_1 (by omega) (by decide)))
theorem QM_br' {T : tT} {k : Int} {ch : tF} {K K' : List pE} {ws : List tok} {X g : cm_S → Option cm_R} (k0 : 0 ≤ k) (k1 : k < tSz T) (hch : nCh (nT T k) = ch) (hK : K.length < 998) (he : ∀ r, rJ tx n r T → X r = cm_bv (cm_sem 286 [.inr (.inl 41), .inl (nO T k)] r) g) (h2 : QM tx n T g ((1, 123, 0) :: (5, nNum T (k + 1) ch, 0) :: (1, 125, 0) :: K) ws K') : QM tx n T X K ws K' := QM_eq he (QM_bv (a := []) (QM_br k0 k1 hch hK) h2)
/-- the first part of a FOR's heading -/
def fiT (tx : Int → Int) (n : Int) (l : tLb) (ch : tF) : List tok := if l.1 = 21 then [] else if l.1 = 2 then kTok 1024 :: vaT tx n true false ch else vT tx n l ch true (vBr l 0 true false)
def fiK (T : tT) (k : Int) (l : tLb) (ch : tF) (K : List pE) : List pE := if l.1 = 21 then K else if l.1 = 2 then (2, 24, 0) :: (7, nNum T (k + 1) ch, asW 0 true false) :: K else (3, nO T k, asW 0 true false) :: K
theorem QM_fi {T : tT} {k : Int} {x : Nat} {l : tLb} {u : Unit} {ch re : tF} {K K' : List pE} {ws : List tok} {X g : cm_S → Option cm_R} (hA : fAt T k (.inner x l u ch re)) (k0 : 0 ≤ k) (k1 : k < tSz T) (hK : K.length < 999) (he : ∀ r, rJ tx n r T → X r = cm_bv (cm_sem 292 [.inr (.inl 41), .inl (nO T k)] r) g) (h2 : QM tx n T g (fiK T k l ch K) ws K') : QM tx n T X K ws K' := by
  have q : QM tx n T (fun r => cm_sem 292 [.inr (.inl 41), .inl (nO T k)] r) K [] (fiK T k l ch K) := by
    unfold fiK
    by_cases h21 : l.1 = 21
    · rw [if_pos h21]
      exact QM_nd fun r h => by rw [cS_292, cF_292_0, if_pos (h.no k0 k1), (h.nf hA k0 k1).2.2.1, if_neg (by omega), if_pos (h.no k0 k1), if_pos h21]
    · rw [if_neg h21]
      by_cases h2 : l.1 = 2
      · rw [if_pos h2]
        exact QM_pl (by omega) (fun r h => by
          rw [cS_292, cF_292_0, if_pos (h.no k0 k1), (h.nf hA k0 k1).2.2.1, if_pos h2, if_pos (h.no k0 k1), (h.nf hA k0 k1).2.1] <;> rfl) (QM_pl (by simp only [List.length_cons]; omega) (fun r h => rfl) (QM_nd fun r h => rfl))
      · rw [if_neg h2]
        exact QM_pl (by omega) (fun r h => by
          rw [cS_292, cF_292_0, if_pos (h.no k0 k1), (h.nf hA k0 k1).2.2.1, if_neg h2, if_pos (h.no k0 k1), if_neg h21] <;> rfl) (QM_nd fun r h => rfl)
  exact QM_eq he (QM_bv (a := []) q h2)
theorem PT_fi (ht : tOk tx n) {T : tT} {o1 : Option cm_V} {k : Int} {x : Nat} {l : tLb} {u : Unit} {ch re : tF} {K : List pE} {pk c i : Int} (hA : fAt T k (.inner x l u ch re)) (k0 : 0 ≤ k) (k9 : k + 1 + fSz ch ≤ tSz T) (v : isE l.1 → VL tx n T o1 k l ch) (hS : SVd tx n T o1 (k + 1) ch) (hk : isE l.1 ∨ l.1 = 2 ∨ l.1 = 21) (h1 : gT tx n l) (h2 : gC l.1 (fK ch)) (h4 : gF tx n ch) (p : pk < 30 ∧ pk ≠ 3) (hr : (K.length : Int) + tWt (l, ch) + bB pk c i l ch ≤ 1000) (hK : K.length < 998) : PT tx n T o1 (fiK T k l ch K) (fiT tx n l ch) K := by
  have z0 := fSz_0 ch
  have k1 : k < tSz T := by omega
  unfold fiK fiT
  by_cases h21 : l.1 = 21
  · rw [if_pos h21, if_pos h21]
    exact PT_rf
  · rw [if_neg h21, if_neg h21]
    by_cases e : l.1 = 2
    · rw [if_pos e, if_pos e]
      have A1 := fAt_ch (T := T) k0 k1
      rw [(fAt_in hA).2.1] at A1
      have g2' : fK ch ≠ [] ∧ ∀ x ∈ fK ch, x = 3 := by
        unfold gC at h2
        rw [e] at h2
        exact h2
      have fl := fLn_0 ch
      have wt : tWt (l, ch) = tOw l (fLn ch) + fWt l.1 (lbC l) 0 ch := rfl
      have ow : tOw l (fLn ch) = 2 * fLn ch + 5 := by simp [tOw, e]
      have b0 := bB_0 pk c i l ch
      rw [wt, ow] at hr
      rw [e] at hr
      exact PT_tr (a := [kTok 1024]) (PT_2 (w := 24) (by simp only [List.length_cons]; omega) (by decide)) (PT_7 (c := lbC l) ht true ch (k + 1) 0 K false A1 hS h4 g2'.2 (by omega) k9 (by omega))
    · rw [if_neg e, if_neg e]
      have lE : isE l.1 := hk.elim id (fun z => z.elim (fun y => absurd y e) (fun y => absurd y h21))
      exact VLx (v lE) (pk := pk) (c := c) (i := i) (tWn_s p.1 p.2 _ _).symm (by decide) (fun z => by cases z) hr
/-- its tokens -/
theorem prF_fi {pl : tLb} {bp : Bool} {x : Nat} {l : tLb} {u : Unit} {ch re : tF} (hp : pl.1 = 9 ∨ pl.1 = 10) (hk : isE l.1 ∨ l.1 = 2 ∨ l.1 = 21) (gc : gC l.1 (fK ch)) (gf : gF tx n ch) : prF tx n pl 0 false bp (.inner x l u ch re) = fiT tx n l ch ++ prF tx n pl (0 + 1) false bp re := by
  have hd : hdF pl.1 0 false bp = true := by
    unfold hdF
    rw [if_pos hp]
    rfl
  have a : ahd tx n pl 0 l.1 = [] := by rcases hp with e | e <;> simp [ahd, ahH, e]
  unfold fiT
  by_cases h21 : l.1 = 21
  · rw [prF_in, bd_21 h21 (by omega) gc, a, if_pos h21]
    rfl
  · rw [if_neg h21]
    by_cases e : l.1 = 2
    · have g2' : fK ch ≠ [] ∧ ∀ x ∈ fK ch, x = 3 := by
        unfold gC at gc
        rw [e] at gc
        exact gc
      obtain ⟨n1, n2⟩ := nbr (pl := pl) (r := 0) (l := l) (ch := ch) (hd := true) (Or.inl (by omega)) (by omega)
      rw [prF_in, a, hd, n1, n2, if_pos e]
      unfold bdT clo
      have o1 : opn tx n l (fK0 ch) = [kTok 1024] := by simp [opn, opS, e]
      have o2 : clS pl.1 0 l (fLn ch) = [] := by
        rcases hp with q | q <;> simp [clS, e, q]
      rw [if_neg (show ¬ false = true by decide), if_pos (show l.1 < 30 by omega), o1, o2, va_pr e true ch 0 (by decide) g2'.2 gf]
      simp
    · rw [if_neg e, prF_v (ni := true) (fc := false) (w := 0) (hk.elim id (fun z => z.elim (fun y => absurd y e) (fun y => absurd y h21))) (by omega) (tWn_s (by omega) (by omega) _ _).symm (nofc (by omega) (by omega)) (Or.inl hd) gc gf, a]
      rfl
/-- what may be left out of a FOR's heading -/
def opT (tx : Int → Int) (n : Int) (l : tLb) (ch : tF) : List tok := if l.1 = 21 then [] else vT tx n l ch false (vBr l 0 false false)
def opK (T : tT) (k : Int) (l : tLb) (K : List pE) : List pE := if l.1 = 21 then K else (3, nO T k, asW 0 false false) :: K
theorem opK_len (T : tT) (k : Int) (l : tLb) (K : List pE) : K.length ≤ (opK T k l K).length ∧ (opK T k l K).length ≤ K.length + 1 := by
  unfold opK
  split
  · omega
  · rw [List.length_cons]; omega
theorem fiK_len (T : tT) (k : Int) (l : tLb) (ch : tF) (K : List pE) : K.length ≤ (fiK T k l ch K).length ∧ (fiK T k l ch K).length ≤ K.length + 2 := by
  unfold fiK
  split
  · omega
  · split <;> simp only [List.length_cons] <;> omega
theorem QM_op {T : tT} {k : Int} {l : tLb} {K K' : List pE} {ws : List tok} {X g : cm_S → Option cm_R} (hK : K.length < 1000) (he : ∀ r, rJ tx n r T → X r = if l.1 = 21 then g r else cm_bv (cm_sem 271 [.inr (.inl 41), .inl 3, .inl (nO T k), .inl 0] r) g) (h2 : QM tx n T g (opK T k l K) ws K') : QM tx n T X K ws K' := by
  unfold opK at h2
  by_cases h21 : l.1 = 21
  · rw [if_pos h21] at h2
    exact QM_eq (fun r h => by rw [he r h, if_pos h21]) h2
  · rw [if_neg h21] at h2
    exact QM_pl hK (fun r h => by rw [he r h, if_neg h21] <;> rfl) h2
theorem PT_op {T : tT} {o1 : Option cm_V} {k : Int} {l : tLb} {ch : tF} {K : List pE} {pk c i : Int} (v : isE l.1 → VL tx n T o1 k l ch) (hk : isE l.1 ∨ l.1 = 21) (p : pk < 30 ∧ pk ≠ 3) (hr : (K.length : Int) + tWt (l, ch) + bB pk c i l ch ≤ 1000) : PT tx n T o1 (opK T k l K) (opT tx n l ch) K := by
  unfold opK opT
  by_cases h21 : l.1 = 21
  · rw [if_pos h21, if_pos h21]
    exact PT_rf
  · rw [if_neg h21, if_neg h21]
    exact VLx (v (hk.resolve_right h21)) (pk := pk) (c := c) (i := i) (tWn_s p.1 p.2 _ _).symm (by decide) (fun z => by cases z) hr
theorem prF_op {pl : tLb} {r : Int} {bp : Bool} {x : Nat} {l : tLb} {u : Unit} {ch re : tF} (hk : isE l.1 ∨ l.1 = 21) (p5 : pl.1 < 30 ∧ pl.1 ≠ 5 ∧ pl.1 ≠ 3) (hp : ¬ ((pl.1 = 9 ∨ pl.1 = 10) ∧ r = 0)) (gc : gC l.1 (fK ch)) (gf : gF tx n ch) : prF tx n pl r false bp (.inner x l u ch re) = ahd tx n pl r l.1 ++ (opT tx n l ch ++ prF tx n pl (r + 1) false bp re) := by
  unfold opT
  by_cases h21 : l.1 = 21
  · rw [prF_in, bd_21 h21 p5.2.1 gc, if_pos h21]
  · rw [if_neg h21, prF_e (hk.resolve_right h21) p5 hp gc gf]
theorem isS_30 {k : Int} (h : isS k) : k < 30 := by unfold isS at h; omega
theorem AL_5 (ht : tOk tx n) {T : tT} {o1 : Option cm_V} {k : Int} {l : tLb} {ch : tF} (k0 : 0 ≤ k) (k1 : k < tSz T) (hl : nLb (nT T k) = l) (hch : nCh (nT T k) = ch) (hS : SVd tx n T o1 (k + 1) ch) (g1 : gT tx n l) (g2 : gC l.1 (fK ch)) (g3 : gW l ch) (g4 : gF tx n ch) (k9 : k + 1 + fSz ch ≤ tSz T) (e : l.1 = 5) : AL tx n T o1 k l ch := by
  have g2' : ∃ a, fK ch = [a] ∧ isE a := by
    unfold gC at g2
    rw [e] at g2
    exact g2
  obtain ⟨a, em, ia⟩ := g2'
  obtain ⟨x1, l1, u1, c1, r1, rfl, q1, em1⟩ := fK_cons em
  have := fK_nil em1
  subst this
  obtain ⟨v1, w1, T1, S1⟩ := hS
  obtain ⟨h11, h12, h13, h14, h15⟩ := g4
  have A1 := fAt_ch (T := T) k0 k1
  rw [hch] at A1
  have z1 := fSz_0 c1
  simp only [fSz_in, fSz_lf] at k9
  have tw1 := tWt_0 h11 h12 h14
  have bb1 := bB_0 l.1 (lbC l) (0) l1 c1
  intro K hr
  have wt : tWt (l, .inner x1 l1 u1 c1 .leaf) = tOw l (fLn (.inner x1 l1 u1 c1 .leaf)) + (tWt (l1, c1) + bB l.1 (lbC l) (0) l1 c1 + 0) := rfl
  rw [wt] at hr
  have ow : tOw l (fLn (.inner x1 l1 u1 c1 .leaf)) = 1 := by simp [tOw, e]
  rw [ow] at hr
  have kd : ∀ r, rJ tx n r T → r.2 47 (nO T k) = l.1 := fun r h => by rw [h.kd k0 k1, hl]
  rw [← q1] at ia
  have sw : l1.1 = 34 → (lbW l1 = true ↔ lbP l1 ≠ lbP l) := fun z => g3 e z
  have sl1 := slF_01 l1 c1
  have tws := tWs ht ia h11 h12 h14
  have b1f : br1 l 0 l1 c1 false = false := by
    unfold br1
    rw [decide_eq_false]
    have := tB_0 l1
    rw [tWn_s (by omega) (by omega)]
    rintro (z | z | z | z)
    · omega
    · omega
    · omega
    · exact absurd z.1 (by decide)
  have sbe : sbF l (tCo l1 c1 .leaf) = sbN l1 c1 := by
    show (if br1 l 0 l1 c1 false = true then false else if l1.1 = 37 ∨ l1.1 = 39 then true else if isSb l1.1 then sbF l1 c1 else false) = _
    rw [b1f, if_neg (by decide)]
    rfl
  generalize hfc : (decide (sbN l1 c1 = true ∨ l1.1 = 34 ∧ lbP l1 ≠ lbP l)) = fc
  have eb : brF l 0 l1 c1 false = fc := by
    unfold brF
    rw [b1f, Bool.false_or, ← hfc, sbe]
    congr 1
    apply propext
    constructor
    · exact fun z => z.2
    · exact fun z => ⟨e, z⟩
  have vb : vBr l1 0 false fc = fc := by
    unfold vBr
    have := tB_0 l1
    rw [decide_eq_false (by omega)]
    cases fc <;> rfl
  have slc : fc = true → 1 ≤ slF l1 c1 := fun z => by
    rw [← hfc, decide_eq_true_iff] at z
    rcases z with z | z
    · unfold slF
      rw [if_pos z]
      split
      · decide
      · split <;> decide
    · unfold slF
      rw [if_neg (by omega), if_pos (by omega)]
      decide
  refine A_of (a := []) (b := vT tx n l1 c1 false fc ++ [([59], false)]) (K1 := (3, nO T (k + 1), asW 0 false fc) :: (1, 59, 0) :: K) (by omega) (QM_pl (by omega) (fun r h => by
    rw [cS_285, cF_285_0, if_pos (h.no k0 k1), if_pos (h.no k0 k1), h.kd k0 k1, hl, if_neg (by omega), if_neg (by omega), if_neg (by omega), if_pos e, h.f5 hch k0 k1]) (QM_pl (a := 3) (b := nO T (k + 1)) (c := asW 0 false fc) (g := fun s => some (.inl none, s)) (by simp only [List.length_cons]; omega) (fun r h => ?_) (QM_nd fun r h => rfl))) ?_ ?_
  · have o := h.no (i := k + 1) (by omega) (by omega)
    obtain ⟨z, ez, hz⟩ := r_287 ht h (i := k + 1) (by omega) (by omega) e
    rw [(fAt_in A1).1, (fAt_in A1).2.1, sbe] at hz
    have wr := h.wr (i := k + 1) (by omega) (by omega)
    rw [(fAt_in A1).1] at wr
    rw [ez, cm_bi_i]
    rcases hz with ⟨rfl, hz⟩ | ⟨rfl, hz⟩
    · rw [if_pos rfl, if_pos o, (h.nf A1 (by omega) (by omega)).2.2.1]
      by_cases h34 : l1.1 = 34
      · rw [if_pos h34, if_pos o, wr]
        have w34 := sw h34
        cases hw : lbW l1 with
        | true =>
          rw [hw] at w34
          have : fc = true := by
            rw [← hfc]
            exact decide_eq_true (Or.inr ⟨h34, w34.mp rfl⟩)
          rw [this, if_neg (by decide)]
          rfl
        | false =>
          rw [hw] at w34
          have : fc = false := by
            rw [← hfc]
            refine decide_eq_false ?_
            rintro (y | y)
            · exact hz y
            · exact absurd (w34.mpr y.2) (by decide)
          rw [this, if_pos (by decide)]
          rfl
      · rw [if_neg h34]
        have : fc = false := by
          rw [← hfc]
          refine decide_eq_false ?_
          rintro (y | y)
          · exact hz y
          · exact h34 y.1
        rw [this]
        rfl
    · have : fc = true := by
        rw [← hfc]
        exact decide_eq_true (Or.inl hz)
      rw [if_neg (by decide), this]
      rfl
  · have v := v1 ia ((1, 59, 0) :: K) 0 false fc (by decide) (by decide) (by
      rw [vb]
      simp only [List.length_cons]
      cases fc with
      | true =>
        have := slc rfl
        rw [if_pos rfl]
        omega
      | false =>
        rw [if_neg (by decide)]
        omega)
    rw [vb] at v
    exact PT_tr v (PT_1 (by omega) (by decide))
  · unfold acB
    have hd : hdF l.1 0 false false = false := by simp [hdF, e]
    rw [prF_in, hd, b1f, eb]
    have o1 : opn tx n l (fK0 (.inner x1 l1 u1 c1 .leaf)) = [] := by simp [opn, opS, opH, e]
    have o3 : ahd tx n l 0 l1.1 = [] := by simp [ahd, ahH, e]
    have o2 : clS 0 0 l (fLn (.inner x1 l1 u1 c1 .leaf)) = [([59], false)] := by simp [clS, e, k1013]
    rw [o1, o2, o3]
    unfold bdT vT clo
    rw [if_neg (show ¬ l1.1 < 30 by unfold isE at ia; omega)]
    simp [prF]
theorem AL_8 (ht : tOk tx n) {T : tT} {o1 : Option cm_V} {k : Int} {l : tLb} {ch : tF} (k0 : 0 ≤ k) (k1 : k < tSz T) (hl : nLb (nT T k) = l) (hch : nCh (nT T k) = ch) (hS : SVd tx n T o1 (k + 1) ch) (g1 : gT tx n l) (g2 : gC l.1 (fK ch)) (g3 : gW l ch) (g4 : gF tx n ch) (k9 : k + 1 + fSz ch ≤ tSz T) (e : l.1 = 8) : AL tx n T o1 k l ch := by
  have g2' : ∃ a b, fK ch = [a, b] ∧ isE a ∧ isS b := by
    unfold gC at g2
    rw [e] at g2
    exact g2
  obtain ⟨a, b, em, ia, ib⟩ := g2'
  obtain ⟨x1, l1, u1, c1, r1, rfl, q1, em1⟩ := fK_cons em
  obtain ⟨x2, l2, u2, c2, r2, rfl, q2, em2⟩ := fK_cons em1
  have := fK_nil em2
  subst this
  obtain ⟨v1, w1, T1, S1⟩ := hS
  obtain ⟨h11, h12, h13, h14, h15⟩ := g4
  obtain ⟨v2, w2, T2, S2⟩ := S1
  obtain ⟨h21, h22, h23, h24, h25⟩ := h15
  have A1 := fAt_ch (T := T) k0 k1
  rw [hch] at A1
  have z1 := fSz_0 c1
  have z2 := fSz_0 c2
  simp only [fSz_in, fSz_lf] at k9
  have A2 := fAt_nx A1 (by omega) (by omega)
  have tw1 := tWt_0 h11 h12 h14
  have bb1 := bB_0 l.1 (lbC l) (0) l1 c1
  have tw2 := tWt_0 h21 h22 h24
  have bb2 := bB_0 l.1 (lbC l) (0 + 1) l2 c2
  intro K hr
  have wt : tWt (l, .inner x1 l1 u1 c1 (.inner x2 l2 u2 c2 .leaf)) = tOw l (fLn (.inner x1 l1 u1 c1 (.inner x2 l2 u2 c2 .leaf))) + (tWt (l1, c1) + bB l.1 (lbC l) (0) l1 c1 + (tWt (l2, c2) + bB l.1 (lbC l) (0 + 1) l2 c2 + 0)) := rfl
  rw [wt] at hr
  have ow : tOw l (fLn (.inner x1 l1 u1 c1 (.inner x2 l2 u2 c2 .leaf))) = 12 := by simp [tOw, e]
  rw [ow] at hr
  have kd : ∀ r, rJ tx n r T → r.2 47 (nO T k) = l.1 := fun r h => by rw [h.kd k0 k1, hl]
  rw [← q1] at ia
  rw [← q2] at ib
  refine A_of (a := [(wdS.getD 26 [], false)]) (b := ([([40], false)] ++ (vT tx n l1 c1 false (vBr l1 0 false false) ++ [([41], false)])) ++ acB tx n l2 c2) (by omega) (QM_eq (fun r h => r_285 h k0 k1 hl (by omega) (h.f5 hch k0 k1)) (QM_tl (QM_wo (w := 26) (by decide) (fun r h => by
    rw [cS_289, cF_289_0, if_pos (h.no (by omega) (by omega)), if_pos (h.no k0 k1), kd r h, if_neg (by omega), if_neg (by omega), if_pos e, h.n5 A1 (by omega) (by omega)] <;> rfl) (QM_pl (by omega) (fun r h => rfl) (QM_ib (by simp only [List.length_cons]; omega) (fun r h => rfl) (QM_nd fun r h => rfl)))))) (PT_tr (PT_ib (v1 ia) (pk := l.1) (c := lbC l) (i := 0) (by omega) (by simp only [List.length_cons]; omega) (by simp only [List.length_cons]; omega)) (w2 (Or.inl ib) K (by omega))) ?_
  unfold acB
  rw [prF_e ia (by omega) (by omega) h12 h14, prF_s (isS_30 ib) (by omega) (by omega)]
  have o1 : opn tx n l (fK0 (.inner x1 l1 u1 c1 (.inner x2 l2 u2 c2 .leaf))) = [(wdS.getD 26 [], false), ([40], false)] := by simp [opn, opS, opH, e]; decide
  have o3 : ahd tx n l 0 l1.1 = [] := by simp [ahd, ahH, e]
  have o4 : ahd tx n l (0 + 1) l2.1 = [([41], false)] := by simp [ahd, ahH, e, k1010]
  have o2 : clS 0 0 l (fLn (.inner x1 l1 u1 c1 (.inner x2 l2 u2 c2 .leaf))) = [] := by simp [clS, e]
  rw [o1, o2, o3, o4]
  simp [prF, acB]
theorem AL_7 (ht : tOk tx n) {T : tT} {o1 : Option cm_V} {k : Int} {l : tLb} {ch : tF} (k0 : 0 ≤ k) (k1 : k < tSz T) (hl : nLb (nT T k) = l) (hch : nCh (nT T k) = ch) (hS : SVd tx n T o1 (k + 1) ch) (g1 : gT tx n l) (g2 : gC l.1 (fK ch)) (g3 : gW l ch) (g4 : gF tx n ch) (k9 : k + 1 + fSz ch ≤ tSz T) (e : l.1 = 7) : AL tx n T o1 k l ch := by
  have g2' : ∃ a b, fK ch = [a, b] ∧ isS a ∧ isE b := by
    unfold gC at g2
    rw [e] at g2
    exact g2
  obtain ⟨a, b, em, ia, ib⟩ := g2'
  obtain ⟨x1, l1, u1, c1, r1, rfl, q1, em1⟩ := fK_cons em
  obtain ⟨x2, l2, u2, c2, r2, rfl, q2, em2⟩ := fK_cons em1
  have := fK_nil em2
  subst this
  obtain ⟨v1, w1, T1, S1⟩ := hS
  obtain ⟨h11, h12, h13, h14, h15⟩ := g4
  obtain ⟨v2, w2, T2, S2⟩ := S1
  obtain ⟨h21, h22, h23, h24, h25⟩ := h15
  have A1 := fAt_ch (T := T) k0 k1
  rw [hch] at A1
  have z1 := fSz_0 c1
  have z2 := fSz_0 c2
  simp only [fSz_in, fSz_lf] at k9
  have A2 := fAt_nx A1 (by omega) (by omega)
  have tw1 := tWt_0 h11 h12 h14
  have bb1 := bB_0 l.1 (lbC l) (0) l1 c1
  have tw2 := tWt_0 h21 h22 h24
  have bb2 := bB_0 l.1 (lbC l) (0 + 1) l2 c2
  intro K hr
  have wt : tWt (l, .inner x1 l1 u1 c1 (.inner x2 l2 u2 c2 .leaf)) = tOw l (fLn (.inner x1 l1 u1 c1 (.inner x2 l2 u2 c2 .leaf))) + (tWt (l1, c1) + bB l.1 (lbC l) (0) l1 c1 + (tWt (l2, c2) + bB l.1 (lbC l) (0 + 1) l2 c2 + 0)) := rfl
  rw [wt] at hr
  have ow : tOw l (fLn (.inner x1 l1 u1 c1 (.inner x2 l2 u2 c2 .leaf))) = 17 := by simp [tOw, e]
  rw [ow] at hr
  have kd : ∀ r, rJ tx n r T → r.2 47 (nO T k) = l.1 := fun r h => by rw [h.kd k0 k1, hl]
  rw [← q1] at ia
  rw [← q2] at ib
  refine A_of (a := [(wdS.getD 6 [], false)]) (b := acB tx n l1 c1 ++ ([(wdS.getD 26 [], false)] ++ (([([40], false)] ++ (vT tx n l2 c2 false (vBr l2 0 false false) ++ [([41], false)])) ++ [([59], false)]))) (by omega) (QM_eq (fun r h => r_285 h k0 k1 hl (by omega) (h.f5 hch k0 k1)) (QM_tl (QM_wo (w := 6) (by decide) (fun r h => by
    rw [cS_289, cF_289_0, if_pos (h.no (by omega) (by omega)), if_pos (h.no k0 k1), kd r h, if_neg (by omega), if_pos e, h.n5 A1 (by omega) (by omega)] <;> rfl) (QM_pl (by omega) (fun r h => rfl) (QM_ib (by simp only [List.length_cons]; omega) (fun r h => rfl) (QM_pl (by simp only [List.length_cons]; omega) (fun r h => rfl) (QM_pl (by simp only [List.length_cons]; omega) (fun r h => rfl) (QM_nd fun r h => rfl)))))))) (PT_tr (w1 (Or.inl ia) _ (by simp only [List.length_cons]; omega)) (PT_tr (PT_2 (w := 26) (by simp only [List.length_cons]; omega) (by decide)) (PT_tr (PT_ib (v2 ib) (pk := l.1) (c := lbC l) (i := 0 + 1) (by omega) (by simp only [List.length_cons]; omega) (by simp only [List.length_cons]; omega)) (PT_1 (by omega) (by decide))))) ?_
  unfold acB
  rw [prF_s (isS_30 ia) (by omega) (by omega), prF_e ib (by omega) (by omega) h22 h24]
  have o1 : opn tx n l (fK0 (.inner x1 l1 u1 c1 (.inner x2 l2 u2 c2 .leaf))) = [(wdS.getD 6 [], false)] := by simp [opn, opS, opH, e]; rfl
  have o3 : ahd tx n l 0 l1.1 = [] := by simp [ahd, ahH, e]
  have o4 : ahd tx n l (0 + 1) l2.1 = [(wdS.getD 26 [], false), ([40], false)] := by simp [ahd, ahH, e]; decide
  have o2 : clS 0 0 l (fLn (.inner x1 l1 u1 c1 (.inner x2 l2 u2 c2 .leaf))) = [([41], false), ([59], false)] := by simp [clS, e, k1010, k1013]
  rw [o1, o2, o3, o4]
  simp [prF, acB]
theorem AL_6 (ht : tOk tx n) {T : tT} {o1 : Option cm_V} {k : Int} {l : tLb} {ch : tF} (k0 : 0 ≤ k) (k1 : k < tSz T) (hl : nLb (nT T k) = l) (hch : nCh (nT T k) = ch) (hS : SVd tx n T o1 (k + 1) ch) (g1 : gT tx n l) (g2 : gC l.1 (fK ch)) (g3 : gW l ch) (g4 : gF tx n ch) (k9 : k + 1 + fSz ch ≤ tSz T) (e : l.1 = 6) : AL tx n T o1 k l ch := by
  have g2' : ∃ a b, isE a ∧ isS b ∧ (fK ch = [a, b] ∨ ∃ c, fK ch = [a, b, c] ∧ isS c) := by
    unfold gC at g2
    rw [e] at g2
    exact g2
  obtain ⟨a, b, ia, ib, em | ⟨c, em, ic⟩⟩ := g2'
  · obtain ⟨x1, l1, u1, c1, r1, rfl, q1, em1⟩ := fK_cons em
    obtain ⟨x2, l2, u2, c2, r2, rfl, q2, em2⟩ := fK_cons em1
    have := fK_nil em2
    subst this
    obtain ⟨v1, w1, T1, S1⟩ := hS
    obtain ⟨h11, h12, h13, h14, h15⟩ := g4
    obtain ⟨v2, w2, T2, S2⟩ := S1
    obtain ⟨h21, h22, h23, h24, h25⟩ := h15
    have A1 := fAt_ch (T := T) k0 k1
    rw [hch] at A1
    have z1 := fSz_0 c1
    have z2 := fSz_0 c2
    simp only [fSz_in, fSz_lf] at k9
    have A2 := fAt_nx A1 (by omega) (by omega)
    have tw1 := tWt_0 h11 h12 h14
    have bb1 := bB_0 l.1 (lbC l) (0) l1 c1
    have tw2 := tWt_0 h21 h22 h24
    have bb2 := bB_0 l.1 (lbC l) (0 + 1) l2 c2
    intro K hr
    have wt : tWt (l, .inner x1 l1 u1 c1 (.inner x2 l2 u2 c2 .leaf)) = tOw l (fLn (.inner x1 l1 u1 c1 (.inner x2 l2 u2 c2 .leaf))) + (tWt (l1, c1) + bB l.1 (lbC l) (0) l1 c1 + (tWt (l2, c2) + bB l.1 (lbC l) (0 + 1) l2 c2 + 0)) := rfl
    rw [wt] at hr
    have ow : tOw l (fLn (.inner x1 l1 u1 c1 (.inner x2 l2 u2 c2 .leaf))) = 6 := by simp [tOw, e, fLn]
    rw [ow] at hr
    have kd : ∀ r, rJ tx n r T → r.2 47 (nO T k) = l.1 := fun r h => by rw [h.kd k0 k1, hl]
    rw [← q1] at ia
    rw [← q2] at ib
    refine A_of (a := [(wdS.getD 12 [], false)]) (b := ([([40], false)] ++ (vT tx n l1 c1 false (vBr l1 0 false false) ++ [([41], false)])) ++ acB tx n l2 c2) (by omega) (QM_eq (fun r h => r_285 h k0 k1 hl (by omega) (h.f5 hch k0 k1)) (QM_tl (QM_wo (w := 12) (by decide) (fun r h => by
      rw [cS_289, cF_289_0, if_pos (h.no (by omega) (by omega)), if_pos (h.no k0 k1), kd r h, if_pos e, h.n5 A1 (by omega) (by omega)] <;> rfl) (QM_pl (by omega) (fun r h => by
      rw [if_pos (h.no k0 k1), h.mn k0 k1, hch, if_neg (show ¬ fLn (.inner x1 l1 u1 c1 (.inner x2 l2 u2 c2 .leaf)) = 3 from (by decide : ¬ ((1 : Int) + (1 + 0)) = 3))] <;> rfl) (QM_ib (by simp only [List.length_cons]; omega) (fun r h => rfl) (QM_nd fun r h => rfl)))))) (PT_tr (PT_ib (v1 ia) (pk := l.1) (c := lbC l) (i := 0) (by omega) (by simp only [List.length_cons]; omega) (by simp only [List.length_cons]; omega)) (w2 (Or.inl ib) K (by omega))) ?_
    unfold acB
    rw [prF_e ia (by omega) (by omega) h12 h14, prF_s (isS_30 ib) (by omega) (by omega)]
    have o1 : opn tx n l (fK0 (.inner x1 l1 u1 c1 (.inner x2 l2 u2 c2 .leaf))) = [(wdS.getD 12 [], false), ([40], false)] := by simp [opn, opS, opH, e]; decide
    have o3 : ahd tx n l 0 l1.1 = [] := by simp [ahd, ahH, e]
    have o4 : ahd tx n l (0 + 1) l2.1 = [([41], false)] := by simp [ahd, ahH, e, k1010]
    have o2 : clS 0 0 l (fLn (.inner x1 l1 u1 c1 (.inner x2 l2 u2 c2 .leaf))) = [] := by simp [clS, e]
    rw [o1, o2, o3, o4]
    simp [prF, acB]
  · obtain ⟨x1, l1, u1, c1, r1, rfl, q1, em1⟩ := fK_cons em
    obtain ⟨x2, l2, u2, c2, r2, rfl, q2, em2⟩ := fK_cons em1
    obtain ⟨x3, l3, u3, c3, r3, rfl, q3, em3⟩ := fK_cons em2
    have := fK_nil em3
    subst this
    obtain ⟨v1, w1, T1, S1⟩ := hS
    obtain ⟨h11, h12, h13, h14, h15⟩ := g4
    obtain ⟨v2, w2, T2, S2⟩ := S1
    obtain ⟨h21, h22, h23, h24, h25⟩ := h15
    obtain ⟨v3, w3, T3, S3⟩ := S2
    obtain ⟨h31, h32, h33, h34, h35⟩ := h25
    have A1 := fAt_ch (T := T) k0 k1
    rw [hch] at A1
    have z1 := fSz_0 c1
    have z2 := fSz_0 c2
    have z3 := fSz_0 c3
    simp only [fSz_in, fSz_lf] at k9
    have A2 := fAt_nx A1 (by omega) (by omega)
    have A3 := fAt_nx A2 (by omega) (by omega)
    have tw1 := tWt_0 h11 h12 h14
    have bb1 := bB_0 l.1 (lbC l) (0) l1 c1
    have tw2 := tWt_0 h21 h22 h24
    have bb2 := bB_0 l.1 (lbC l) (0 + 1) l2 c2
    have tw3 := tWt_0 h31 h32 h34
    have bb3 := bB_0 l.1 (lbC l) (0 + 1 + 1) l3 c3
    intro K hr
    have wt : tWt (l, .inner x1 l1 u1 c1 (.inner x2 l2 u2 c2 (.inner x3 l3 u3 c3 .leaf))) = tOw l (fLn (.inner x1 l1 u1 c1 (.inner x2 l2 u2 c2 (.inner x3 l3 u3 c3 .leaf)))) + (tWt (l1, c1) + bB l.1 (lbC l) (0) l1 c1 + (tWt (l2, c2) + bB l.1 (lbC l) (0 + 1) l2 c2 + (tWt (l3, c3) + bB l.1 (lbC l) (0 + 1 + 1) l3 c3 + 0))) := rfl
    rw [wt] at hr
    have ow : tOw l (fLn (.inner x1 l1 u1 c1 (.inner x2 l2 u2 c2 (.inner x3 l3 u3 c3 .leaf)))) = 14 := by simp [tOw, e, fLn]
    rw [ow] at hr
    have kd : ∀ r, rJ tx n r T → r.2 47 (nO T k) = l.1 := fun r h => by rw [h.kd k0 k1, hl]
    rw [← q1] at ia
    rw [← q2] at ib
    rw [← q3] at ic
    refine A_of (a := [(wdS.getD 12 [], false)]) (b := ([([40], false)] ++ (vT tx n l1 c1 false (vBr l1 0 false false) ++ [([41], false)])) ++ (acB tx n l2 c2 ++ ([(wdS.getD 7 [], false)] ++ acB tx n l3 c3))) (by omega) (QM_eq (fun r h => r_285 h k0 k1 hl (by omega) (h.f5 hch k0 k1)) (QM_tl (QM_wo (w := 12) (by decide) (fun r h => by
      rw [cS_289, cF_289_0, if_pos (h.no (by omega) (by omega)), if_pos (h.no k0 k1), kd r h, if_pos e, h.n5 A1 (by omega) (by omega)] <;> rfl) (QM_pl (by omega) (fun r h => by
      rw [if_pos (h.no k0 k1), h.mn k0 k1, hch, if_pos (show fLn (.inner x1 l1 u1 c1 (.inner x2 l2 u2 c2 (.inner x3 l3 u3 c3 .leaf))) = 3 by rfl), if_pos (h.no (by omega) (by omega)), h.n5 A2 (by omega) (by omega)] <;> rfl) (QM_pl (by simp only [List.length_cons]; omega) (fun r h => rfl) (QM_pl (by simp only [List.length_cons]; omega) (fun r h => rfl) (QM_ib (by simp only [List.length_cons]; omega) (fun r h => rfl) (QM_nd fun r h => rfl)))))))) (PT_tr (PT_ib (v1 ia) (pk := l.1) (c := lbC l) (i := 0) (by omega) (by simp only [List.length_cons]; omega) (by simp only [List.length_cons]; omega)) (PT_tr (w2 (Or.inl ib) _ (by simp only [List.length_cons]; omega)) (PT_tr (PT_2 (w := 7) (by simp only [List.length_cons]; omega) (by decide)) (w3 (Or.inl ic) K (by omega))))) ?_
    unfold acB
    rw [prF_e ia (by omega) (by omega) h12 h14, prF_s (isS_30 ib) (by omega) (by omega), prF_s (isS_30 ic) (by omega) (by omega)]
    have o1 : opn tx n l (fK0 (.inner x1 l1 u1 c1 (.inner x2 l2 u2 c2 (.inner x3 l3 u3 c3 .leaf)))) = [(wdS.getD 12 [], false), ([40], false)] := by simp [opn, opS, opH, e]; decide
    have o3 : ahd tx n l 0 l1.1 = [] := by simp [ahd, ahH, e]
    have o4 : ahd tx n l (0 + 1) l2.1 = [([41], false)] := by simp [ahd, ahH, e, k1010]
    have o5 : ahd tx n l (0 + 1 + 1) l3.1 = [(wdS.getD 7 [], false)] := by simp [ahd, ahH, e]; rfl
    have o2 : clS 0 0 l (fLn (.inner x1 l1 u1 c1 (.inner x2 l2 u2 c2 (.inner x3 l3 u3 c3 .leaf)))) = [] := by simp [clS, e]
    rw [o1, o2, o3, o4, o5]
    simp [prF, acB]
theorem AL_10 (ht : tOk tx n) {T : tT} {o1 : Option cm_V} {k : Int} {l : tLb} {ch : tF} (k0 : 0 ≤ k) (k1 : k < tSz T) (hl : nLb (nT T k) = l) (hch : nCh (nT T k) = ch) (hS : SVd tx n T o1 (k + 1) ch) (g1 : gT tx n l) (g2 : gC l.1 (fK ch)) (g3 : gW l ch) (g4 : gF tx n ch) (k9 : k + 1 + fSz ch ≤ tSz T) (e : l.1 = 10) : AL tx n T o1 k l ch := by
  have g2' : ∃ a b c, fK ch = [a, b, c] ∧ (isE a ∨ a = 2) ∧ isE b ∧ isS c := by
    unfold gC at g2
    rw [e] at g2
    exact g2
  obtain ⟨a, b, c, em, ia, ib, ic⟩ := g2'
  obtain ⟨x1, l1, u1, c1, r1, rfl, q1, em1⟩ := fK_cons em
  obtain ⟨x2, l2, u2, c2, r2, rfl, q2, em2⟩ := fK_cons em1
  obtain ⟨x3, l3, u3, c3, r3, rfl, q3, em3⟩ := fK_cons em2
  have := fK_nil em3
  subst this
  obtain ⟨v1, w1, T1, S1⟩ := hS
  obtain ⟨h11, h12, h13, h14, h15⟩ := g4
  obtain ⟨v2, w2, T2, S2⟩ := S1
  obtain ⟨h21, h22, h23, h24, h25⟩ := h15
  obtain ⟨v3, w3, T3, S3⟩ := S2
  obtain ⟨h31, h32, h33, h34, h35⟩ := h25
  have A1 := fAt_ch (T := T) k0 k1
  rw [hch] at A1
  have z1 := fSz_0 c1
  have z2 := fSz_0 c2
  have z3 := fSz_0 c3
  simp only [fSz_in, fSz_lf] at k9
  have A2 := fAt_nx A1 (by omega) (by omega)
  have A3 := fAt_nx A2 (by omega) (by omega)
  have tw1 := tWt_0 h11 h12 h14
  have bb1 := bB_0 l.1 (lbC l) (0) l1 c1
  have tw2 := tWt_0 h21 h22 h24
  have bb2 := bB_0 l.1 (lbC l) (0 + 1) l2 c2
  have tw3 := tWt_0 h31 h32 h34
  have bb3 := bB_0 l.1 (lbC l) (0 + 1 + 1) l3 c3
  intro K hr
  have wt : tWt (l, .inner x1 l1 u1 c1 (.inner x2 l2 u2 c2 (.inner x3 l3 u3 c3 .leaf))) = tOw l (fLn (.inner x1 l1 u1 c1 (.inner x2 l2 u2 c2 (.inner x3 l3 u3 c3 .leaf)))) + (tWt (l1, c1) + bB l.1 (lbC l) (0) l1 c1 + (tWt (l2, c2) + bB l.1 (lbC l) (0 + 1) l2 c2 + (tWt (l3, c3) + bB l.1 (lbC l) (0 + 1 + 1) l3 c3 + 0))) := rfl
  rw [wt] at hr
  have ow : tOw l (fLn (.inner x1 l1 u1 c1 (.inner x2 l2 u2 c2 (.inner x3 l3 u3 c3 .leaf)))) = 12 := by simp [tOw, e]
  rw [ow] at hr
  have kd : ∀ r, rJ tx n r T → r.2 47 (nO T k) = l.1 := fun r h => by rw [h.kd k0 k1, hl]
  rw [← q1] at ia
  rw [← q2] at ib
  rw [← q3] at ic
  have ia' : isE l1.1 ∨ l1.1 = 2 ∨ l1.1 = 21 := ia.elim Or.inl (fun z => Or.inr (Or.inl z))
  have fk := fiK_len T (k + 1) l1 c1 ((2, 13, 0) :: (3, nO T (k + 1 + 1 + fSz c1), asW 0 false false) :: (1, 41, 0) :: (4, nO T (k + 1 + 1 + fSz c1 + 1 + fSz c2), 0) :: K)
  have fk' := fiK_len T (k + 1) l1 c1 ((2, 13, 0) :: (3, nO T (k + 1 + 1 + fSz c1), 0) :: (1, 41, 0) :: (4, nO T (k + 1 + 1 + fSz c1 + 1 + fSz c2), 0) :: K)
  simp only [List.length_cons] at fk fk'
  refine A_of (a := [(wdS.getD 10 [], false)]) (b := [([40], false)] ++ (fiT tx n l1 c1 ++ ([(wdS.getD 13 [], false)] ++ (vT tx n l2 c2 false (vBr l2 0 false false) ++ ([([41], false)] ++ acB tx n l3 c3))))) (K1 := (1, 40, 0) :: fiK T (k + 1) l1 c1 ((2, 13, 0) :: (3, nO T (k + 1 + 1 + fSz c1), asW 0 false false) :: (1, 41, 0) :: (4, nO T (k + 1 + 1 + fSz c1 + 1 + fSz c2), 0) :: K)) (by omega) ?_ ?_ ?_
  · refine QM_eq (fun r h => r_285 h k0 k1 hl (by omega) (h.f5 hch k0 k1)) (QM_tl ?_)
    refine QM_wo (w := 10) (by decide) (fun r h => by
      rw [cS_289, cF_289_0, if_pos (h.no (by omega) (by omega)), if_pos (h.no k0 k1), kd r h, if_neg (by omega), if_neg (by omega), if_neg (by omega), if_neg (by omega), if_pos e, h.n5 A1 (by omega) (by omega)] <;> rfl) ?_
    refine QM_pl (by omega) (fun r h => by
      rw [if_pos (h.no (by omega) (by omega)), h.n5 A2 (by omega) (by omega)] <;> rfl) ?_
    refine QM_pl (by simp only [List.length_cons]; omega) (fun r h => rfl) (QM_pl (by simp only [List.length_cons]; omega) (fun r h => rfl) (QM_pl (by simp only [List.length_cons]; omega) (fun r h => rfl) ?_))
    exact QM_fi A1 (by omega) (by omega) (by simp only [List.length_cons]; omega) (fun r h => rfl) (QM_pl (by omega) (fun r h => rfl) (QM_nd fun r h => rfl))
  · refine PT_tr (PT_1 (by omega) (by decide)) (PT_tr (PT_fi ht (pk := l.1) (c := lbC l) (i := 0) A1 (by omega) (by omega) v1 T1 ia' h11 h12 h14 (by omega) (by simp only [List.length_cons]; omega) (by simp only [List.length_cons]; omega)) ?_)
    refine PT_tr (PT_2 (w := 13) (by simp only [List.length_cons]; omega) (by decide)) (PT_tr (VLx (v2 ib) (pk := l.1) (c := lbC l) (i := 0 + 1) (tWn_s (by omega) (by omega) _ _).symm (by decide) (fun z => by cases z) (by simp only [List.length_cons]; omega)) ?_)
    exact PT_tr (PT_1 (by simp only [List.length_cons]; omega) (by decide)) (w3 (Or.inl ic) K (by omega))
  unfold acB
  rw [prF_fi (Or.inr e) ia' h12 h14, prF_e ib (by omega) (by omega) h22 h24, prF_s (isS_30 ic) (by omega) (by omega)]
  have o1 : opn tx n l (fK0 (.inner x1 l1 u1 c1 (.inner x2 l2 u2 c2 (.inner x3 l3 u3 c3 .leaf)))) = [(wdS.getD 10 [], false), ([40], false)] := by simp [opn, opS, opH, e]; decide
  have o4 : ahd tx n l (0 + 1) l2.1 = [(wdS.getD 13 [], false)] := by simp [ahd, ahH, e]; rfl
  have o5 : ahd tx n l (0 + 1 + 1) l3.1 = [([41], false)] := by simp [ahd, ahH, e, k1010]
  have o2 : clS 0 0 l (fLn (.inner x1 l1 u1 c1 (.inner x2 l2 u2 c2 (.inner x3 l3 u3 c3 .leaf)))) = [] := by simp [clS, e]
  rw [o1, o2, o4, o5]
  simp [prF, acB]
theorem AL_9 (ht : tOk tx n) {T : tT} {o1 : Option cm_V} {k : Int} {l : tLb} {ch : tF} (k0 : 0 ≤ k) (k1 : k < tSz T) (hl : nLb (nT T k) = l) (hch : nCh (nT T k) = ch) (hS : SVd tx n T o1 (k + 1) ch) (g1 : gT tx n l) (g2 : gC l.1 (fK ch)) (g3 : gW l ch) (g4 : gF tx n ch) (k9 : k + 1 + fSz ch ≤ tSz T) (e : l.1 = 9) : AL tx n T o1 k l ch := by
  have g2' : ∃ a b c d, fK ch = [a, b, c, d] ∧ (isE a ∨ a = 2 ∨ a = 21) ∧ (isE b ∨ b = 21) ∧ (isE c ∨ c = 21) ∧ isS d := by
    unfold gC at g2
    rw [e] at g2
    exact g2
  obtain ⟨a, b, c, d, em, ia, ib, ic, id⟩ := g2'
  obtain ⟨x1, l1, u1, c1, r1, rfl, q1, em1⟩ := fK_cons em
  obtain ⟨x2, l2, u2, c2, r2, rfl, q2, em2⟩ := fK_cons em1
  obtain ⟨x3, l3, u3, c3, r3, rfl, q3, em3⟩ := fK_cons em2
  obtain ⟨x4, l4, u4, c4, r4, rfl, q4, em4⟩ := fK_cons em3
  have := fK_nil em4
  subst this
  obtain ⟨v1, w1, T1, S1⟩ := hS
  obtain ⟨h11, h12, h13, h14, h15⟩ := g4
  obtain ⟨v2, w2, T2, S2⟩ := S1
  obtain ⟨h21, h22, h23, h24, h25⟩ := h15
  obtain ⟨v3, w3, T3, S3⟩ := S2
  obtain ⟨h31, h32, h33, h34, h35⟩ := h25
  obtain ⟨v4, w4, T4, S4⟩ := S3
  obtain ⟨h41, h42, h43, h44, h45⟩ := h35
  have A1 := fAt_ch (T := T) k0 k1
  rw [hch] at A1
  have z1 := fSz_0 c1
  have z2 := fSz_0 c2
  have z3 := fSz_0 c3
  have z4 := fSz_0 c4
  simp only [fSz_in, fSz_lf] at k9
  have A2 := fAt_nx A1 (by omega) (by omega)
  have A3 := fAt_nx A2 (by omega) (by omega)
  have A4 := fAt_nx A3 (by omega) (by omega)
  have tw1 := tWt_0 h11 h12 h14
  have bb1 := bB_0 l.1 (lbC l) (0) l1 c1
  have tw2 := tWt_0 h21 h22 h24
  have bb2 := bB_0 l.1 (lbC l) (0 + 1) l2 c2
  have tw3 := tWt_0 h31 h32 h34
  have bb3 := bB_0 l.1 (lbC l) (0 + 1 + 1) l3 c3
  have tw4 := tWt_0 h41 h42 h44
  have bb4 := bB_0 l.1 (lbC l) (0 + 1 + 1 + 1) l4 c4
  intro K hr
  have wt : tWt (l, .inner x1 l1 u1 c1 (.inner x2 l2 u2 c2 (.inner x3 l3 u3 c3 (.inner x4 l4 u4 c4 .leaf)))) = tOw l (fLn (.inner x1 l1 u1 c1 (.inner x2 l2 u2 c2 (.inner x3 l3 u3 c3 (.inner x4 l4 u4 c4 .leaf))))) + (tWt (l1, c1) + bB l.1 (lbC l) (0) l1 c1 + (tWt (l2, c2) + bB l.1 (lbC l) (0 + 1) l2 c2 + (tWt (l3, c3) + bB l.1 (lbC l) (0 + 1 + 1) l3 c3 + (tWt (l4, c4) + bB l.1 (lbC l) (0 + 1 + 1 + 1) l4 c4 + 0)))) := rfl
  rw [wt] at hr
  have ow : tOw l (fLn (.inner x1 l1 u1 c1 (.inner x2 l2 u2 c2 (.inner x3 l3 u3 c3 (.inner x4 l4 u4 c4 .leaf))))) = 10 := by simp [tOw, e]
  rw [ow] at hr
  have kd : ∀ r, rJ tx n r T → r.2 47 (nO T k) = l.1 := fun r h => by rw [h.kd k0 k1, hl]
  rw [← q1] at ia
  rw [← q2] at ib
  rw [← q3] at ic
  rw [← q4] at id
  have p3 := opK_len T (k + 1 + 1 + fSz c1 + 1 + fSz c2) l3 ((1, 41, 0) :: (4, nO T (k + 1 + 1 + fSz c1 + 1 + fSz c2 + 1 + fSz c3), 0) :: K)
  have p2 := opK_len T (k + 1 + 1 + fSz c1) l2 ((1, 59, 0) :: opK T (k + 1 + 1 + fSz c1 + 1 + fSz c2) l3 ((1, 41, 0) :: (4, nO T (k + 1 + 1 + fSz c1 + 1 + fSz c2 + 1 + fSz c3), 0) :: K))
  have p1 := fiK_len T (k + 1) l1 c1 ((1, 59, 0) :: opK T (k + 1 + 1 + fSz c1) l2 ((1, 59, 0) :: opK T (k + 1 + 1 + fSz c1 + 1 + fSz c2) l3 ((1, 41, 0) :: (4, nO T (k + 1 + 1 + fSz c1 + 1 + fSz c2 + 1 + fSz c3), 0) :: K)))
  simp only [List.length_cons] at p3 p2 p1
  refine A_of (a := [(wdS.getD 10 [], false)]) (b := [([40], false)] ++ (fiT tx n l1 c1 ++ ([([59], false)] ++ (opT tx n l2 c2 ++ ([([59], false)] ++ (opT tx n l3 c3 ++ ([([41], false)] ++ acB tx n l4 c4))))))) (K1 := (1, 40, 0) :: fiK T (k + 1) l1 c1 ((1, 59, 0) :: opK T (k + 1 + 1 + fSz c1) l2 ((1, 59, 0) :: opK T (k + 1 + 1 + fSz c1 + 1 + fSz c2) l3 ((1, 41, 0) :: (4, nO T (k + 1 + 1 + fSz c1 + 1 + fSz c2 + 1 + fSz c3), 0) :: K)))) (by omega) ?_ ?_ ?_
  · refine QM_eq (fun r h => r_285 h k0 k1 hl (by omega) (h.f5 hch k0 k1)) (QM_tl ?_)
    refine QM_eq (fun r h => by
      rw [cS_289, cF_289_0, if_pos (h.no (by omega) (by omega)), if_pos (h.no k0 k1), kd r h, if_neg (by omega), if_neg (by omega), if_neg (by omega), if_pos e]) (QM_tl (x := fun r => cm_sem 291 [.inr (.inl 41), .inl (nO T k), .inl (nO T (k + 1))] r) ?_)
    refine QM_wo (w := 10) (by decide) (fun r h => by
      rw [cS_291, cF_291_0, if_pos (h.no (by omega) (by omega)), h.n5 A1 (by omega) (by omega), if_pos (h.no (by omega) (by omega)), h.n5 A2 (by omega) (by omega)] <;> rfl) ?_
    refine QM_pl (by omega) (fun r h => by
      rw [if_pos (h.no (by omega) (by omega)), h.n5 A3 (by omega) (by omega)] <;> rfl) ?_
    refine QM_pl (by simp only [List.length_cons]; omega) (fun r h => rfl) ?_
    refine QM_op (k := k + 1 + 1 + fSz c1 + 1 + fSz c2) (l := l3) (by simp only [List.length_cons]; omega) (fun r h => by
      rw [if_pos (h.no (by omega) (by omega)), (h.nf A3 (by omega) (by omega)).2.2.1] <;> rfl) ?_
    refine QM_pl (by omega) (fun r h => rfl) ?_
    refine QM_op (k := k + 1 + 1 + fSz c1) (l := l2) (by simp only [List.length_cons]; omega) (fun r h => by
      rw [if_pos (h.no (by omega) (by omega)), (h.nf A2 (by omega) (by omega)).2.2.1] <;> rfl) ?_
    refine QM_pl (by omega) (fun r h => rfl) ?_
    exact QM_fi A1 (by omega) (by omega) (by simp only [List.length_cons]; omega) (fun r h => rfl) (QM_pl (by omega) (fun r h => rfl) (QM_nd fun r h => rfl))
  · refine PT_tr (PT_1 (by omega) (by decide)) (PT_tr (PT_fi ht (pk := l.1) (c := lbC l) (i := 0) A1 (by omega) (by omega) v1 T1 ia h11 h12 h14 (by omega) (by simp only [List.length_cons]; omega) (by simp only [List.length_cons]; omega)) ?_)
    refine PT_tr (PT_1 (by omega) (by decide)) (PT_tr (PT_op (pk := l.1) (c := lbC l) (i := 0 + 1) v2 ib (by omega) (by simp only [List.length_cons]; omega)) ?_)
    refine PT_tr (PT_1 (by omega) (by decide)) (PT_tr (PT_op (pk := l.1) (c := lbC l) (i := 0 + 1 + 1) v3 ic (by omega) (by simp only [List.length_cons]; omega)) ?_)
    exact PT_tr (PT_1 (by simp only [List.length_cons]; omega) (by decide)) (w4 (Or.inl id) K (by omega))
  unfold acB
  rw [prF_fi (Or.inl e) ia h12 h14, prF_op ib (by omega) (by omega) h22 h24, prF_op ic (by omega) (by omega) h32 h34, prF_s (isS_30 id) (by omega) (by omega)]
  have o1 : opn tx n l (fK0 (.inner x1 l1 u1 c1 (.inner x2 l2 u2 c2 (.inner x3 l3 u3 c3 (.inner x4 l4 u4 c4 .leaf))))) = [(wdS.getD 10 [], false), ([40], false)] := by simp [opn, opS, opH, e]; decide
  have o4 : ahd tx n l (0 + 1) l2.1 = [([59], false)] := by simp [ahd, ahH, e, k1013]
  have o5 : ahd tx n l (0 + 1 + 1) l3.1 = [([59], false)] := by simp [ahd, ahH, e, k1013]
  have o6 : ahd tx n l (0 + 1 + 1 + 1) l4.1 = [([41], false)] := by simp [ahd, ahH, e, k1010]
  have o2 : clS 0 0 l (fLn (.inner x1 l1 u1 c1 (.inner x2 l2 u2 c2 (.inner x3 l3 u3 c3 (.inner x4 l4 u4 c4 .leaf))))) = [] := by simp [clS, e]
  rw [o1, o2, o4, o5, o6]
  simp [prF, acB]
end TXb3
