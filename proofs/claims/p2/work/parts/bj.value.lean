/-! ===== the reference's printer: a value, with brackets and without ===== -/
def sbN (l : tLb) (ch : tF) : Bool := if l.1 = 37 ∨ l.1 = 39 then true else if isSb l.1 then sbF l ch else false
/-- what a node's weight is more than its printing needs of the todo list -/
def slF (l : tLb) (ch : tF) : Int := if l.1 = 46 ∧ lbC l = 14 then 2 else if 31 ≤ l.1 ∧ l.1 ≤ 35 then 1 else if sbN l ch = true then 1 else 0
theorem slF_01 (l : tLb) (ch : tF) : 0 ≤ slF l ch ∧ slF l ch ≤ 2 := by
  unfold slF
  repeat' split
  all_goals omega
theorem k1009 : kTok 1009 = ([40], false) := rfl
theorem k1010 : kTok 1010 = ([41], false) := rfl
theorem k1005 : kTok 1005 = ([44], false) := rfl
theorem k1006 : kTok 1006 = ([93], false) := rfl
theorem k1007 : kTok 1007 = ([125], false) := rfl
theorem k1008 : kTok 1008 = ([46], false) := rfl
theorem k1011 : kTok 1011 = ([123], false) := rfl
theorem k1012 : kTok 1012 = ([58], false) := rfl
theorem k1013 : kTok 1013 = ([59], false) := rfl
theorem k1014 : kTok 1014 = ([61], false) := rfl
theorem k1016 : kTok 1016 = ([91], false) := rfl
theorem k1017 : kTok 1017 = ([63], false) := rfl
section TXa5
variable {tx : Int → Int} {n : Int}
def VL (tx : Int → Int) (n : Int) (T : tT) (o1 : Option cm_V) (k : Int) (l : tLb) (ch : tF) : Prop := ∀ (K : List pE) (w : Int) (ni fc : Bool), 0 ≤ w → w < 16 → (K.length : Int) + tWt (l, ch) + (if vBr l w ni fc = true then 1 else 0) ≤ 1000 + slF l ch → PT tx n T o1 ((3, nO T k, asW w ni fc) :: K) (vT tx n l ch ni (vBr l w ni fc)) K
def AL (tx : Int → Int) (n : Int) (T : tT) (o1 : Option cm_V) (k : Int) (l : tLb) (ch : tF) : Prop := ∀ (K : List pE), (K.length : Int) + tWt (l, ch) ≤ 1000 → PT tx n T o1 ((4, nO T k, 0) :: K) (opn tx n l (fK0 ch) ++ (prF tx n l 0 false false ch ++ clS 0 0 l (fLn ch))) K
def BO (tx : Int → Int) (n : Int) (T : tT) (o1 : Option cm_V) (k : Int) (l : tLb) (ch : tF) : Prop := ∀ (K : List pE) (ni : Bool), (K.length : Int) + tWt (l, ch) ≤ 1000 + slF l ch → ∃ (a b : List tok) (K1 : List pE), QM tx n T (fun r => if l.1 < 44 then cm_sem 280 [.inr (.inl 41), .inl (nO T k)] r else cm_sem 284 [.inr (.inl 41), .inl (nO T k), .inl (if ni = true then 256 else 0)] r) K a K1 ∧ PT tx n T o1 K1 b K ∧ a ++ b = opn tx n l (fK0 ch) ++ (prF tx n l 0 ni false ch ++ clE tx n l (fLn ch) (nlF ch))
def SVd (tx : Int → Int) (n : Int) (T : tT) (o1 : Option cm_V) : Int → tF → Prop
  | _, .leaf => True
  | k, .inner _ l _ ch re => (isE l.1 → VL tx n T o1 k l ch) ∧ (isS l.1 ∨ l.1 = 20 → AL tx n T o1 k l ch) ∧ SVd tx n T o1 (k + 1) ch ∧ SVd tx n T o1 (k + 1 + fSz ch) re
theorem r_276 (ht : tOk tx n) {r : cm_S} {T : tT} (h : rJ tx n r T) {k : Int} (k0 : 0 ≤ k) (k1 : k < tSz T) {w : Int} (w0 : 0 ≤ w) (w1 : w < 16) (ni fc : Bool) : cm_sem 276 [.inr (.inl 41), .inl (nO T k), .inl (asW w ni fc)] r = if vBr (nLb (nT T k)) w ni fc = true then (cm_bv (cm_sem 272 [.inr (.inl 41), .inl 40] r) fun s1 => cm_bv (cm_sem 271 [.inr (.inl 41), .inl 1, .inl 41, .inl 0] s1) fun s2 => cm_bv (cm_sem 271 [.inr (.inl 41), .inl 3, .inl (nO T k), .inl 0] s2) fun s3 => some (.inl none, s3)) else (cm_bv (if (nLb (nT T k)).1 < 44 then cm_sem 280 [.inr (.inl 41), .inl (nO T k)] r else cm_sem 284 [.inr (.inl 41), .inl (nO T k), .inl (if ni = true then 256 else 0)] r) fun s3 => some (.inl none, s3)) := by
  have o := h.no k0 k1
  obtain ⟨w', rfl⟩ := Int.eq_ofNat_of_zero_le w0
  obtain ⟨a1, a2, a3, a4, a5, a6⟩ := asW_f w' (by omega) ni fc
  rw [cS_276, cF_276_0]
  have b1 : (0 < cm_and (asW w' ni fc) 256) = (ni = true) := propext a1
  have b2 : (0 < cm_and (asW w' ni fc) 512) = (fc = true) := propext a2
  have b1' : (0 < cm_and (asW (Int.ofNat w') ni fc) 256) = (ni = true) := b1
  have b2' : (0 < cm_and (asW (Int.ofNat w') ni fc) 512) = (fc = true) := b2
  simp only [b1, b2, a3]
  simp only [a4]
  have body : (if (0 : Int) ≤ nO T k ∧ nO T k < 500 then (if r.2 47 (nO T k) < 44 then cm_bv (cm_sem 280 [.inr (.inl 41), .inl (nO T k)] r) fun s9 => some (.inl none, s9) else cm_bv (cm_sem 284 [.inr (.inl 41), .inl (nO T k), .inl (if ni = true then 256 else 0)] r) fun s10 => some (.inl none, s10)) else none) = (cm_bv (if (nLb (nT T k)).1 < 44 then cm_sem 280 [.inr (.inl 41), .inl (nO T k)] r else cm_sem 284 [.inr (.inl 41), .inl (nO T k), .inl (if ni = true then 256 else 0)] r) fun s3 => some (.inl none, s3) : Option cm_R) := by
    rw [if_pos o, h.kd k0 k1]
    split <;> rfl
  unfold vBr
  cases fc with
  | true =>
    rw [Bool.true_or]
    cases ni with
    | true => rfl
    | false => rfl
  | false =>
    rw [Bool.false_or]
    by_cases hb : tB (nLb (nT T k)) < w'
    · rw [decide_eq_true hb, Bool.true_or, r_277 ht h k0 k1, cm_bi_i, cm_bi_i, if_pos hb, if_pos hb]
      cases ni with
      | true => rfl
      | false => rfl
    · rw [decide_eq_false hb, Bool.false_or, r_277 ht h k0 k1, cm_bi_i, cm_bi_i, if_neg hb, if_neg hb]
      cases ni with
      | true =>
        rw [if_pos rfl, if_neg (by decide), Bool.true_and]
        obtain ⟨z, e, ⟨rfl, hz⟩ | ⟨rfl, hz⟩⟩ := r_279 ht h k0 k1
        · rw [e, cm_bi_i, if_pos rfl, decide_eq_false hz]
          exact body.trans (if_neg (by decide)).symm
        · rw [e, cm_bi_i, if_neg (by decide), decide_eq_true hz, if_pos rfl]
      | false =>
        rw [if_neg (by decide), if_neg (by decide), Bool.false_and]
        exact body.trans (if_neg (by decide)).symm
theorem fK_len : ∀ f : tF, ((fK f).length : Int) = fLn f := by
  intro f
  induction f with
  | leaf => rfl
  | inner x l u ch re i1 i2 =>
    show (((l.1 :: fK re).length : Nat) : Int) = 1 + fLn re
    rw [List.length_cons]
    omega
theorem gC_m {k : Int} {f : tF} (h : gC k (fK f)) : (k = 6 → 2 ≤ fLn f ∧ fLn f ≤ 3) ∧ (k = 49 → 2 ≤ fLn f) ∧ (k = 42 ∨ k = 43 → 1 ≤ fLn f) := by
  have hl := fK_len f
  refine ⟨?_, ?_, ?_⟩
  · rintro rfl
    obtain ⟨a, b, h1, h2, h3 | ⟨c, h3, h4⟩⟩ := (h : ∃ a b, isE a ∧ isS b ∧ (fK f = [a, b] ∨ ∃ c, fK f = [a, b, c] ∧ isS c))
    · rw [h3] at hl; simp at hl; omega
    · rw [h3] at hl; simp at hl; omega
  · rintro rfl
    have := (h : 2 ≤ (fK f).length ∧ ∀ x ∈ fK f, isE x).1
    omega
  · rintro (rfl | rfl)
    · obtain ⟨a, r, e, -⟩ := (h : ∃ a r, fK f = a :: r ∧ isE a ∧ ∀ x ∈ r, isE x)
      rw [e, List.length_cons] at hl
      omega
    · obtain ⟨a, r, e, -⟩ := (h : ∃ a r, fK f = a :: r ∧ isE a ∧ ∀ x ∈ r, isE x)
      rw [e, List.length_cons] at hl
      omega
theorem tOw_0 {l : tLb} {ch : tF} (g : gT tx n l) (gc : gC l.1 (fK ch)) : 0 ≤ tOw l (fLn ch) := by
  have m0 := fLn_0 ch
  obtain ⟨m6, m49, m42⟩ := gC_m gc
  have g2 := g.2.1
  clear g gc
  generalize fLn ch = m at *
  unfold tOw
  by_cases c0 : l.1 = 1 ∨ l.1 = 23
  · rw [if_pos c0]
    clear m6 m49 m42
    omega
  rw [if_neg c0]
  by_cases c1 : l.1 = 2
  · rw [if_pos c1]
    clear m6 m49 m42
    omega
  rw [if_neg c1]
  by_cases c2 : l.1 = 3
  · rw [if_pos c2]
    clear m6 m49 m42
    omega
  rw [if_neg c2]
  by_cases c3 : l.1 = 4 ∨ l.1 = 5
  · rw [if_pos c3]
    clear m6 m49 m42
    omega
  rw [if_neg c3]
  by_cases c4 : l.1 = 6
  · rw [if_pos c4]
    have := m6 c4
    omega
  rw [if_neg c4]
  by_cases c5 : l.1 = 7
  · rw [if_pos c5]
    clear m6 m49 m42
    omega
  rw [if_neg c5]
  by_cases c6 : l.1 = 8 ∨ l.1 = 10
  · rw [if_pos c6]
    clear m6 m49 m42
    omega
  rw [if_neg c6]
  by_cases c7 : l.1 = 9
  · rw [if_pos c7]
    clear m6 m49 m42
    omega
  rw [if_neg c7]
  by_cases c8 : l.1 = 11
  · rw [if_pos c8]
    clear m6 m49 m42
    omega
  rw [if_neg c8]
  by_cases c9 : l.1 = 12
  · rw [if_pos c9]
    clear m6 m49 m42
    omega
  rw [if_neg c9]
  by_cases c10 : l.1 = 13
  · rw [if_pos c10]
    clear m6 m49 m42
    omega
  rw [if_neg c10]
  by_cases c11 : l.1 = 14
  · rw [if_pos c11]
    clear m6 m49 m42
    omega
  rw [if_neg c11]
  by_cases c12 : l.1 = 15
  · rw [if_pos c12]
    clear m6 m49 m42
    omega
  rw [if_neg c12]
  by_cases c13 : l.1 = 16
  · rw [if_pos c13]
    clear m6 m49 m42
    omega
  rw [if_neg c13]
  by_cases c14 : l.1 = 17
  · rw [if_pos c14]
    clear m6 m49 m42
    omega
  rw [if_neg c14]
  by_cases c15 : l.1 = 18
  · rw [if_pos c15]
    clear m6 m49 m42
    omega
  rw [if_neg c15]
  by_cases c16 : l.1 = 19
  · rw [if_pos c16]
    clear m6 m49 m42
    omega
  rw [if_neg c16]
  by_cases c17 : l.1 = 20 ∨ l.1 = 39
  · rw [if_pos c17]
    clear m6 m49 m42
    omega
  rw [if_neg c17]
  by_cases c18 : l.1 = 0 ∨ l.1 = 21
  · rw [if_pos c18]
    clear m6 m49 m42
    omega
  rw [if_neg c18]
  by_cases c19 : l.1 = 30
  · rw [if_pos c19]
    clear m6 m49 m42
    omega
  rw [if_neg c19]
  by_cases c20 : l.1 = 36
  · rw [if_pos c20]
    clear m6 m49 m42
    omega
  rw [if_neg c20]
  by_cases c21 : l.1 = 37
  · rw [if_pos c21]
    clear m6 m49 m42
    omega
  rw [if_neg c21]
  by_cases c22 : l.1 = 38
  · rw [if_pos c22]
    clear m6 m49 m42
    omega
  rw [if_neg c22]
  by_cases c23 : l.1 = 40 ∨ l.1 = 47
  · rw [if_pos c23]
    clear m6 m49 m42
    omega
  rw [if_neg c23]
  by_cases c24 : l.1 = 41
  · rw [if_pos c24]
    clear m6 m49 m42
    omega
  rw [if_neg c24]
  by_cases c25 : l.1 = 42
  · rw [if_pos c25]
    clear m6 m49 m42
    omega
  rw [if_neg c25]
  by_cases c26 : l.1 = 43
  · rw [if_pos c26]
    clear m6 m49 m42
    omega
  rw [if_neg c26]
  by_cases c27 : l.1 = 49
  · rw [if_pos c27]
    have := m49 c27
    omega
  rw [if_neg c27]
  clear m6 m49 m42
  omega
theorem fWt_0 : ∀ (f : tF) (k c i : Int), gF tx n f → 0 ≤ fWt k c i f := by
  intro f
  induction f with
  | leaf => intro k c i _; exact Int.le_refl _
  | inner x l u ch re i1 i2 =>
    intro k c i hF
    obtain ⟨f1, f2, f3, f4, f5⟩ := hF
    have a := tOw_0 f1 f2
    have b := i1 l.1 (lbC l) 0 f4
    have d := i2 k c (i + 1) f5
    show 0 ≤ tOw l (fLn ch) + fWt l.1 (lbC l) 0 ch + (if tB l < tWn k c i ∨ k = 42 ∧ i = 0 ∧ tCa (l, ch) = true then 2 else 0) + fWt k c (i + 1) re
    split <;> omega
/-- a value's weight is more than its slack -/
theorem tOw_30 {l : tLb} {m : Int} (e : l.1 = 30) : tOw l m = 8 := by simp [tOw, e]
theorem tOw_31 {l : tLb} {m : Int} (e : l.1 = 31) : tOw l m = 2 * lbN l := by simp [tOw, e]
theorem tOw_32 {l : tLb} {m : Int} (e : l.1 = 32) : tOw l m = 2 * lbN l := by simp [tOw, e]
theorem tOw_33 {l : tLb} {m : Int} (e : l.1 = 33) : tOw l m = 2 * lbN l := by simp [tOw, e]
theorem tOw_34 {l : tLb} {m : Int} (e : l.1 = 34) : tOw l m = 2 * lbN l := by simp [tOw, e]
theorem tOw_35 {l : tLb} {m : Int} (e : l.1 = 35) : tOw l m = 2 * lbN l := by simp [tOw, e]
theorem tOw_36 {l : tLb} {m : Int} (e : l.1 = 36) : tOw l m = 3 + m := by simp [tOw, e]
theorem tOw_37 {l : tLb} {m : Int} (e : l.1 = 37) : tOw l m = 4 + m := by simp [tOw, e]
theorem tOw_39 {l : tLb} {m : Int} (e : l.1 = 39) : tOw l m = 18 + 2 * lbN l + m := by simp [tOw, e]
theorem tOw_40 {l : tLb} {m : Int} (e : l.1 = 40) : tOw l m = 4 := by simp [tOw, e]
theorem tOw_41 {l : tLb} {m : Int} (e : l.1 = 41) : tOw l m = 2 + 2 * lbN l := by simp [tOw, e]
theorem tOw_42 {l : tLb} {m : Int} (e : l.1 = 42) : tOw l m = 4 + 2 * m := by simp [tOw, e]
theorem tOw_43 {l : tLb} {m : Int} (e : l.1 = 43) : tOw l m = 2 + m := by simp [tOw, e]
theorem tOw_44 {l : tLb} {m : Int} (e : l.1 = 44) : tOw l m = 2 * lbN l := by simp [tOw, e]
theorem tOw_45 {l : tLb} {m : Int} (e : l.1 = 45) : tOw l m = 2 * lbN l := by simp [tOw, e]
theorem tOw_46 {l : tLb} {m : Int} (e : l.1 = 46) : tOw l m = 2 * lbN l := by simp [tOw, e]
theorem tOw_47 {l : tLb} {m : Int} (e : l.1 = 47) : tOw l m = 4 := by simp [tOw, e]
theorem tOw_48 {l : tLb} {m : Int} (e : l.1 = 48) : tOw l m = 2 * lbN l := by simp [tOw, e]
theorem tOw_49 {l : tLb} {m : Int} (e : l.1 = 49) : tOw l m = 2 * m - 2 := by simp [tOw, e]
/-- a value's weight is more than its slack -/
theorem tWs (ht : tOk tx n) {l : tLb} {ch : tF} (hE : isE l.1) (g : gT tx n l) (gc : gC l.1 (fK ch)) (gf : gF tx n ch) : slF l ch + 1 ≤ tWt (l, ch) := by
  have m0 := fLn_0 ch
  obtain ⟨m6, m49, m42⟩ := gC_m gc
  have f0 := fWt_0 ch l.1 (lbC l) 0 gf
  have s2 : slF l ch ≤ 2 := (slF_01 l ch).2
  have s1 : ¬ (l.1 = 46 ∧ lbC l = 14) → slF l ch ≤ 1 := fun q => by
    unfold slF
    rw [if_neg q]
    by_cases q2 : 31 ≤ l.1 ∧ l.1 ≤ 35
    · rw [if_pos q2]; decide
    · rw [if_neg q2]
      by_cases q3 : sbN l ch = true
      · rw [if_pos q3]; decide
      · rw [if_neg q3]; decide
  have ow : 2 ≤ tOw l (fLn ch) := by
    have ks : l.1 = 30 ∨ l.1 = 31 ∨ l.1 = 32 ∨ l.1 = 33 ∨ l.1 = 34 ∨ l.1 = 35 ∨ l.1 = 36 ∨ l.1 = 37 ∨ l.1 = 39 ∨ l.1 = 40 ∨ l.1 = 41 ∨ l.1 = 42 ∨ l.1 = 43 ∨ l.1 = 44 ∨ l.1 = 45 ∨ l.1 = 46 ∨ l.1 = 47 ∨ l.1 = 48 ∨ l.1 = 49 := by unfold isE at hE; omega
    rcases ks with e | e | e | e | e | e | e | e | e | e | e | e | e | e | e | e | e | e | e
    · rw [tOw_30 e]; decide
    · rw [tOw_31 e]
      have := gT_len ht g (by omega)
      omega
    · rw [tOw_32 e]
      have := gT_len ht g (by omega)
      omega
    · rw [tOw_33 e]
      have := gT_len ht g (by omega)
      omega
    · rw [tOw_34 e]
      have := gT_len ht g (by omega)
      omega
    · rw [tOw_35 e]
      have := gT_len ht g (by omega)
      omega
    · rw [tOw_36 e]; omega
    · rw [tOw_37 e]; omega
    · rw [tOw_39 e]
      have := g.2.1
      omega
    · rw [tOw_40 e]; decide
    · rw [tOw_41 e]
      have := g.2.1
      omega
    · rw [tOw_42 e]; omega
    · rw [tOw_43 e]; omega
    · rw [tOw_44 e]
      have := gT_len ht g (by omega)
      omega
    · rw [tOw_45 e]
      have := gT_len ht g (by omega)
      omega
    · rw [tOw_46 e]
      have := gT_len ht g (by omega)
      omega
    · rw [tOw_47 e]; decide
    · rw [tOw_48 e]
      have := gT_len ht g (by omega)
      omega
    · rw [tOw_49 e]
      have := m49 e
      omega
  show slF l ch + 1 ≤ tOw l (fLn ch) + fWt l.1 (lbC l) 0 ch
  by_cases h46 : l.1 = 46 ∧ lbC l = 14
  · have e := tOw_46 (m := fLn ch) h46.1
    have := (bin_tx ht g h46.1).2.2.2
    clear m49 m6 m42 s1
    rcases this with q | q
    · omega
    · exact absurd h46.2 q.2.1
  · have := s1 h46
    omega
theorem V_of (ht : tOk tx n) {T : tT} {o1 : Option cm_V} {k : Int} {l : tLb} {ch : tF} (k0 : 0 ≤ k) (k1 : k < tSz T) (hl : nLb (nT T k) = l) (tw : slF l ch + 1 ≤ tWt (l, ch)) (hB : BO tx n T o1 k l ch) : VL tx n T o1 k l ch := by
  intro K w ni fc w0 w1 hr
  have sl := slF_01 l ch
  have tb := tB_0 l
  have plain : ∀ (K : List pE) (w : Int) (ni fc : Bool), 0 ≤ w → w < 16 → vBr l w ni fc = false → (K.length : Int) + tWt (l, ch) ≤ 1000 + slF l ch → PT tx n T o1 ((3, nO T k, asW w ni fc) :: K) (opn tx n l (fK0 ch) ++ (prF tx n l 0 ni false ch ++ clE tx n l (fLn ch) (nlF ch))) K := fun K w ni fc w0 w1 hv hr => by
    obtain ⟨a, b, K1, q1, q2, q3⟩ := hB K ni hr
    rw [← q3]
    refine PT_tr (PT_3 (by omega) (QM_eq (fun r h => ?_) (QM_tl q1))) q2
    show cm_sem 276 [.inr (.inl 41), .inl (nO T k), .inl (asW w ni fc)] r = _
    rw [r_276 ht h k0 k1 w0 w1, hl, hv, if_neg (by decide)]
  cases hv : vBr l w ni fc with
  | false =>
    rw [hv, if_neg (by decide)] at hr
    have e : vT tx n l ch ni false = opn tx n l (fK0 ch) ++ (prF tx n l 0 ni false ch ++ clE tx n l (fLn ch) (nlF ch)) := by
      unfold vT
      simp
    rw [e]
    exact plain K w ni fc w0 w1 hv (by omega)
  | true =>
    rw [hv, if_pos rfl] at hr
    have v0 : vBr l 0 false false = false := by
      unfold vBr
      rw [decide_eq_false (by omega)]
      rfl
    have e : vT tx n l ch ni true = [([40], false)] ++ ((opn tx n l (fK0 ch) ++ (prF tx n l 0 false false ch ++ clE tx n l (fLn ch) (nlF ch))) ++ [([41], false)]) := by
      unfold vT
      rw [if_pos rfl, if_pos rfl, k1009, k1010]
      simp
    rw [e]
    refine PT_tr (K1 := (3, nO T k, asW 0 false false) :: (1, 41, 0) :: K) (PT_3 (by omega) (QM_eq (y := fun r => cm_bv (cm_sem 272 [.inr (.inl 41), .inl 40] r) fun s1 => cm_bv (cm_sem 271 [.inr (.inl 41), .inl 1, .inl 41, .inl 0] s1) fun s2 => cm_bv (cm_sem 271 [.inr (.inl 41), .inl 3, .inl (nO T k), .inl 0] s2) fun s3 => some (.inl none, s3)) (fun r h => ?_) ?_)) (PT_tr (plain ((1, 41, 0) :: K) 0 false false (by decide) (by decide) v0 (by rw [List.length_cons]; omega)) (PT_1 (by omega) (by decide)))
    · show cm_sem 276 [.inr (.inl 41), .inl (nO T k), .inl (asW w ni fc)] r = _
      rw [r_276 ht h k0 k1 w0 w1, hl, hv, if_pos rfl]
    · exact QM_bv (a := [([40], false)]) (b := []) (QM_sign (by decide)) (QM_bv (a := []) (b := []) (QM_plan (by omega) _ _ _) (QM_tl (QM_plan (by rw [List.length_cons]; omega) _ _ _)))
end TXa5
