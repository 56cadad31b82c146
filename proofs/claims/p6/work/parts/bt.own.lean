/-! ===== how long a node's own words and signs are ===== -/
section TXb6
variable {tx : Int → Int} {n : Int}
def aS (tx : Int → Int) (n : Int) (l : tLb) : Int → List Int → Int
  | _, [] => 0
  | r, k :: m => cst false (ahd tx n l r k) + aS tx n l (r + 1) m
theorem aS_le {l : tLb} (h : ∀ r k, 0 ≤ r → cst false (ahd tx n l r k) ≤ 1) : ∀ (m : List Int) (r : Int), 0 ≤ r → aS tx n l r m ≤ m.length := by
  intro m
  induction m with
  | nil => intro r _; exact Int.le_refl _
  | cons k m ih =>
    intro r hr
    have a := h r k hr
    have b := ih (r + 1) (by omega)
    show cst false (ahd tx n l r k) + aS tx n l (r + 1) m ≤ _
    rw [List.length_cons]
    omega
theorem aS_c {l : tLb} (h : ∀ r k, 0 ≤ r → cst false (ahd tx n l r k) ≤ 1) (h0 : ∀ k, ahd tx n l 0 k = []) (m : List Int) : aS tx n l 0 m ≤ m.length ∧ (1 ≤ (m.length : Int) → aS tx n l 0 m ≤ m.length - 1) := by
  cases m with
  | nil => exact ⟨Int.le_refl _, fun z => by simp at z⟩
  | cons k m =>
    have b := aS_le h m (0 + 1) (by decide)
    have c : aS tx n l 0 (k :: m) = cst false (ahd tx n l 0 k) + aS tx n l (0 + 1) m := rfl
    rw [h0] at c
    have d : cst false [] = 0 := rfl
    rw [List.length_cons]
    constructor
    · omega
    · intro _; omega
theorem aS_0 {l : tLb} (h : ∀ r k, 0 ≤ r → ahd tx n l r k = []) : ∀ (m : List Int) (r : Int), 0 ≤ r → aS tx n l r m = 0 := by
  intro m
  induction m with
  | nil => intro r _; rfl
  | cons k m ih =>
    intro r hr
    show cst false (ahd tx n l r k) + aS tx n l (r + 1) m = 0
    rw [h r k hr, ih (r + 1) (by omega)]
    rfl
theorem xC {l : tLb} (h : 0 ≤ lbN l) (b : Bool) : cst false (xTk tx n l b) ≤ lbN l + 1 ∧ cst true (xTk tx n l b) ≤ lbN l ∧ (lbN l = 0 → cst false (xTk tx n l b) = 0) := by
  unfold xTk
  by_cases h0 : 0 < lbN l
  · rw [if_pos h0]
    refine ⟨?_, ?_, fun z => by omega⟩
    · show (((tkL tx n (lbP l) (lbN l).toNat).length : Nat) : Int) + (if false = true then 0 else if jn _ = true then 1 else 0) + 0 ≤ _
      rw [tkL_len, if_neg (by decide)]
      split <;> omega
    · show (((tkL tx n (lbP l) (lbN l).toNat).length : Nat) : Int) + (if true = true then 0 else if jn _ = true then 1 else 0) + 0 ≤ _
      rw [tkL_len, if_pos rfl]
      omega
  · rw [if_neg h0]
    exact ⟨show (0 : Int) ≤ _ by omega, show (0 : Int) ≤ _ by omega, fun _ => rfl⟩
abbrev OW (tx : Int → Int) (n : Int) (l : tLb) (ch : tF) : Prop := ∀ pk r : Int, cst false (opn tx n l (fK0 ch)) + aS tx n l 0 (fK ch) + cst false (if l.1 < 30 then clS pk r l (fLn ch) else clE tx n l (fLn ch) (nlF ch)) + (if l.1 = 41 ∧ fK0 ch = 33 then 2 else 0) + (if l.1 = 46 ∧ lbC l = 14 then 1 else 0) ≤ tOw l (fLn ch)
theorem OW_0 {l : tLb} {ch : tF} (ht : tOk tx n) (g1 : gT tx n l) (g2 : gC l.1 (fK ch)) (e : l.1 = 0) : OW tx n l ch := by
  intro pk r
  have ln := g1.2.1
  have fk := fK_len ch
  have fl := fLn_0 ch
  have o1 : opn tx n l (fK0 ch) = [] := by simp [opn, opS, opH, e]
  have oc : cst false [] = 0 := rfl
  have a1 := aS_0 (tx := tx) (n := n) (l := l) (fun r k _ => by simp [ahd, ahH, e]) (fK ch) 0 (by decide)
  have c1 : clS pk r l (fLn ch) = [] := by simp [clS, e]
  have cc : cst false [] = 0 := rfl
  have ow : tOw l (fLn ch) = 0 := by simp [tOw, e]
  rw [o1, if_pos (show l.1 < 30 by omega), c1, if_neg (show ¬ (l.1 = 41 ∧ fK0 ch = 33) by omega), if_neg (show ¬ (l.1 = 46 ∧ lbC l = 14) by omega), ow]
  omega
theorem OW_1 {l : tLb} {ch : tF} (ht : tOk tx n) (g1 : gT tx n l) (g2 : gC l.1 (fK ch)) (e : l.1 = 1) : OW tx n l ch := by
  intro pk r
  have ln := g1.2.1
  have fk := fK_len ch
  have fl := fLn_0 ch
  have o1 : opn tx n l (fK0 ch) = [kTok 1011] := by simp [opn, opS, opH, e]
  have oc : cst false ([kTok 1011]) = 1 := by decide
  have a1 := aS_0 (tx := tx) (n := n) (l := l) (fun r k _ => by simp [ahd, ahH, e]) (fK ch) 0 (by decide)
  have c1 : clS pk r l (fLn ch) = [kTok 1007] := by simp [clS, e]
  have cc : cst false ([kTok 1007]) = 1 := by decide
  have ow : tOw l (fLn ch) = 3 := by simp [tOw, e]
  rw [o1, if_pos (show l.1 < 30 by omega), c1, if_neg (show ¬ (l.1 = 41 ∧ fK0 ch = 33) by omega), if_neg (show ¬ (l.1 = 46 ∧ lbC l = 14) by omega), ow]
  omega
theorem OW_2 {l : tLb} {ch : tF} (ht : tOk tx n) (g1 : gT tx n l) (g2 : gC l.1 (fK ch)) (e : l.1 = 2) : OW tx n l ch := by
  intro pk r
  have ln := g1.2.1
  have fk := fK_len ch
  have fl := fLn_0 ch
  have o1 : opn tx n l (fK0 ch) = [kTok 1024] := by simp [opn, opS, opH, e]
  have oc : cst false ([kTok 1024]) = 4 := by decide
  have a1 := aS_c (tx := tx) (n := n) (l := l) (fun r k hr => by
    have : ahd tx n l r k = if 0 < r then [kTok 1005] else [] := by simp [ahd, e]
    rw [this]
    split <;> decide) (fun k => by simp [ahd, e]) (fK ch)
  have cc : cst false (clS pk r l (fLn ch)) ≤ 1 := by
    have : clS pk r l (fLn ch) = if (pk = 9 ∨ pk = 10) ∧ r = 0 then [] else [kTok 1013] := by simp [clS, e]
    rw [this]
    split <;> decide
  have ow : tOw l (fLn ch) = 2 * fLn ch + 5 := by simp [tOw, e]
  rw [o1, if_pos (show l.1 < 30 by omega), if_neg (show ¬ (l.1 = 41 ∧ fK0 ch = 33) by omega), if_neg (show ¬ (l.1 = 46 ∧ lbC l = 14) by omega), ow]
  rw [fk] at a1
  omega
theorem OW_3 {l : tLb} {ch : tF} (ht : tOk tx n) (g1 : gT tx n l) (g2 : gC l.1 (fK ch)) (e : l.1 = 3) : OW tx n l ch := by
  intro pk r
  have ln := g1.2.1
  have fk := fK_len ch
  have fl := fLn_0 ch
  have o1 : opn tx n l (fK0 ch) = xTk tx n l false := by simp [opn, opS, opH, e]
  have oc := (xC (tx := tx) (n := n) ln false).1
  have g2' : fK ch = [] ∨ ∃ a, fK ch = [a] ∧ isE a := by
    unfold gC at g2
    rw [e] at g2
    exact g2
  have a1 : aS tx n l 0 (fK ch) = fLn ch := by
    rcases g2' with em | ⟨a, em, -⟩
    · rw [em] at fk ⊢
      show (0 : Int) = _
      simp at fk
      omega
    · rw [em] at fk ⊢
      have z0 : ahd tx n l 0 a = [kTok 1014] := by simp [ahd, e]
      show cst false (ahd tx n l 0 a) + 0 = _
      rw [z0]
      have : cst false [kTok 1014] = 1 := by decide
      simp at fk
      omega
  have c1 : clS pk r l (fLn ch) = [] := by simp [clS, e]
  have cc : cst false [] = 0 := rfl
  have ln1 := gT_len ht g1 (by omega)
  have ow : tOw l (fLn ch) = 2 * lbN l + 2 * fLn ch := by simp [tOw, e]
  rw [o1, if_pos (show l.1 < 30 by omega), c1, if_neg (show ¬ (l.1 = 41 ∧ fK0 ch = 33) by omega), if_neg (show ¬ (l.1 = 46 ∧ lbC l = 14) by omega), ow]
  omega
theorem OW_4 {l : tLb} {ch : tF} (ht : tOk tx n) (g1 : gT tx n l) (g2 : gC l.1 (fK ch)) (e : l.1 = 4) : OW tx n l ch := by
  intro pk r
  have ln := g1.2.1
  have fk := fK_len ch
  have fl := fLn_0 ch
  have o1 : opn tx n l (fK0 ch) = [] := by simp [opn, opS, opH, e]
  have oc : cst false [] = 0 := rfl
  have em : fK ch = [] := by
    unfold gC at g2
    rw [e] at g2
    exact g2
  have a1 : aS tx n l 0 (fK ch) = 0 := by rw [em]; rfl
  have c1 : clS pk r l (fLn ch) = [kTok 1013] := by simp [clS, e]
  have cc : cst false ([kTok 1013]) = 1 := by decide
  have ow : tOw l (fLn ch) = 1 := by simp [tOw, e]
  rw [o1, if_pos (show l.1 < 30 by omega), c1, if_neg (show ¬ (l.1 = 41 ∧ fK0 ch = 33) by omega), if_neg (show ¬ (l.1 = 46 ∧ lbC l = 14) by omega), ow]
  omega
theorem OW_5 {l : tLb} {ch : tF} (ht : tOk tx n) (g1 : gT tx n l) (g2 : gC l.1 (fK ch)) (e : l.1 = 5) : OW tx n l ch := by
  intro pk r
  have ln := g1.2.1
  have fk := fK_len ch
  have fl := fLn_0 ch
  have o1 : opn tx n l (fK0 ch) = [] := by simp [opn, opS, opH, e]
  have oc : cst false [] = 0 := rfl
  have g2' : ∃ a, fK ch = [a] ∧ isE a := by
    unfold gC at g2
    rw [e] at g2
    exact g2
  obtain ⟨a, em, -⟩ := g2'
  have a1 : aS tx n l 0 (fK ch) = 0 := by
    rw [em]
    have z0 : ahd tx n l 0 a = [] := by simp [ahd, ahH, e]
    show (cst false (ahd tx n l 0 a) + 0) = _
    rw [z0]
    decide
  have c1 : clS pk r l (fLn ch) = [kTok 1013] := by simp [clS, e]
  have cc : cst false ([kTok 1013]) = 1 := by decide
  have ow : tOw l (fLn ch) = 1 := by simp [tOw, e]
  rw [o1, if_pos (show l.1 < 30 by omega), c1, if_neg (show ¬ (l.1 = 41 ∧ fK0 ch = 33) by omega), if_neg (show ¬ (l.1 = 46 ∧ lbC l = 14) by omega), ow]
  omega
theorem OW_6 {l : tLb} {ch : tF} (ht : tOk tx n) (g1 : gT tx n l) (g2 : gC l.1 (fK ch)) (e : l.1 = 6) : OW tx n l ch := by
  intro pk r
  have ln := g1.2.1
  have fk := fK_len ch
  have fl := fLn_0 ch
  have o1 : opn tx n l (fK0 ch) = [kTok 1032, kTok 1009] := by simp [opn, opS, opH, e]
  have oc : cst false ([kTok 1032, kTok 1009]) = 4 := by decide
  have g2' : ∃ a b, isE a ∧ isS b ∧ (fK ch = [a, b] ∨ ∃ c, fK ch = [a, b, c] ∧ isS c) := by
    unfold gC at g2
    rw [e] at g2
    exact g2
  have a1 : aS tx n l 0 (fK ch) = 5 * fLn ch - 9 ∧ 2 ≤ fLn ch := by
    obtain ⟨a, b, -, -, em | ⟨c, em, -⟩⟩ := g2'
    · rw [em] at fk ⊢
      have z0 : ahd tx n l 0 a = [] := by simp [ahd, ahH, e]
      have z1 : ahd tx n l (0 + 1) b = [kTok 1010] := by simp [ahd, ahH, e]
      show cst false (ahd tx n l 0 a) + (cst false (ahd tx n l (0 + 1) b) + 0) = _ ∧ _
      rw [z0, z1]
      have : cst false [] + (cst false [kTok 1010] + 0) = 1 := by decide
      simp at fk
      omega
    · rw [em] at fk ⊢
      have z0 : ahd tx n l 0 a = [] := by simp [ahd, ahH, e]
      have z1 : ahd tx n l (0 + 1) b = [kTok 1010] := by simp [ahd, ahH, e]
      have z2 : ahd tx n l (0 + 1 + 1) c = [kTok 1018] := by simp [ahd, ahH, e]
      show cst false (ahd tx n l 0 a) + (cst false (ahd tx n l (0 + 1) b) + (cst false (ahd tx n l (0 + 1 + 1) c) + 0)) = _ ∧ _
      rw [z0, z1, z2]
      have : cst false [] + (cst false [kTok 1010] + (cst false [kTok 1018] + 0)) = 6 := by decide
      simp at fk
      omega
  have c1 : clS pk r l (fLn ch) = [] := by simp [clS, e]
  have cc : cst false [] = 0 := rfl
  have ow : tOw l (fLn ch) = 8 * fLn ch - 10 := by simp [tOw, e]
  rw [o1, if_pos (show l.1 < 30 by omega), c1, if_neg (show ¬ (l.1 = 41 ∧ fK0 ch = 33) by omega), if_neg (show ¬ (l.1 = 46 ∧ lbC l = 14) by omega), ow]
  omega
theorem OW_7 {l : tLb} {ch : tF} (ht : tOk tx n) (g1 : gT tx n l) (g2 : gC l.1 (fK ch)) (e : l.1 = 7) : OW tx n l ch := by
  intro pk r
  have ln := g1.2.1
  have fk := fK_len ch
  have fl := fLn_0 ch
  have o1 : opn tx n l (fK0 ch) = [kTok 1033] := by simp [opn, opS, opH, e]
  have oc : cst false ([kTok 1033]) = 3 := by decide
  have g2' : ∃ a b, fK ch = [a, b] ∧ isS a ∧ isE b := by
    unfold gC at g2
    rw [e] at g2
    exact g2
  obtain ⟨a, b, em, -⟩ := g2'
  have a1 : aS tx n l 0 (fK ch) = 7 := by
    rw [em]
    have z0 : ahd tx n l 0 a = [] := by simp [ahd, ahH, e]
    have z1 : ahd tx n l (0 + 1) b = [kTok 1019, kTok 1009] := by simp [ahd, ahH, e]
    show (cst false (ahd tx n l 0 a) + (cst false (ahd tx n l (0 + 1) b) + 0)) = _
    rw [z0, z1]
    decide
  have c1 : clS pk r l (fLn ch) = [kTok 1010, kTok 1013] := by simp [clS, e]
  have cc : cst false ([kTok 1010, kTok 1013]) = 2 := by decide
  have ow : tOw l (fLn ch) = 17 := by simp [tOw, e]
  rw [o1, if_pos (show l.1 < 30 by omega), c1, if_neg (show ¬ (l.1 = 41 ∧ fK0 ch = 33) by omega), if_neg (show ¬ (l.1 = 46 ∧ lbC l = 14) by omega), ow]
  omega
theorem OW_8 {l : tLb} {ch : tF} (ht : tOk tx n) (g1 : gT tx n l) (g2 : gC l.1 (fK ch)) (e : l.1 = 8) : OW tx n l ch := by
  intro pk r
  have ln := g1.2.1
  have fk := fK_len ch
  have fl := fLn_0 ch
  have o1 : opn tx n l (fK0 ch) = [kTok 1019, kTok 1009] := by simp [opn, opS, opH, e]
  have oc : cst false ([kTok 1019, kTok 1009]) = 7 := by decide
  have g2' : ∃ a b, fK ch = [a, b] ∧ isE a ∧ isS b := by
    unfold gC at g2
    rw [e] at g2
    exact g2
  obtain ⟨a, b, em, -⟩ := g2'
  have a1 : aS tx n l 0 (fK ch) = 1 := by
    rw [em]
    have z0 : ahd tx n l 0 a = [] := by simp [ahd, ahH, e]
    have z1 : ahd tx n l (0 + 1) b = [kTok 1010] := by simp [ahd, ahH, e]
    show (cst false (ahd tx n l 0 a) + (cst false (ahd tx n l (0 + 1) b) + 0)) = _
    rw [z0, z1]
    decide
  have c1 : clS pk r l (fLn ch) = [] := by simp [clS, e]
  have cc : cst false [] = 0 := rfl
  have ow : tOw l (fLn ch) = 12 := by simp [tOw, e]
  rw [o1, if_pos (show l.1 < 30 by omega), c1, if_neg (show ¬ (l.1 = 41 ∧ fK0 ch = 33) by omega), if_neg (show ¬ (l.1 = 46 ∧ lbC l = 14) by omega), ow]
  omega
theorem OW_9 {l : tLb} {ch : tF} (ht : tOk tx n) (g1 : gT tx n l) (g2 : gC l.1 (fK ch)) (e : l.1 = 9) : OW tx n l ch := by
  intro pk r
  have ln := g1.2.1
  have fk := fK_len ch
  have fl := fLn_0 ch
  have o1 : opn tx n l (fK0 ch) = [kTok 1034, kTok 1009] := by simp [opn, opS, opH, e]
  have oc : cst false ([kTok 1034, kTok 1009]) = 5 := by decide
  have g2' : ∃ a b c d, fK ch = [a, b, c, d] ∧ (isE a ∨ a = 2 ∨ a = 21) ∧ (isE b ∨ b = 21) ∧ (isE c ∨ c = 21) ∧ isS d := by
    unfold gC at g2
    rw [e] at g2
    exact g2
  obtain ⟨a, b, c, d, em, -⟩ := g2'
  have a1 : aS tx n l 0 (fK ch) = 3 := by
    rw [em]
    have z0 : ahd tx n l 0 a = [] := by simp [ahd, ahH, e]
    have z1 : ahd tx n l (0 + 1) b = [kTok 1013] := by simp [ahd, ahH, e]
    have z2 : ahd tx n l (0 + 1 + 1) c = [kTok 1013] := by simp [ahd, ahH, e]
    have z3 : ahd tx n l (0 + 1 + 1 + 1) d = [kTok 1010] := by simp [ahd, ahH, e]
    show (cst false (ahd tx n l 0 a) + (cst false (ahd tx n l (0 + 1) b) + (cst false (ahd tx n l (0 + 1 + 1) c) + (cst false (ahd tx n l (0 + 1 + 1 + 1) d) + 0)))) = _
    rw [z0, z1, z2, z3]
    decide
  have c1 : clS pk r l (fLn ch) = [] := by simp [clS, e]
  have cc : cst false [] = 0 := rfl
  have ow : tOw l (fLn ch) = 10 := by simp [tOw, e]
  rw [o1, if_pos (show l.1 < 30 by omega), c1, if_neg (show ¬ (l.1 = 41 ∧ fK0 ch = 33) by omega), if_neg (show ¬ (l.1 = 46 ∧ lbC l = 14) by omega), ow]
  omega
theorem OW_10 {l : tLb} {ch : tF} (ht : tOk tx n) (g1 : gT tx n l) (g2 : gC l.1 (fK ch)) (e : l.1 = 10) : OW tx n l ch := by
  intro pk r
  have ln := g1.2.1
  have fk := fK_len ch
  have fl := fLn_0 ch
  have o1 : opn tx n l (fK0 ch) = [kTok 1034, kTok 1009] := by simp [opn, opS, opH, e]
  have oc : cst false ([kTok 1034, kTok 1009]) = 5 := by decide
  have g2' : ∃ a b c, fK ch = [a, b, c] ∧ (isE a ∨ a = 2) ∧ isE b ∧ isS c := by
    unfold gC at g2
    rw [e] at g2
    exact g2
  obtain ⟨a, b, c, em, -⟩ := g2'
  have a1 : aS tx n l 0 (fK ch) = 4 := by
    rw [em]
    have z0 : ahd tx n l 0 a = [] := by simp [ahd, ahH, e]
    have z1 : ahd tx n l (0 + 1) b = [kTok 1020] := by simp [ahd, ahH, e]
    have z2 : ahd tx n l (0 + 1 + 1) c = [kTok 1010] := by simp [ahd, ahH, e]
    show (cst false (ahd tx n l 0 a) + (cst false (ahd tx n l (0 + 1) b) + (cst false (ahd tx n l (0 + 1 + 1) c) + 0))) = _
    rw [z0, z1, z2]
    decide
  have c1 : clS pk r l (fLn ch) = [] := by simp [clS, e]
  have cc : cst false [] = 0 := rfl
  have ow : tOw l (fLn ch) = 12 := by simp [tOw, e]
  rw [o1, if_pos (show l.1 < 30 by omega), c1, if_neg (show ¬ (l.1 = 41 ∧ fK0 ch = 33) by omega), if_neg (show ¬ (l.1 = 46 ∧ lbC l = 14) by omega), ow]
  omega
theorem OW_11 {l : tLb} {ch : tF} (ht : tOk tx n) (g1 : gT tx n l) (g2 : gC l.1 (fK ch)) (e : l.1 = 11) : OW tx n l ch := by
  intro pk r
  have ln := g1.2.1
  have fk := fK_len ch
  have fl := fLn_0 ch
  have o1 : opn tx n l (fK0 ch) = [kTok 1025] ++ xTk tx n l false := by simp [opn, opS, opH, e]
  have oc := (xC (tx := tx) (n := n) ln false).1
  have oc2 := cst_af [kTok 1025] (xTk tx n l false)
  have oc3 : cst false [kTok 1025] = 9 := by decide
  have em : fK ch = [] := by
    unfold gC at g2
    rw [e] at g2
    exact g2
  have a1 : aS tx n l 0 (fK ch) = 0 := by rw [em]; rfl
  have c1 : clS pk r l (fLn ch) = [kTok 1013] := by simp [clS, e]
  have cc : cst false ([kTok 1013]) = 1 := by decide
  have ow : tOw l (fLn ch) = 17 + 2 * lbN l := by simp [tOw, e]
  rw [o1, if_pos (show l.1 < 30 by omega), c1, if_neg (show ¬ (l.1 = 41 ∧ fK0 ch = 33) by omega), if_neg (show ¬ (l.1 = 46 ∧ lbC l = 14) by omega), ow]
  omega
theorem OW_12 {l : tLb} {ch : tF} (ht : tOk tx n) (g1 : gT tx n l) (g2 : gC l.1 (fK ch)) (e : l.1 = 12) : OW tx n l ch := by
  intro pk r
  have ln := g1.2.1
  have fk := fK_len ch
  have fl := fLn_0 ch
  have o1 : opn tx n l (fK0 ch) = [kTok 1026] ++ xTk tx n l false := by simp [opn, opS, opH, e]
  have oc := (xC (tx := tx) (n := n) ln false).1
  have oc2 := cst_af [kTok 1026] (xTk tx n l false)
  have oc3 : cst false [kTok 1026] = 6 := by decide
  have em : fK ch = [] := by
    unfold gC at g2
    rw [e] at g2
    exact g2
  have a1 : aS tx n l 0 (fK ch) = 0 := by rw [em]; rfl
  have c1 : clS pk r l (fLn ch) = [kTok 1013] := by simp [clS, e]
  have cc : cst false ([kTok 1013]) = 1 := by decide
  have ow : tOw l (fLn ch) = 11 + 2 * lbN l := by simp [tOw, e]
  rw [o1, if_pos (show l.1 < 30 by omega), c1, if_neg (show ¬ (l.1 = 41 ∧ fK0 ch = 33) by omega), if_neg (show ¬ (l.1 = 46 ∧ lbC l = 14) by omega), ow]
  omega
theorem OW_13 {l : tLb} {ch : tF} (ht : tOk tx n) (g1 : gT tx n l) (g2 : gC l.1 (fK ch)) (e : l.1 = 13) : OW tx n l ch := by
  intro pk r
  have ln := g1.2.1
  have fk := fK_len ch
  have fl := fLn_0 ch
  have o1 : opn tx n l (fK0 ch) = [kTok 1027] := by simp [opn, opS, opH, e]
  have oc : cst false ([kTok 1027]) = 7 := by decide
  have g2' : fK ch = [] ∨ ∃ a, fK ch = [a] ∧ isE a := by
    unfold gC at g2
    rw [e] at g2
    exact g2
  have a1 : aS tx n l 0 (fK ch) = 0 := by
    rcases g2' with em | ⟨a, em, -⟩
    · rw [em]
      rfl
    · rw [em]
      have z0 : ahd tx n l 0 a = [] := by simp [ahd, ahH, e]
      show cst false (ahd tx n l 0 a) + 0 = _
      rw [z0]
      decide
  have c1 : clS pk r l (fLn ch) = [kTok 1013] := by simp [clS, e]
  have cc : cst false ([kTok 1013]) = 1 := by decide
  have ow : tOw l (fLn ch) = 13 := by simp [tOw, e]
  rw [o1, if_pos (show l.1 < 30 by omega), c1, if_neg (show ¬ (l.1 = 41 ∧ fK0 ch = 33) by omega), if_neg (show ¬ (l.1 = 46 ∧ lbC l = 14) by omega), ow]
  omega
theorem OW_14 {l : tLb} {ch : tF} (ht : tOk tx n) (g1 : gT tx n l) (g2 : gC l.1 (fK ch)) (e : l.1 = 14) : OW tx n l ch := by
  intro pk r
  have ln := g1.2.1
  have fk := fK_len ch
  have fl := fLn_0 ch
  have o1 : opn tx n l (fK0 ch) = [kTok 1035, kTok 1009] := by simp [opn, opS, opH, e]
  have oc : cst false ([kTok 1035, kTok 1009]) = 8 := by decide
  have g2' : ∃ a r, fK ch = a :: r ∧ isE a ∧ ∀ x ∈ r, x = 15 := by
    unfold gC at g2
    rw [e] at g2
    exact g2
  obtain ⟨a, q, em, -, -⟩ := g2'
  have a1 : aS tx n l 0 (fK ch) ≤ 2 := by
    rw [em]
    have z0 : ahd tx n l 0 a = [] := by simp [ahd, ahH, e]
    show cst false (ahd tx n l 0 a) + aS tx n l (0 + 1) q ≤ 2
    rw [z0]
    cases q with
    | nil => exact (by decide : (0 : Int) + 0 ≤ 2)
    | cons b q =>
      have z1 : ahd tx n l (0 + 1) b = [kTok 1010, kTok 1011] := by simp [ahd, ahH, e]
      have zr : aS tx n l (0 + 1 + 1) q = 0 := by
        have : ∀ (m : List Int) (r : Int), 2 ≤ r → aS tx n l r m = 0 := by
          intro m
          induction m with
          | nil => intro r _; rfl
          | cons k m ih =>
            intro r hr
            have r1 : ¬ r = 1 := by omega
            have z : ahd tx n l r k = [] := by simp [ahd, ahH, e, r1]
            show cst false (ahd tx n l r k) + aS tx n l (r + 1) m = 0
            rw [z, ih (r + 1) (by omega)]
            rfl
        exact this q _ (by decide)
      show cst false [] + (cst false (ahd tx n l (0 + 1) b) + aS tx n l (0 + 1 + 1) q) ≤ 2
      rw [z1, zr]
      decide
  have cc : cst false (clS pk r l (fLn ch)) ≤ 3 := by
    have : clS pk r l (fLn ch) = if fLn ch = 1 then [kTok 1010, kTok 1011, kTok 1007] else [kTok 1007] := by simp [clS, e]
    rw [this]
    split <;> decide
  have ow : tOw l (fLn ch) = 16 := by simp [tOw, e]
  rw [o1, if_pos (show l.1 < 30 by omega), if_neg (show ¬ (l.1 = 41 ∧ fK0 ch = 33) by omega), if_neg (show ¬ (l.1 = 46 ∧ lbC l = 14) by omega), ow]
  omega
theorem OW_15 {l : tLb} {ch : tF} (ht : tOk tx n) (g1 : gT tx n l) (g2 : gC l.1 (fK ch)) (e : l.1 = 15) : OW tx n l ch := by
  intro pk r
  have ln := g1.2.1
  have fk := fK_len ch
  have fl := fLn_0 ch
  have oc : cst false (opn tx n l (fK0 ch)) ≤ 8 := by
    have : opn tx n l (fK0 ch) = if fK0 ch = 21 then [kTok 1028] else [kTok 1029] := by simp [opn, opS, e]
    rw [this]
    split <;> decide
  have g2' : ∃ a r, fK ch = a :: r ∧ (isE a ∨ a = 21) ∧ ∀ x ∈ r, isS x := by
    unfold gC at g2
    rw [e] at g2
    exact g2
  obtain ⟨a, q, em, -, -⟩ := g2'
  have a1 : aS tx n l 0 (fK ch) ≤ if fLn ch = 1 then 0 else 1 := by
    rw [em] at fk ⊢
    have z0 : ahd tx n l 0 a = [] := by simp [ahd, e]
    show cst false (ahd tx n l 0 a) + aS tx n l (0 + 1) q ≤ _
    rw [z0]
    cases q with
    | nil =>
      have : fLn ch = 1 := by simp at fk; omega
      rw [if_pos this]
      exact (by decide : (0 : Int) + 0 ≤ 0)
    | cons b q =>
      have : ¬ fLn ch = 1 := by simp at fk; omega
      rw [if_neg this]
      have z1 : ahd tx n l (0 + 1) b = [kTok 1012] := by simp [ahd, e]
      have zr : aS tx n l (0 + 1 + 1) q = 0 := by
        have : ∀ (m : List Int) (r : Int), 2 ≤ r → aS tx n l r m = 0 := by
          intro m
          induction m with
          | nil => intro r _; rfl
          | cons k m ih =>
            intro r hr
            have r1 : ¬ r = 1 := by omega
            have z : ahd tx n l r k = [] := by simp [ahd, e, r1]
            show cst false (ahd tx n l r k) + aS tx n l (r + 1) m = 0
            rw [z, ih (r + 1) (by omega)]
            rfl
        exact this q _ (by decide)
      show cst false [] + (cst false (ahd tx n l (0 + 1) b) + aS tx n l (0 + 1 + 1) q) ≤ 1
      rw [z1, zr]
      decide
  have cc : cst false (clS pk r l (fLn ch)) = if fLn ch = 1 then 1 else 0 := by
    have : clS pk r l (fLn ch) = if fLn ch = 1 then [kTok 1012] else [] := by simp [clS, e]
    rw [this]
    split <;> decide
  have ow : tOw l (fLn ch) = 9 := by simp [tOw, e]
  rw [if_pos (show l.1 < 30 by omega), if_neg (show ¬ (l.1 = 41 ∧ fK0 ch = 33) by omega), if_neg (show ¬ (l.1 = 46 ∧ lbC l = 14) by omega), ow]
  by_cases h : fLn ch = 1
  · rw [if_pos h] at cc a1
    omega
  · rw [if_neg h] at cc a1
    omega
theorem OW_16 {l : tLb} {ch : tF} (ht : tOk tx n) (g1 : gT tx n l) (g2 : gC l.1 (fK ch)) (e : l.1 = 16) : OW tx n l ch := by
  intro pk r
  have ln := g1.2.1
  have fk := fK_len ch
  have fl := fLn_0 ch
  have o1 : opn tx n l (fK0 ch) = xTk tx n l false ++ [kTok 1012] := by simp [opn, opS, opH, e]
  have oc := (xC (tx := tx) (n := n) ln false).1
  have oc2 := cst_af (xTk tx n l false) [kTok 1012]
  have oc3 : cst false [kTok 1012] = 1 := by decide
  have g2' : ∃ a, fK ch = [a] ∧ isS a := by
    unfold gC at g2
    rw [e] at g2
    exact g2
  obtain ⟨a, em, -⟩ := g2'
  have a1 : aS tx n l 0 (fK ch) = 0 := by
    rw [em]
    have z0 : ahd tx n l 0 a = [] := by simp [ahd, ahH, e]
    show (cst false (ahd tx n l 0 a) + 0) = _
    rw [z0]
    decide
  have c1 : clS pk r l (fLn ch) = [] := by simp [clS, e]
  have cc : cst false [] = 0 := rfl
  have ln1 := gT_len ht g1 (by omega)
  have ow : tOw l (fLn ch) = 2 * lbN l + 1 := by simp [tOw, e]
  rw [o1, if_pos (show l.1 < 30 by omega), c1, if_neg (show ¬ (l.1 = 41 ∧ fK0 ch = 33) by omega), if_neg (show ¬ (l.1 = 46 ∧ lbC l = 14) by omega), ow]
  omega
theorem OW_17 {l : tLb} {ch : tF} (ht : tOk tx n) (g1 : gT tx n l) (g2 : gC l.1 (fK ch)) (e : l.1 = 17) : OW tx n l ch := by
  intro pk r
  have ln := g1.2.1
  have fk := fK_len ch
  have fl := fLn_0 ch
  have o1 : opn tx n l (fK0 ch) = [kTok 1030] := by simp [opn, opS, opH, e]
  have oc : cst false ([kTok 1030]) = 6 := by decide
  have g2' : ∃ a, fK ch = [a] ∧ isE a := by
    unfold gC at g2
    rw [e] at g2
    exact g2
  obtain ⟨a, em, -⟩ := g2'
  have a1 : aS tx n l 0 (fK ch) = 0 := by
    rw [em]
    have z0 : ahd tx n l 0 a = [] := by simp [ahd, ahH, e]
    show (cst false (ahd tx n l 0 a) + 0) = _
    rw [z0]
    decide
  have c1 : clS pk r l (fLn ch) = [kTok 1013] := by simp [clS, e]
  have cc : cst false ([kTok 1013]) = 1 := by decide
  have ow : tOw l (fLn ch) = 11 := by simp [tOw, e]
  rw [o1, if_pos (show l.1 < 30 by omega), c1, if_neg (show ¬ (l.1 = 41 ∧ fK0 ch = 33) by omega), if_neg (show ¬ (l.1 = 46 ∧ lbC l = 14) by omega), ow]
  omega
theorem OW_18 {l : tLb} {ch : tF} (ht : tOk tx n) (g1 : gT tx n l) (g2 : gC l.1 (fK ch)) (e : l.1 = 18) : OW tx n l ch := by
  intro pk r
  have ln := g1.2.1
  have fk := fK_len ch
  have fl := fLn_0 ch
  have o1 : opn tx n l (fK0 ch) = [kTok 1031] := by simp [opn, opS, opH, e]
  have oc : cst false ([kTok 1031]) = 4 := by decide
  have g2' : ∃ b c, fK ch = [1, b, c] ∧ (b = 19 ∨ b = 21) ∧ (c = 1 ∨ c = 21) := by
    unfold gC at g2
    rw [e] at g2
    exact g2
  obtain ⟨b, c, em, -, -⟩ := g2'
  have a1 : aS tx n l 0 (fK ch) ≤ 8 := by
    rw [em]
    have z0 : ahd tx n l 0 1 = [] := by simp [ahd, e]
    have z1 : ahd tx n l (0 + 1) b = [] := by simp [ahd, e]
    have z2 : ahd tx n l (0 + 1 + 1) c = if c = 1 then [kTok 1015] else [] := by simp [ahd, e]
    show cst false (ahd tx n l 0 1) + (cst false (ahd tx n l (0 + 1) b) + (cst false (ahd tx n l (0 + 1 + 1) c) + 0)) ≤ _
    rw [z0, z1, z2]
    split <;> decide
  have c1 : clS pk r l (fLn ch) = [] := by simp [clS, e]
  have cc : cst false [] = 0 := rfl
  have ow : tOw l (fLn ch) = 13 := by simp [tOw, e]
  rw [o1, if_pos (show l.1 < 30 by omega), c1, if_neg (show ¬ (l.1 = 41 ∧ fK0 ch = 33) by omega), if_neg (show ¬ (l.1 = 46 ∧ lbC l = 14) by omega), ow]
  omega
theorem OW_19 {l : tLb} {ch : tF} (ht : tOk tx n) (g1 : gT tx n l) (g2 : gC l.1 (fK ch)) (e : l.1 = 19) : OW tx n l ch := by
  intro pk r
  have ln := g1.2.1
  have fk := fK_len ch
  have fl := fLn_0 ch
  have o1 : opn tx n l (fK0 ch) = [kTok 1036] ++ ([kTok 1009] ++ (xTk tx n l false ++ [kTok 1010])) := by simp [opn, opS, opH, e]
  have oc : cst false ([kTok 1036] ++ ([kTok 1009] ++ (xTk tx n l false ++ [kTok 1010]))) ≤ 6 + (1 + (lbN l + 1)) := by
    have a1 := cst_af [kTok 1036] ([kTok 1009] ++ (xTk tx n l false ++ [kTok 1010]))
    have a2 : cst false [kTok 1036] = 6 := by decide
    have a3 : cst false ([kTok 1009] ++ (xTk tx n l false ++ [kTok 1010])) = 1 + cst true (xTk tx n l false ++ [kTok 1010]) := rfl
    have a4 := cst_at (xTk tx n l false) [kTok 1010]
    have a5 := (xC (tx := tx) (n := n) ln false).2.1
    have a6 : cst false [kTok 1010] = 1 := by decide
    omega
  have g2' : fK ch = [1] := by
    unfold gC at g2
    rw [e] at g2
    exact g2
  have em := g2'
  have a1 : aS tx n l 0 (fK ch) = 0 := by
    rw [em]
    have z0 : ahd tx n l 0 1 = [] := by simp [ahd, ahH, e]
    show (cst false (ahd tx n l 0 1) + 0) = _
    rw [z0]
    decide
  have c1 : clS pk r l (fLn ch) = [] := by simp [clS, e]
  have cc : cst false [] = 0 := rfl
  have ln1 := gT_len ht g1 (by omega)
  have ow : tOw l (fLn ch) = 7 + 2 * lbN l := by simp [tOw, e]
  rw [o1, if_pos (show l.1 < 30 by omega), c1, if_neg (show ¬ (l.1 = 41 ∧ fK0 ch = 33) by omega), if_neg (show ¬ (l.1 = 46 ∧ lbC l = 14) by omega), ow]
  omega
theorem OW_20 {l : tLb} {ch : tF} (ht : tOk tx n) (g1 : gT tx n l) (g2 : gC l.1 (fK ch)) (e : l.1 = 20) : OW tx n l ch := by
  intro pk r
  have ln := g1.2.1
  have fk := fK_len ch
  have fl := fLn_0 ch
  have o1 : opn tx n l (fK0 ch) = [kTok 1022] ++ (xTk tx n l false ++ [kTok 1009]) := by simp [opn, opS, opH, e]
  have oc := (xC (tx := tx) (n := n) ln false).1
  have oc2 := cst_af [kTok 1022] (xTk tx n l false ++ [kTok 1009])
  have oc3 : cst false [kTok 1022] = 9 := by decide
  have oc4 := cst_af (xTk tx n l false) [kTok 1009]
  have oc5 : cst false [kTok 1009] = 1 := by decide
  have a1 := aS_le (tx := tx) (n := n) (l := l) (fun r k hr => by
    have : ahd tx n l r k = if k = 23 then [kTok 1010] else if 0 < r then [kTok 1005] else [] := by simp [ahd, e]
    rw [this]
    split
    · decide
    · split <;> decide) (fK ch) 0 (by decide)
  have c1 : clS pk r l (fLn ch) = [] := by simp [clS, e]
  have cc : cst false [] = 0 := rfl
  have ow : tOw l (fLn ch) = 18 + 2 * lbN l + fLn ch := by simp [tOw, e]
  rw [o1, if_pos (show l.1 < 30 by omega), c1, if_neg (show ¬ (l.1 = 41 ∧ fK0 ch = 33) by omega), if_neg (show ¬ (l.1 = 46 ∧ lbC l = 14) by omega), ow]
  rw [fk] at a1
  omega
theorem OW_21 {l : tLb} {ch : tF} (ht : tOk tx n) (g1 : gT tx n l) (g2 : gC l.1 (fK ch)) (e : l.1 = 21) : OW tx n l ch := by
  intro pk r
  have ln := g1.2.1
  have fk := fK_len ch
  have fl := fLn_0 ch
  have o1 : opn tx n l (fK0 ch) = [] := by simp [opn, opS, opH, e]
  have oc : cst false [] = 0 := rfl
  have em : fK ch = [] := by
    unfold gC at g2
    rw [e] at g2
    exact g2
  have a1 : aS tx n l 0 (fK ch) = 0 := by rw [em]; rfl
  have c1 : clS pk r l (fLn ch) = [] := by simp [clS, e]
  have cc : cst false [] = 0 := rfl
  have ow : tOw l (fLn ch) = 0 := by simp [tOw, e]
  rw [o1, if_pos (show l.1 < 30 by omega), c1, if_neg (show ¬ (l.1 = 41 ∧ fK0 ch = 33) by omega), if_neg (show ¬ (l.1 = 46 ∧ lbC l = 14) by omega), ow]
  omega
theorem OW_22 {l : tLb} {ch : tF} (ht : tOk tx n) (g1 : gT tx n l) (g2 : gC l.1 (fK ch)) (e : l.1 = 22) : OW tx n l ch := by
  intro pk r
  have ln := g1.2.1
  have fk := fK_len ch
  have fl := fLn_0 ch
  have o1 : opn tx n l (fK0 ch) = xTk tx n l false := by simp [opn, opS, opH, e]
  have oc := (xC (tx := tx) (n := n) ln false).1
  have em : fK ch = [] := by
    unfold gC at g2
    rw [e] at g2
    exact g2
  have a1 : aS tx n l 0 (fK ch) = 0 := by rw [em]; rfl
  have c1 : clS pk r l (fLn ch) = [] := by simp [clS, e]
  have cc : cst false [] = 0 := rfl
  have ln1 := gT_len ht g1 (by omega)
  have ow : tOw l (fLn ch) = 2 * lbN l := by simp [tOw, e]
  rw [o1, if_pos (show l.1 < 30 by omega), c1, if_neg (show ¬ (l.1 = 41 ∧ fK0 ch = 33) by omega), if_neg (show ¬ (l.1 = 46 ∧ lbC l = 14) by omega), ow]
  omega
theorem OW_23 {l : tLb} {ch : tF} (ht : tOk tx n) (g1 : gT tx n l) (g2 : gC l.1 (fK ch)) (e : l.1 = 23) : OW tx n l ch := by
  intro pk r
  have ln := g1.2.1
  have fk := fK_len ch
  have fl := fLn_0 ch
  have o1 : opn tx n l (fK0 ch) = [kTok 1011] := by simp [opn, opS, opH, e]
  have oc : cst false ([kTok 1011]) = 1 := by decide
  have a1 := aS_0 (tx := tx) (n := n) (l := l) (fun r k _ => by simp [ahd, ahH, e]) (fK ch) 0 (by decide)
  have c1 : clS pk r l (fLn ch) = [kTok 1007] := by simp [clS, e]
  have cc : cst false ([kTok 1007]) = 1 := by decide
  have ow : tOw l (fLn ch) = 3 := by simp [tOw, e]
  rw [o1, if_pos (show l.1 < 30 by omega), c1, if_neg (show ¬ (l.1 = 41 ∧ fK0 ch = 33) by omega), if_neg (show ¬ (l.1 = 46 ∧ lbC l = 14) by omega), ow]
  omega
theorem OW_30 {l : tLb} {ch : tF} (ht : tOk tx n) (g1 : gT tx n l) (g2 : gC l.1 (fK ch)) (e : l.1 = 30) : OW tx n l ch := by
  intro pk r
  have ln := g1.2.1
  have fk := fK_len ch
  have fl := fLn_0 ch
  have o1 : opn tx n l (fK0 ch) = [kTok 1021] := by simp [opn, opE, e]
  have oc : cst false ([kTok 1021]) = 5 := by decide
  have em : fK ch = [] := by
    unfold gC at g2
    rw [e] at g2
    exact g2
  have a1 : aS tx n l 0 (fK ch) = 0 := by rw [em]; rfl
  have c1 : clE tx n l (fLn ch) (nlF ch) = [] := by simp [clE, e]
  have cc : cst false [] = 0 := rfl
  have ow : tOw l (fLn ch) = 8 := by simp [tOw, e]
  rw [o1, if_neg (show ¬ l.1 < 30 by omega), c1, if_neg (show ¬ (l.1 = 41 ∧ fK0 ch = 33) by omega), if_neg (show ¬ (l.1 = 46 ∧ lbC l = 14) by omega), ow]
  omega
theorem OW_31 {l : tLb} {ch : tF} (ht : tOk tx n) (g1 : gT tx n l) (g2 : gC l.1 (fK ch)) (e : l.1 = 31) : OW tx n l ch := by
  intro pk r
  have ln := g1.2.1
  have fk := fK_len ch
  have fl := fLn_0 ch
  have o1 : opn tx n l (fK0 ch) = xTk tx n l false := by simp [opn, opE, e]
  have oc := (xC (tx := tx) (n := n) ln false).1
  have em : fK ch = [] := by
    unfold gC at g2
    rw [e] at g2
    exact g2
  have a1 : aS tx n l 0 (fK ch) = 0 := by rw [em]; rfl
  have c1 : clE tx n l (fLn ch) (nlF ch) = [] := by simp [clE, e]
  have cc : cst false [] = 0 := rfl
  have ln1 := gT_len ht g1 (by omega)
  have ow : tOw l (fLn ch) = 2 * lbN l := by simp [tOw, e]
  rw [o1, if_neg (show ¬ l.1 < 30 by omega), c1, if_neg (show ¬ (l.1 = 41 ∧ fK0 ch = 33) by omega), if_neg (show ¬ (l.1 = 46 ∧ lbC l = 14) by omega), ow]
  omega
theorem OW_32 {l : tLb} {ch : tF} (ht : tOk tx n) (g1 : gT tx n l) (g2 : gC l.1 (fK ch)) (e : l.1 = 32) : OW tx n l ch := by
  intro pk r
  have ln := g1.2.1
  have fk := fK_len ch
  have fl := fLn_0 ch
  have o1 : opn tx n l (fK0 ch) = xTk tx n l false := by simp [opn, opE, e]
  have oc := (xC (tx := tx) (n := n) ln false).1
  have em : fK ch = [] := by
    unfold gC at g2
    rw [e] at g2
    exact g2
  have a1 : aS tx n l 0 (fK ch) = 0 := by rw [em]; rfl
  have c1 : clE tx n l (fLn ch) (nlF ch) = [] := by simp [clE, e]
  have cc : cst false [] = 0 := rfl
  have ln1 := gT_len ht g1 (by omega)
  have ow : tOw l (fLn ch) = 2 * lbN l := by simp [tOw, e]
  rw [o1, if_neg (show ¬ l.1 < 30 by omega), c1, if_neg (show ¬ (l.1 = 41 ∧ fK0 ch = 33) by omega), if_neg (show ¬ (l.1 = 46 ∧ lbC l = 14) by omega), ow]
  omega
theorem OW_33 {l : tLb} {ch : tF} (ht : tOk tx n) (g1 : gT tx n l) (g2 : gC l.1 (fK ch)) (e : l.1 = 33) : OW tx n l ch := by
  intro pk r
  have ln := g1.2.1
  have fk := fK_len ch
  have fl := fLn_0 ch
  have o1 : opn tx n l (fK0 ch) = xTk tx n l true := by simp [opn, opE, e]
  have oc := (xC (tx := tx) (n := n) ln true).1
  have em : fK ch = [] := by
    unfold gC at g2
    rw [e] at g2
    exact g2
  have a1 : aS tx n l 0 (fK ch) = 0 := by rw [em]; rfl
  have c1 : clE tx n l (fLn ch) (nlF ch) = [] := by simp [clE, e]
  have cc : cst false [] = 0 := rfl
  have ln1 := gT_len ht g1 (by omega)
  have ow : tOw l (fLn ch) = 2 * lbN l := by simp [tOw, e]
  rw [o1, if_neg (show ¬ l.1 < 30 by omega), c1, if_neg (show ¬ (l.1 = 41 ∧ fK0 ch = 33) by omega), if_neg (show ¬ (l.1 = 46 ∧ lbC l = 14) by omega), ow]
  omega
theorem OW_34 {l : tLb} {ch : tF} (ht : tOk tx n) (g1 : gT tx n l) (g2 : gC l.1 (fK ch)) (e : l.1 = 34) : OW tx n l ch := by
  intro pk r
  have ln := g1.2.1
  have fk := fK_len ch
  have fl := fLn_0 ch
  have o1 : opn tx n l (fK0 ch) = xTk tx n l false := by simp [opn, opE, e]
  have oc := (xC (tx := tx) (n := n) ln false).1
  have em : fK ch = [] := by
    unfold gC at g2
    rw [e] at g2
    exact g2
  have a1 : aS tx n l 0 (fK ch) = 0 := by rw [em]; rfl
  have c1 : clE tx n l (fLn ch) (nlF ch) = [] := by simp [clE, e]
  have cc : cst false [] = 0 := rfl
  have ln1 := gT_len ht g1 (by omega)
  have ow : tOw l (fLn ch) = 2 * lbN l := by simp [tOw, e]
  rw [o1, if_neg (show ¬ l.1 < 30 by omega), c1, if_neg (show ¬ (l.1 = 41 ∧ fK0 ch = 33) by omega), if_neg (show ¬ (l.1 = 46 ∧ lbC l = 14) by omega), ow]
  omega
theorem OW_35 {l : tLb} {ch : tF} (ht : tOk tx n) (g1 : gT tx n l) (g2 : gC l.1 (fK ch)) (e : l.1 = 35) : OW tx n l ch := by
  intro pk r
  have ln := g1.2.1
  have fk := fK_len ch
  have fl := fLn_0 ch
  have o1 : opn tx n l (fK0 ch) = xTk tx n l true := by simp [opn, opE, e]
  have oc := (xC (tx := tx) (n := n) ln true).1
  have em : fK ch = [] := by
    unfold gC at g2
    rw [e] at g2
    exact g2
  have a1 : aS tx n l 0 (fK ch) = 0 := by rw [em]; rfl
  have c1 : clE tx n l (fLn ch) (nlF ch) = [] := by simp [clE, e]
  have cc : cst false [] = 0 := rfl
  have ln1 := gT_len ht g1 (by omega)
  have ow : tOw l (fLn ch) = 2 * lbN l := by simp [tOw, e]
  rw [o1, if_neg (show ¬ l.1 < 30 by omega), c1, if_neg (show ¬ (l.1 = 41 ∧ fK0 ch = 33) by omega), if_neg (show ¬ (l.1 = 46 ∧ lbC l = 14) by omega), ow]
  omega
theorem OW_36 {l : tLb} {ch : tF} (ht : tOk tx n) (g1 : gT tx n l) (g2 : gC l.1 (fK ch)) (e : l.1 = 36) : OW tx n l ch := by
  intro pk r
  have ln := g1.2.1
  have fk := fK_len ch
  have fl := fLn_0 ch
  have o1 : opn tx n l (fK0 ch) = [kTok 1016] := by simp [opn, opE, e]
  have oc : cst false ([kTok 1016]) = 1 := by decide
  have a1 := aS_c (tx := tx) (n := n) (l := l) (fun r k hr => by
    have : ahd tx n l r k = if 0 < r then [kTok 1005] else [] := by simp [ahd, e]
    rw [this]
    split <;> decide) (fun k => by simp [ahd, e]) (fK ch)
  have cc : cst false (clE tx n l (fLn ch) (nlF ch)) ≤ if nlF ch = true then 2 else 1 := by
    have : clE tx n l (fLn ch) (nlF ch) = (if nlF ch = true then [kTok 1005] else []) ++ [kTok 1006] := by simp [clE, e]
    rw [this]
    split <;> decide
  have ow : tOw l (fLn ch) = 3 + fLn ch := by simp [tOw, e]
  rw [o1, if_neg (show ¬ l.1 < 30 by omega), if_neg (show ¬ (l.1 = 41 ∧ fK0 ch = 33) by omega), if_neg (show ¬ (l.1 = 46 ∧ lbC l = 14) by omega), ow]
  have nl : nlF ch = true → 1 ≤ fLn ch := fun z => by
    cases ch with
    | leaf => cases z
    | inner x l1 u c re =>
      have := fLn_0 re
      show 1 ≤ 1 + fLn re
      omega
  rw [fk] at a1
  by_cases h : nlF ch = true
  · have := nl h
    have := a1.2 this
    rw [if_pos h] at cc
    omega
  · rw [if_neg h] at cc
    omega
theorem OW_37 {l : tLb} {ch : tF} (ht : tOk tx n) (g1 : gT tx n l) (g2 : gC l.1 (fK ch)) (e : l.1 = 37) : OW tx n l ch := by
  intro pk r
  have ln := g1.2.1
  have fk := fK_len ch
  have fl := fLn_0 ch
  have o1 : opn tx n l (fK0 ch) = [kTok 1011] := by simp [opn, opE, e]
  have oc : cst false ([kTok 1011]) = 1 := by decide
  have a1 := aS_c (tx := tx) (n := n) (l := l) (fun r k hr => by
    have : ahd tx n l r k = if 0 < r then [kTok 1005] else [] := by simp [ahd, e]
    rw [this]
    split <;> decide) (fun k => by simp [ahd, e]) (fK ch)
  have c1 : clE tx n l (fLn ch) (nlF ch) = [kTok 1007] := by simp [clE, e]
  have cc : cst false ([kTok 1007]) = 1 := by decide
  have ow : tOw l (fLn ch) = 4 + fLn ch := by simp [tOw, e]
  rw [o1, if_neg (show ¬ l.1 < 30 by omega), c1, if_neg (show ¬ (l.1 = 41 ∧ fK0 ch = 33) by omega), if_neg (show ¬ (l.1 = 46 ∧ lbC l = 14) by omega), ow]
  rw [fk] at a1
  omega
theorem OW_38 {l : tLb} {ch : tF} (ht : tOk tx n) (g1 : gT tx n l) (g2 : gC l.1 (fK ch)) (e : l.1 = 38) : OW tx n l ch := by
  intro pk r
  have ln := g1.2.1
  have fk := fK_len ch
  have fl := fLn_0 ch
  have o1 : opn tx n l (fK0 ch) = xTk tx n l false ++ [kTok 1012] := by simp [opn, opE, e]
  have oc := (xC (tx := tx) (n := n) ln false).1
  have oc2 := cst_af (xTk tx n l false) [kTok 1012]
  have oc3 : cst false [kTok 1012] = 1 := by decide
  have g2' : ∃ a, fK ch = [a] ∧ isE a := by
    unfold gC at g2
    rw [e] at g2
    exact g2
  obtain ⟨a, em, -⟩ := g2'
  have a1 : aS tx n l 0 (fK ch) = 0 := by
    rw [em]
    have z0 : ahd tx n l 0 a = [] := by simp [ahd, ahH, e]
    show (cst false (ahd tx n l 0 a) + 0) = _
    rw [z0]
    decide
  have c1 : clE tx n l (fLn ch) (nlF ch) = [] := by simp [clE, e]
  have cc : cst false [] = 0 := rfl
  have ln1 := gT_len ht g1 (by omega)
  have ow : tOw l (fLn ch) = 2 * lbN l + 1 := by simp [tOw, e]
  rw [o1, if_neg (show ¬ l.1 < 30 by omega), c1, if_neg (show ¬ (l.1 = 41 ∧ fK0 ch = 33) by omega), if_neg (show ¬ (l.1 = 46 ∧ lbC l = 14) by omega), ow]
  omega
theorem OW_39 {l : tLb} {ch : tF} (ht : tOk tx n) (g1 : gT tx n l) (g2 : gC l.1 (fK ch)) (e : l.1 = 39) : OW tx n l ch := by
  intro pk r
  have ln := g1.2.1
  have fk := fK_len ch
  have fl := fLn_0 ch
  have o1 : opn tx n l (fK0 ch) = [kTok 1022] ++ (xTk tx n l false ++ [kTok 1009]) := by simp [opn, opE, e]
  have oc := (xC (tx := tx) (n := n) ln false).1
  have oc2 := cst_af [kTok 1022] (xTk tx n l false ++ [kTok 1009])
  have oc3 : cst false [kTok 1022] = 9 := by decide
  have oc4 := cst_af (xTk tx n l false) [kTok 1009]
  have oc5 : cst false [kTok 1009] = 1 := by decide
  have a1 := aS_le (tx := tx) (n := n) (l := l) (fun r k hr => by
    have : ahd tx n l r k = if k = 23 then [kTok 1010] else if 0 < r then [kTok 1005] else [] := by simp [ahd, e]
    rw [this]
    split
    · decide
    · split <;> decide) (fK ch) 0 (by decide)
  have c1 : clE tx n l (fLn ch) (nlF ch) = [] := by simp [clE, e]
  have cc : cst false [] = 0 := rfl
  have ow : tOw l (fLn ch) = 18 + 2 * lbN l + fLn ch := by simp [tOw, e]
  rw [o1, if_neg (show ¬ l.1 < 30 by omega), c1, if_neg (show ¬ (l.1 = 41 ∧ fK0 ch = 33) by omega), if_neg (show ¬ (l.1 = 46 ∧ lbC l = 14) by omega), ow]
  rw [fk] at a1
  omega
theorem OW_40 {l : tLb} {ch : tF} (ht : tOk tx n) (g1 : gT tx n l) (g2 : gC l.1 (fK ch)) (e : l.1 = 40) : OW tx n l ch := by
  intro pk r
  have ln := g1.2.1
  have fk := fK_len ch
  have fl := fLn_0 ch
  have o1 : opn tx n l (fK0 ch) = [] := by simp [opn, opE, e]
  have oc : cst false [] = 0 := rfl
  have g2' : ∃ a b, fK ch = [a, b] ∧ isE a ∧ isE b := by
    unfold gC at g2
    rw [e] at g2
    exact g2
  obtain ⟨a, b, em, -⟩ := g2'
  have a1 : aS tx n l 0 (fK ch) = 1 := by
    rw [em]
    have z0 : ahd tx n l 0 a = [] := by simp [ahd, ahH, e]
    have z1 : ahd tx n l (0 + 1) b = [kTok 1016] := by simp [ahd, ahH, e]
    show (cst false (ahd tx n l 0 a) + (cst false (ahd tx n l (0 + 1) b) + 0)) = _
    rw [z0, z1]
    decide
  have c1 : clE tx n l (fLn ch) (nlF ch) = [kTok 1006] := by simp [clE, e]
  have cc : cst false ([kTok 1006]) = 1 := by decide
  have ow : tOw l (fLn ch) = 4 := by simp [tOw, e]
  rw [o1, if_neg (show ¬ l.1 < 30 by omega), c1, if_neg (show ¬ (l.1 = 41 ∧ fK0 ch = 33) by omega), if_neg (show ¬ (l.1 = 46 ∧ lbC l = 14) by omega), ow]
  omega
theorem OW_41 {l : tLb} {ch : tF} (ht : tOk tx n) (g1 : gT tx n l) (g2 : gC l.1 (fK ch)) (e : l.1 = 41) : OW tx n l ch := by
  intro pk r
  have ln := g1.2.1
  have fk := fK_len ch
  have fl := fLn_0 ch
  have o1 : opn tx n l (fK0 ch) = [] := by simp [opn, opE, e]
  have oc : cst false [] = 0 := rfl
  have g2' : ∃ a, fK ch = [a] ∧ isE a := by
    unfold gC at g2
    rw [e] at g2
    exact g2
  obtain ⟨a, em, -⟩ := g2'
  have a1 : aS tx n l 0 (fK ch) = 0 := by
    rw [em]
    have z0 : ahd tx n l 0 a = [] := by simp [ahd, ahH, e]
    show (cst false (ahd tx n l 0 a) + 0) = _
    rw [z0]
    decide
  have c1 : clE tx n l (fLn ch) (nlF ch) = [kTok 1008] ++ xTk tx n l false := by simp [clE, e]
  have cc : cst false ([kTok 1008] ++ xTk tx n l false) ≤ 1 + lbN l := by
    have a3 : cst false ([kTok 1008] ++ xTk tx n l false) = 1 + cst true (xTk tx n l false) := rfl
    have a5 := (xC (tx := tx) (n := n) ln false).2.1
    omega
  have x41 : (if l.1 = 41 ∧ fK0 ch = 33 then (2 : Int) else 0) ≤ 2 := by split <;> decide
  have ln1 := gT_len ht g1 (by omega)
  have ow : tOw l (fLn ch) = 2 + 2 * lbN l := by simp [tOw, e]
  rw [o1, if_neg (show ¬ l.1 < 30 by omega), c1, if_neg (show ¬ (l.1 = 46 ∧ lbC l = 14) by omega), ow]
  omega
theorem OW_42 {l : tLb} {ch : tF} (ht : tOk tx n) (g1 : gT tx n l) (g2 : gC l.1 (fK ch)) (e : l.1 = 42) : OW tx n l ch := by
  intro pk r
  have ln := g1.2.1
  have fk := fK_len ch
  have fl := fLn_0 ch
  have o1 : opn tx n l (fK0 ch) = [kTok 1023] := by simp [opn, opE, e]
  have oc : cst false ([kTok 1023]) = 4 := by decide
  have a1 := aS_c (tx := tx) (n := n) (l := l) (fun r k hr => by
    have : ahd tx n l r k = if 0 < r then (if r = 1 then [kTok 1009] else [kTok 1005]) else [] := by simp [ahd, e]
    rw [this]
    split
    · split <;> decide
    · decide) (fun k => by simp [ahd, e]) (fK ch)
  have m1 := (gC_m g2).2.2 (by omega)
  have cc : cst false (clE tx n l (fLn ch) (nlF ch)) = if fLn ch = 1 then 2 else 1 := by
    have : clE tx n l (fLn ch) (nlF ch) = (if fLn ch = 1 then [kTok 1009] else []) ++ [kTok 1010] := by simp [clE, e]
    rw [this]
    split <;> decide
  have ow : tOw l (fLn ch) = 4 + 2 * fLn ch := by simp [tOw, e]
  rw [o1, if_neg (show ¬ l.1 < 30 by omega), if_neg (show ¬ (l.1 = 41 ∧ fK0 ch = 33) by omega), if_neg (show ¬ (l.1 = 46 ∧ lbC l = 14) by omega), ow]
  rw [fk] at a1
  have := a1.2 m1
  by_cases h : fLn ch = 1
  · rw [if_pos h] at cc
    omega
  · rw [if_neg h] at cc
    omega
theorem OW_43 {l : tLb} {ch : tF} (ht : tOk tx n) (g1 : gT tx n l) (g2 : gC l.1 (fK ch)) (e : l.1 = 43) : OW tx n l ch := by
  intro pk r
  have ln := g1.2.1
  have fk := fK_len ch
  have fl := fLn_0 ch
  have o1 : opn tx n l (fK0 ch) = [] := by simp [opn, opE, e]
  have oc : cst false [] = 0 := rfl
  have a1 := aS_c (tx := tx) (n := n) (l := l) (fun r k hr => by
    have : ahd tx n l r k = if 0 < r then (if r = 1 then [kTok 1009] else [kTok 1005]) else [] := by simp [ahd, e]
    rw [this]
    split
    · split <;> decide
    · decide) (fun k => by simp [ahd, e]) (fK ch)
  have m1 := (gC_m g2).2.2 (by omega)
  have cc : cst false (clE tx n l (fLn ch) (nlF ch)) = if fLn ch = 1 then 2 else 1 := by
    have : clE tx n l (fLn ch) (nlF ch) = (if fLn ch = 1 then [kTok 1009] else []) ++ [kTok 1010] := by simp [clE, e]
    rw [this]
    split <;> decide
  have ow : tOw l (fLn ch) = 2 + fLn ch := by simp [tOw, e]
  rw [o1, if_neg (show ¬ l.1 < 30 by omega), if_neg (show ¬ (l.1 = 41 ∧ fK0 ch = 33) by omega), if_neg (show ¬ (l.1 = 46 ∧ lbC l = 14) by omega), ow]
  rw [fk] at a1
  have := a1.2 m1
  by_cases h : fLn ch = 1
  · rw [if_pos h] at cc
    omega
  · rw [if_neg h] at cc
    omega
theorem OW_44 {l : tLb} {ch : tF} (ht : tOk tx n) (g1 : gT tx n l) (g2 : gC l.1 (fK ch)) (e : l.1 = 44) : OW tx n l ch := by
  intro pk r
  have ln := g1.2.1
  have fk := fK_len ch
  have fl := fLn_0 ch
  have o1 : opn tx n l (fK0 ch) = [] := by simp [opn, opE, e]
  have oc : cst false [] = 0 := rfl
  have g2' : ∃ a, fK ch = [a] ∧ isE a := by
    unfold gC at g2
    rw [e] at g2
    exact g2
  obtain ⟨a, em, -⟩ := g2'
  have a1 : aS tx n l 0 (fK ch) = 0 := by
    rw [em]
    have z0 : ahd tx n l 0 a = [] := by simp [ahd, ahH, e]
    show (cst false (ahd tx n l 0 a) + 0) = _
    rw [z0]
    decide
  have c1 : clE tx n l (fLn ch) (nlF ch) = xTk tx n l false := by simp [clE, e]
  have cc := (xC (tx := tx) (n := n) ln false).1
  have ln1 := gT_len ht g1 (by omega)
  have ow : tOw l (fLn ch) = 2 * lbN l := by simp [tOw, e]
  rw [o1, if_neg (show ¬ l.1 < 30 by omega), c1, if_neg (show ¬ (l.1 = 41 ∧ fK0 ch = 33) by omega), if_neg (show ¬ (l.1 = 46 ∧ lbC l = 14) by omega), ow]
  omega
theorem OW_45 {l : tLb} {ch : tF} (ht : tOk tx n) (g1 : gT tx n l) (g2 : gC l.1 (fK ch)) (e : l.1 = 45) : OW tx n l ch := by
  intro pk r
  have ln := g1.2.1
  have fk := fK_len ch
  have fl := fLn_0 ch
  have o1 : opn tx n l (fK0 ch) = xTk tx n l false := by simp [opn, opE, e]
  have oc := (xC (tx := tx) (n := n) ln false).1
  have g2' : ∃ a, fK ch = [a] ∧ isE a := by
    unfold gC at g2
    rw [e] at g2
    exact g2
  obtain ⟨a, em, -⟩ := g2'
  have a1 : aS tx n l 0 (fK ch) = 0 := by
    rw [em]
    have z0 : ahd tx n l 0 a = [] := by simp [ahd, ahH, e]
    show (cst false (ahd tx n l 0 a) + 0) = _
    rw [z0]
    decide
  have c1 : clE tx n l (fLn ch) (nlF ch) = [] := by simp [clE, e]
  have cc : cst false [] = 0 := rfl
  have ln1 := gT_len ht g1 (by omega)
  have ow : tOw l (fLn ch) = 2 * lbN l := by simp [tOw, e]
  rw [o1, if_neg (show ¬ l.1 < 30 by omega), c1, if_neg (show ¬ (l.1 = 41 ∧ fK0 ch = 33) by omega), if_neg (show ¬ (l.1 = 46 ∧ lbC l = 14) by omega), ow]
  omega
theorem OW_46 {l : tLb} {ch : tF} (ht : tOk tx n) (g1 : gT tx n l) (g2 : gC l.1 (fK ch)) (e : l.1 = 46) : OW tx n l ch := by
  intro pk r
  have ln := g1.2.1
  have fk := fK_len ch
  have fl := fLn_0 ch
  have o1 : opn tx n l (fK0 ch) = [] := by simp [opn, opE, e]
  have oc : cst false [] = 0 := rfl
  have g2' : ∃ a b, fK ch = [a, b] ∧ isE a ∧ isE b := by
    unfold gC at g2
    rw [e] at g2
    exact g2
  obtain ⟨a, b, em, -⟩ := g2'
  have a1 : aS tx n l 0 (fK ch) ≤ lbN l + 1 := by
    rw [em]
    have z0 : ahd tx n l 0 a = [] := by simp [ahd, e]
    have z1 : ahd tx n l (0 + 1) b = xTk tx n l false := by simp [ahd, e]
    show cst false (ahd tx n l 0 a) + (cst false (ahd tx n l (0 + 1) b) + 0) ≤ _
    rw [z0, z1]
    have := (xC (tx := tx) (n := n) ln false).1
    have z : cst false [] = 0 := rfl
    omega
  have c1 : clE tx n l (fLn ch) (nlF ch) = [] := by simp [clE, e]
  have cc : cst false [] = 0 := rfl
  have xin : (if l.1 = 46 ∧ lbC l = 14 then (1 : Int) else 0) ≤ lbN l - 1 := by
    have q := (bin_tx ht g1 e).2.2.2
    split
    · omega
    · omega
  have ln1 := gT_len ht g1 (by omega)
  have ow : tOw l (fLn ch) = 2 * lbN l := by simp [tOw, e]
  rw [o1, if_neg (show ¬ l.1 < 30 by omega), c1, if_neg (show ¬ (l.1 = 41 ∧ fK0 ch = 33) by omega), ow]
  omega
theorem OW_47 {l : tLb} {ch : tF} (ht : tOk tx n) (g1 : gT tx n l) (g2 : gC l.1 (fK ch)) (e : l.1 = 47) : OW tx n l ch := by
  intro pk r
  have ln := g1.2.1
  have fk := fK_len ch
  have fl := fLn_0 ch
  have o1 : opn tx n l (fK0 ch) = [] := by simp [opn, opE, e]
  have oc : cst false [] = 0 := rfl
  have g2' : ∃ a b c, fK ch = [a, b, c] ∧ isE a ∧ isE b ∧ isE c := by
    unfold gC at g2
    rw [e] at g2
    exact g2
  obtain ⟨a, b, c, em, -⟩ := g2'
  have a1 : aS tx n l 0 (fK ch) = 2 := by
    rw [em]
    have z0 : ahd tx n l 0 a = [] := by simp [ahd, ahH, e]
    have z1 : ahd tx n l (0 + 1) b = [kTok 1017] := by simp [ahd, ahH, e]
    have z2 : ahd tx n l (0 + 1 + 1) c = [kTok 1012] := by simp [ahd, ahH, e]
    show (cst false (ahd tx n l 0 a) + (cst false (ahd tx n l (0 + 1) b) + (cst false (ahd tx n l (0 + 1 + 1) c) + 0))) = _
    rw [z0, z1, z2]
    decide
  have c1 : clE tx n l (fLn ch) (nlF ch) = [] := by simp [clE, e]
  have cc : cst false [] = 0 := rfl
  have ow : tOw l (fLn ch) = 4 := by simp [tOw, e]
  rw [o1, if_neg (show ¬ l.1 < 30 by omega), c1, if_neg (show ¬ (l.1 = 41 ∧ fK0 ch = 33) by omega), if_neg (show ¬ (l.1 = 46 ∧ lbC l = 14) by omega), ow]
  omega
theorem OW_48 {l : tLb} {ch : tF} (ht : tOk tx n) (g1 : gT tx n l) (g2 : gC l.1 (fK ch)) (e : l.1 = 48) : OW tx n l ch := by
  intro pk r
  have ln := g1.2.1
  have fk := fK_len ch
  have fl := fLn_0 ch
  have o1 : opn tx n l (fK0 ch) = [] := by simp [opn, opE, e]
  have oc : cst false [] = 0 := rfl
  have g2' : ∃ a b, fK ch = [a, b] ∧ isE a ∧ isE b := by
    unfold gC at g2
    rw [e] at g2
    exact g2
  obtain ⟨a, b, em, -⟩ := g2'
  have a1 : aS tx n l 0 (fK ch) ≤ lbN l + 1 := by
    rw [em]
    have z0 : ahd tx n l 0 a = [] := by simp [ahd, e]
    have z1 : ahd tx n l (0 + 1) b = xTk tx n l false := by simp [ahd, e]
    show cst false (ahd tx n l 0 a) + (cst false (ahd tx n l (0 + 1) b) + 0) ≤ _
    rw [z0, z1]
    have := (xC (tx := tx) (n := n) ln false).1
    have z : cst false [] = 0 := rfl
    omega
  have c1 : clE tx n l (fLn ch) (nlF ch) = [] := by simp [clE, e]
  have cc : cst false [] = 0 := rfl
  have ln1 := gT_len ht g1 (by omega)
  have ow : tOw l (fLn ch) = 2 * lbN l := by simp [tOw, e]
  rw [o1, if_neg (show ¬ l.1 < 30 by omega), c1, if_neg (show ¬ (l.1 = 41 ∧ fK0 ch = 33) by omega), if_neg (show ¬ (l.1 = 46 ∧ lbC l = 14) by omega), ow]
  omega
theorem OW_49 {l : tLb} {ch : tF} (ht : tOk tx n) (g1 : gT tx n l) (g2 : gC l.1 (fK ch)) (e : l.1 = 49) : OW tx n l ch := by
  intro pk r
  have ln := g1.2.1
  have fk := fK_len ch
  have fl := fLn_0 ch
  have o1 : opn tx n l (fK0 ch) = [] := by simp [opn, opE, e]
  have oc : cst false [] = 0 := rfl
  have a1 := aS_c (tx := tx) (n := n) (l := l) (fun r k hr => by
    have : ahd tx n l r k = if 0 < r then [kTok 1005] else [] := by simp [ahd, e]
    rw [this]
    split <;> decide) (fun k => by simp [ahd, e]) (fK ch)
  have c1 : clE tx n l (fLn ch) (nlF ch) = [] := by simp [clE, e]
  have cc : cst false [] = 0 := rfl
  have ow : tOw l (fLn ch) = 2 * fLn ch - 2 := by simp [tOw, e]
  rw [o1, if_neg (show ¬ l.1 < 30 by omega), c1, if_neg (show ¬ (l.1 = 41 ∧ fK0 ch = 33) by omega), if_neg (show ¬ (l.1 = 46 ∧ lbC l = 14) by omega), ow]
  have m2 := (gC_m g2).2.1 e
  rw [fk] at a1
  have := a1.2 (by omega)
  omega
end TXb6
