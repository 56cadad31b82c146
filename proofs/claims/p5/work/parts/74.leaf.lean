/-! ===== what the small methods answer ===== -/
def cm_b (p : Prop) [Decidable p] : Int := if p then 1 else 0
theorem cm_b0 {p : Prop} [Decidable p] : (cm_b p = 0) = ¬ p := by
  unfold cm_b
  by_cases h : p <;> simp [h]
theorem cm_b1 {p : Prop} [Decidable p] : (cm_b p = 1) = p := by
  unfold cm_b
  by_cases h : p <;> simp [h]
theorem cm_b01 {p : Prop} [Decidable p] : 0 ≤ cm_b p ∧ cm_b p < 2 := by
  unfold cm_b
  split <;> omega
theorem cm_bi_i {z : Int} {s : cm_S} {f : Int → cm_S → Option cm_R} : cm_bi (some (.inl (some (.inl z)), s)) f = f z s := rfl
theorem cm_bv_o {s : cm_S} {f : cm_S → Option cm_R} : cm_bv (some (.inl none, s)) f = f s := rfl
theorem cm_bi_t {e : Nat} {s : cm_S} {f : Int → cm_S → Option cm_R} : cm_bi (some (.inr e, s)) f = some (.inr e, s) := rfl
theorem cm_bv_t {e : Nat} {s : cm_S} {f : cm_S → Option cm_R} : cm_bv (some (.inr e, s)) f = some (.inr e, s) := rfl
theorem cm_p_at {s : cm_S} {k : Nat} {z : Int} : (cm_p s k z).1 k = z := by simp [cm_p]
theorem cm_p_ne {s : cm_S} {k j : Nat} {z : Int} (h : j ≠ k) : (cm_p s k z).1 j = s.1 j := by simp [cm_p, h]
theorem cm_p_row {s : cm_S} {k : Nat} {z : Int} : (cm_p s k z).2 = s.2 := rfl
theorem cm_q_fld {s : cm_S} {a : Nat} {j z : Int} : (cm_q s a j z).1 = s.1 := rfl
theorem cm_q_ne {s : cm_S} {a b : Nat} {j z : Int} (h : b ≠ a) : (cm_q s a j z).2 b = s.2 b := by simp [cm_q, h]
theorem cm_q_at {s : cm_S} {a : Nat} {j z i : Int} : (cm_q s a j z).2 a i = if i = j then z else s.2 a i := by simp [cm_q]
/-- digits, characters of names, line ends, blanks, hexadecimal digits, letters -/
abbrev cD (x : Int) : Prop := 48 ≤ x ∧ x ≤ 57
abbrev cLt (x : Int) : Prop := 97 ≤ x ∧ x ≤ 122 ∨ 65 ≤ x ∧ x ≤ 90 ∨ x = 36 ∨ x = 95
abbrev cN (x : Int) : Prop := 97 ≤ x ∧ x ≤ 122 ∨ 65 ≤ x ∧ x ≤ 90 ∨ x = 36 ∨ x = 95 ∨ 48 ≤ x ∧ x ≤ 57
abbrev cLe (x : Int) : Prop := x = 10 ∨ x = 13
abbrev cBl (x : Int) : Prop := x = 9 ∨ x = 10 ∨ x = 13 ∨ x = 32
abbrev cHx (x : Int) : Prop := 48 ≤ x ∧ x ≤ 57 ∨ 97 ≤ x ∧ x ≤ 102 ∨ 65 ≤ x ∧ x ≤ 70
theorem cs_11 (x : Int) (s : cm_S) : cm_sem 11 [.inl x] s = some (.inl (some (.inl (cm_b (cLe x)))), s) := by
  rw [cS_11]; unfold cF_11_0 cm_b; repeat' split
  all_goals first | rfl | (exfalso; omega)
theorem cs_183 (x : Int) (s : cm_S) : cm_sem 183 [.inl x] s = some (.inl (some (.inl (cm_b (cLe x)))), s) := by
  rw [cS_183]; unfold cF_183_0 cm_b; repeat' split
  all_goals first | rfl | (exfalso; omega)
theorem cs_31 (x : Int) (s : cm_S) : cm_sem 31 [.inl x] s = some (.inl (some (.inl (cm_b (cD x)))), s) := by
  rw [cS_31]; unfold cF_31_0 cm_b; repeat' split
  all_goals first | rfl | (exfalso; omega)
theorem cs_188 (x : Int) (s : cm_S) : cm_sem 188 [.inl x] s = some (.inl (some (.inl (cm_b (cD x)))), s) := by
  rw [cS_188]; unfold cF_188_0 cm_b; repeat' split
  all_goals first | rfl | (exfalso; omega)
theorem cs_37 (x : Int) (s : cm_S) : cm_sem 37 [.inl x] s = some (.inl (some (.inl (cm_b (cN x)))), s) := by
  rw [cS_37]; unfold cF_37_0 cm_b; repeat' split
  all_goals first | rfl | (exfalso; omega)
theorem cs_186 (x : Int) (s : cm_S) : cm_sem 186 [.inl x] s = some (.inl (some (.inl (cm_b (cLt x)))), s) := by
  rw [cS_186]; unfold cF_186_0 cm_b; repeat' split
  all_goals first | rfl | (exfalso; omega)
theorem cs_187 (x : Int) (s : cm_S) : cm_sem 187 [.inl x] s = some (.inl (some (.inl (cm_b (cN x)))), s) := by
  rw [cS_187]; unfold cF_187_0
  simp only [cs_186, cs_188, cm_bi_i, cm_b0]
  unfold cm_b; repeat' split
  all_goals first | rfl | (exfalso; omega)
theorem cs_173 (x : Int) (s : cm_S) : cm_sem 173 [.inl x] s = some (.inl (some (.inl (cm_b (cBl x)))), s) := by
  rw [cS_173]; unfold cF_173_0 cm_b; repeat' split
  all_goals first | rfl | (exfalso; omega)
theorem cs_191 (x : Int) (s : cm_S) : cm_sem 191 [.inl x] s = some (.inl (some (.inl (cm_b (cHx x)))), s) := by
  rw [cS_191]; unfold cF_191_0
  simp only [cs_188, cm_bi_i, cm_b0]
  unfold cm_b; repeat' split
  all_goals first | rfl | (exfalso; omega)
/-! the text -/
/-- the class's text, the reference's -/
def cTx (tx : Int → Int) (n : Int) (s : cm_S) : Prop := s.1 102 = n ∧ ∀ j, 0 ≤ j → j < n → s.2 2 j = tx j
def rTx (tx : Int → Int) (n : Int) (s : cm_S) : Prop := s.1 4107 = n ∧ ∀ j, 0 ≤ j → j < n → s.2 46 j = tx j
/-- what a text's characters are -/
def tOk (tx : Int → Int) (n : Int) : Prop := 0 ≤ n ∧ n ≤ 480 ∧ ∀ j, 0 ≤ j → j < n → tx j = 9 ∨ tx j = 10 ∨ tx j = 13 ∨ 32 ≤ tx j ∧ tx j ≤ 126
/-- the character at p, -1 outside; 0 behind the end -/
def tA (tx : Int → Int) (n p : Int) : Int := if 0 ≤ p ∧ p < n then tx p else -1
def tH (tx : Int → Int) (n p : Int) : Int := if p < n then tx p else 0
theorem cs_28 {tx : Int → Int} {n : Int} (ht : tOk tx n) {s : cm_S} (h : cTx tx n s) (x : Int) : cm_sem 28 [.inr (.inl 1), .inl x] s = some (.inl (some (.inl (tA tx n x))), s) := by
  obtain ⟨h1, h2⟩ := h
  obtain ⟨h3, h4, -⟩ := ht
  rw [cS_28]; unfold cF_28_0 tA
  rw [h1]
  repeat' split
  all_goals first | rfl | (exfalso; omega) | (rw [h2 x (by omega) (by omega)])
theorem cs_181 {tx : Int → Int} {n : Int} (ht : tOk tx n) {s : cm_S} (h : rTx tx n s) {x : Int} (hx : 0 ≤ x) : cm_sem 181 [.inr (.inl 41), .inl x] s = some (.inl (some (.inl (tH tx n x))), s) := by
  obtain ⟨h1, h2⟩ := h
  obtain ⟨h3, h4, -⟩ := ht
  rw [cS_181]; unfold cF_181_0 tH
  rw [h1]
  repeat' split
  all_goals first | rfl | (exfalso; omega) | (rw [h2 x (by omega) (by omega)])
theorem cs_33_0 (s : cm_S) : cm_sem 33 [.inr (.inl 15), .inl 0] s = some (.inl none, s) := by
  rw [cS_33]; rfl
theorem cs_34 (x y : Int) (s : cm_S) : cm_sem 34 [.inr (.inl 3), .inl x, .inl y] s = some (.inr 0, cm_p (cm_p s 300 x) 301 y) := cS_34 x y s
theorem cs_33 {p : Prop} [Decidable p] (s : cm_S) : cm_sem 33 [.inr (.inl 15), .inl (cm_b p)] s = if p then some (.inr 0, cm_p (cm_p s 300 1) 301 (s.1 1505)) else some (.inl none, s) := by
  rw [cS_33]; unfold cF_33_0
  simp only [cm_b0, cs_34, cm_bv_t]
  by_cases h : p <;> simp [h]
