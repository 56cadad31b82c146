/-! ===== the class's judge: brothers, and what is around a node ===== -/
def isLp (k : Int) : Prop := 7 ≤ k ∧ k ≤ 10
/-- an earlier brother of the same kind and name -/
def rep (tx : Int → Int) (n : Int) (T : tT) (i j : Int) : Prop := ∃ q, j ≤ q ∧ q < i ∧ nPa (nT T q) = nPa (nT T i) ∧ (nLb (nT T q)).1 = (nLb (nT T i)).1 ∧ alk tx n (nLb (nT T q)) (nLb (nT T i))
/-- an earlier default -/
def dfl (T : tT) (i j : Int) : Prop := ∃ q, j ≤ q ∧ q < i ∧ nPa (nT T q) = nPa (nT T i) ∧ (nLb (nT T q)).1 = 15 ∧ fK0 (nCh (nT T q)) = 21
def inFn (T : tT) : Nat → Int → Prop
  | 0, _ => False
  | m + 1, i => 0 ≤ i ∧ ((nLb (nT T i)).1 = 23 ∨ inFn T m (nPa (nT T i)))
def inLp (T : tT) (sw : Int) : Nat → Int → Prop
  | 0, _ => False
  | m + 1, i => 0 ≤ i ∧ (nLb (nT T i)).1 ≠ 23 ∧ (isLp ((nLb (nT T i)).1) ∨ sw ≠ 0 ∧ (nLb (nT T i)).1 = 14 ∨ inLp T sw m (nPa (nT T i)))
/-- the label around i that has the name of l is w -/
def LbA (tx : Int → Int) (n : Int) (T : tT) (l : tLb) : Nat → Int → Int → Prop
  | 0, _, w => w = -1
  | m + 1, i, w => (i < 0 ∨ (nLb (nT T i)).1 = 23) ∧ w = -1 ∨ 0 ≤ i ∧ (nLb (nT T i)).1 = 16 ∧ alk tx n (nLb (nT T i)) l ∧ w = i ∨ 0 ≤ i ∧ (nLb (nT T i)).1 ≠ 23 ∧ ¬ ((nLb (nT T i)).1 = 16 ∧ alk tx n (nLb (nT T i)) l) ∧ LbA tx n T l m (nPa (nT T i)) w
/-- the statement behind the labels is a loop -/
def lpS (T : tT) : Nat → Int → Prop
  | 0, _ => False
  | m + 1, i => (nLb (nT T i)).1 = 16 ∧ lpS T m (i + 1) ∨ (nLb (nT T i)).1 ≠ 16 ∧ isLp ((nLb (nT T i)).1)
theorem LbA_u {tx : Int → Int} {n : Int} {T : tT} {l : tLb} : ∀ (m : Nat) (i w w' : Int), LbA tx n T l m i w → LbA tx n T l m i w' → w = w' := by
  intro m
  induction m with
  | zero => intro i w w' h h'; exact Eq.trans h (Eq.symm h')
  | succ m ih =>
    intro i w w' h h'
    unfold LbA at h h'
    rcases h with ⟨a, rfl⟩ | ⟨a, b, c, rfl⟩ | ⟨a, b, c, d⟩
    · rcases h' with ⟨a', rfl⟩ | ⟨a', b', c', rfl⟩ | ⟨a', b', c', d'⟩
      · rfl
      · exfalso; omega
      · exfalso; omega
    · rcases h' with ⟨a', rfl⟩ | ⟨a', b', c', rfl⟩ | ⟨a', b', c', d'⟩
      · exfalso; omega
      · rfl
      · exact absurd ⟨b, c⟩ c'
    · rcases h' with ⟨a', rfl⟩ | ⟨a', b', c', rfl⟩ | ⟨a', b', c', d'⟩
      · exfalso; omega
      · exact absurd ⟨b', c'⟩ c
      · exact ih _ _ _ d d'
section TX84
variable {tx : Int → Int} {n : Int}
theorem cl_132 (ht : tOk tx n) {s : cm_S} {t : Nat} {T : tT} (h : cJ tx n s t T) {i : Int} (h0 : 0 ≤ i) (h1 : i < tSz T) : ∀ (k : Nat) (j : Int) (o4 : Option cm_V), j + k = i → 0 ≤ j → RB (cm_lp cm_sem cm_k132 10 [some (.inr (.inl 36)), some (.inl i), some (.inl (nPa (nT T i))), some (.inl j), o4] [] s) s (rep tx n T i j) := by
  have n9 := h.2.2.2.1
  intro k
  induction k with
  | zero =>
    intro j o4 hj j0
    rw [cE_132_10, cF_132_10, if_neg (by omega)]
    exact RB_0 fun ⟨q, a, b, _⟩ => by omega
  | succ k ih =>
    intro j o4 hj j0
    have step : ∀ o, ¬ (nPa (nT T j) = nPa (nT T i) ∧ (nLb (nT T j)).1 = (nLb (nT T i)).1 ∧ alk tx n (nLb (nT T j)) (nLb (nT T i))) → RB (cm_lp cm_sem cm_k132 10 [some (.inr (.inl 36)), some (.inl i), some (.inl (nPa (nT T i))), some (.inl (cm_w (j + 1))), o] [] s) s (rep tx n T i j) := fun o hn => by
      rw [cm_w_id (by omega) (by omega)]
      refine RB_iff (ih (j + 1) o (by omega) (by omega)) ⟨fun ⟨q, a, b, c⟩ => ⟨q, by omega, b, c⟩, fun ⟨q, a, b, c⟩ => ⟨q, ?_, b, c⟩⟩
      by_cases hq : q = j
      · subst hq; exact absurd c hn
      · omega
    rw [cE_132_10, cF_132_10, if_pos (by omega)]
    simp only [h.tn, if_pos h.cl, h.pa (i := j) (by omega) (by omega), h.kd (i := j) (by omega) (by omega), h.kd h0 h1, cm_bi_i]
    split
    · next e1 =>
      split
      · next e2 => exact RB_if (c_133 ht h (by omega) (by omega) h0 h1) (fun p => RB_1 ⟨j, Int.le_refl _, by omega, e1, e2, p⟩) (fun p => step _ fun q => p q.2.2)
      · next e2 => exact step _ fun q => e2 q.2.1
    · next e1 => exact step _ fun q => e1 q.1
theorem c_132 (ht : tOk tx n) {s : cm_S} {t : Nat} {T : tT} (h : cJ tx n s t T) {i : Int} (h0 : 0 < i) (h1 : i < tSz T) : RB (cm_sem 132 [.inr (.inl 36), .inl i] s) s (rep tx n T i (nPa (nT T i) + 1)) := by
  have n9 := h.2.2.2.1
  have m := nT_mem h0 h1
  rw [cS_132, cF_132_0]
  simp only [h.tn, if_pos h.cl, h.pa (Int.le_of_lt h0) h1, cm_bi_i]
  rw [cm_w_id (by omega) (by omega)]
  exact cl_132 ht h (by omega) h1 (i - (nPa (nT T i) + 1)).toNat _ _ (by omega) (by omega)
theorem cl_137 {s : cm_S} {t : Nat} {T : tT} (h : cJ tx n s t T) {i : Int} (h0 : 0 ≤ i) (h1 : i < tSz T) (h15 : (nLb (nT T i)).1 = 15) (h21 : fK0 (nCh (nT T i)) = 21) : ∀ (k : Nat) (j : Int) (o4 : Option cm_V), j + k = i → 0 ≤ j → RB (cm_lp cm_sem cm_k137 10 [some (.inr (.inl 36)), some (.inl i), some (.inl (nPa (nT T i))), some (.inl j), o4] [] s) s (dfl T i j) := by
  have n9 := h.2.2.2.1
  intro k
  induction k with
  | zero =>
    intro j o4 hj j0
    rw [cE_137_10, cF_137_10, if_neg (by omega)]
    exact RB_0 fun ⟨q, a, b, _⟩ => by omega
  | succ k ih =>
    intro j o4 hj j0
    have step : ∀ o, ¬ (nPa (nT T j) = nPa (nT T i) ∧ (nLb (nT T j)).1 = 15 ∧ fK0 (nCh (nT T j)) = 21) → RB (cm_lp cm_sem cm_k137 10 [some (.inr (.inl 36)), some (.inl i), some (.inl (nPa (nT T i))), some (.inl (cm_w (j + 1))), o] [] s) s (dfl T i j) := fun o hn => by
      rw [cm_w_id (by omega) (by omega)]
      refine RB_iff (ih (j + 1) o (by omega) (by omega)) ⟨fun ⟨q, a, b, c⟩ => ⟨q, by omega, b, c⟩, fun ⟨q, a, b, c⟩ => ⟨q, ?_, b, c⟩⟩
      by_cases hq : q = j
      · subst hq; exact absurd c hn
      · omega
    rw [cE_137_10, cF_137_10, if_pos (by omega)]
    simp only [h.tn, if_pos h.cl, h.pa (i := j) (by omega) (by omega), h.kd (i := j) (by omega) (by omega), h.k1 h0 h1 (gC_ne (h.g h0 h1).2.1 (by omega)), cm_bi_i, if_pos h21]
    split
    · next e1 =>
      split
      · next e2 =>
        rw [h.k1 (i := j) (by omega) (by omega) (gC_ne (h.g (i := j) (by omega) (by omega)).2.1 (by omega)), cm_bi_i]
        split
        · next e3 => exact RB_1 ⟨j, Int.le_refl _, by omega, e1, e2, e3⟩
        · next e3 => exact step _ fun q => e3 q.2.2
      · next e2 => exact step _ fun q => e2 q.2.1
    · next e1 => exact step _ fun q => e1 q.1
theorem c_137 {s : cm_S} {t : Nat} {T : tT} (h : cJ tx n s t T) {i : Int} (h0 : 0 < i) (h1 : i < tSz T) (h15 : (nLb (nT T i)).1 = 15) : RB (cm_sem 137 [.inr (.inl 36), .inl i] s) s (fK0 (nCh (nT T i)) = 21 ∧ dfl T i (nPa (nT T i) + 1)) := by
  have n9 := h.2.2.2.1
  have m := nT_mem h0 h1
  rw [cS_137, cF_137_0]
  simp only [h.tn, if_pos h.cl, h.pa (Int.le_of_lt h0) h1, cm_bi_i]
  rw [cm_w_id (by omega) (by omega)]
  by_cases h21 : fK0 (nCh (nT T i)) = 21
  · exact RB_iff (cl_137 h (by omega) h1 h15 h21 (i - (nPa (nT T i) + 1)).toNat _ _ (by omega) (by omega)) ⟨fun q => ⟨h21, q⟩, fun q => q.2⟩
  · rw [cE_137_10, cF_137_10]
    split
    · simp only [h.tn, if_pos h.cl, h.k1 (Int.le_of_lt h0) h1 (gC_ne (h.g (Int.le_of_lt h0) h1).2.1 (by omega)), cm_bi_i, if_neg h21]
      exact RB_0 fun q => h21 q.1
    · exact RB_0 fun q => h21 q.1
theorem cl_138 {s : cm_S} {t : Nat} {T : tT} (h : cJ tx n s t T) (o1 : Option cm_V) : ∀ (m : Nat) (i c : Int), -1 ≤ i → i < m → i < tSz T → 0 ≤ c → c + i < 511 → RB (cm_lp cm_sem cm_k138 8 [some (.inr (.inl 36)), o1, some (.inl i), some (.inl c)] [] s) s (inFn T m i) := by
  intro m
  induction m with
  | zero =>
    intro i c a1 a2 a3 a4 a5
    rw [cE_138_8, cF_138_8, if_pos (by omega), if_pos (by omega)]
    exact RB_0 fun q => q
  | succ m ih =>
    intro i c a1 a2 a3 a4 a5
    rw [cE_138_8, cF_138_8, if_pos (by omega)]
    unfold inFn
    split
    · exact RB_0 fun q => by omega
    · next hi =>
      have hp := (nT_p (T := T) (i := i) (by omega) a3).2
      simp only [h.tn, if_pos h.cl, h.kd (i := i) (by omega) a3, h.pa (i := i) (by omega) a3, cm_bi_i]
      split
      · next e => exact RB_1 ⟨by omega, Or.inl e⟩
      · next e =>
        rw [cm_w_id (by omega) (by omega)]
        exact RB_iff (ih _ _ (by omega) (by omega) (by omega) (by omega) (by omega)) ⟨fun q => ⟨by omega, Or.inr q⟩, fun q => q.2.resolve_left e⟩
theorem c_138 {s : cm_S} {t : Nat} {T : tT} (h : cJ tx n s t T) {i : Int} (h0 : 0 ≤ i) (h1 : i < tSz T) : RB (cm_sem 138 [.inr (.inl 36), .inl i] s) s (inFn T 600 (nPa (nT T i))) := by
  have n9 := h.2.2.2.1
  have hp := (nT_p h0 h1).2
  rw [cS_138, cF_138_0]
  simp only [h.tn, if_pos h.cl, h.pa h0 h1, cm_bi_i]
  exact cl_138 h _ 600 _ _ (by omega) (by omega) (by omega) (by omega) (by omega)
theorem c_141 (k : Int) (s : cm_S) : RB (cm_sem 141 [.inl k] s) s (isLp k) := by
  rw [cS_141, cF_141_0]
  unfold isLp
  repeat' split
  all_goals first | exact RB_1 (by omega) | exact RB_0 (by omega)
theorem cl_140 {s : cm_S} {t : Nat} {T : tT} (h : cJ tx n s t T) (o1 : Option cm_V) (sw : Int) : ∀ (m : Nat) (i c : Int), -1 ≤ i → i < m → i < tSz T → 0 ≤ c → c + i < 511 → RB (cm_lp cm_sem cm_k140 8 [some (.inr (.inl 36)), o1, some (.inl sw), some (.inl i), some (.inl c)] [] s) s (inLp T sw m i) := by
  intro m
  induction m with
  | zero =>
    intro i c a1 a2 a3 a4 a5
    rw [cE_140_8, cF_140_8, if_pos (by omega), if_pos (by omega)]
    exact RB_0 fun q => q
  | succ m ih =>
    intro i c a1 a2 a3 a4 a5
    rw [cE_140_8, cF_140_8, if_pos (by omega)]
    unfold inLp
    split
    · exact RB_0 fun q => by omega
    · next hi =>
      have hp := (nT_p (T := T) (i := i) (by omega) a3).2
      simp only [h.tn, if_pos h.cl, h.kd (i := i) (by omega) a3, h.pa (i := i) (by omega) a3, cm_bi_i]
      split
      · next e => exact RB_0 fun q => q.2.1 e
      · next e =>
        have go : RB (cm_lp cm_sem cm_k140 8 [some (.inr (.inl 36)), o1, some (.inl sw), some (.inl (nPa (nT T i))), some (.inl (cm_w (c + 1)))] [] s) s (inLp T sw m (nPa (nT T i))) := by
          rw [cm_w_id (by omega) (by omega)]
          exact ih _ _ (by omega) (by omega) (by omega) (by omega) (by omega)
        refine RB_if (c_141 _ s) (fun p => RB_1 ⟨by omega, e, Or.inl p⟩) (fun p => ?_)
        simp only [h.tn, if_pos h.cl, h.kd (i := i) (by omega) a3, h.pa (i := i) (by omega) a3, cm_bi_i]
        split
        · next hs => exact RB_iff go ⟨fun q => ⟨by omega, e, Or.inr (Or.inr q)⟩, fun q => by
            rcases q.2.2 with q | q | q
            · exact absurd q p
            · exact absurd hs q.1
            · exact q⟩
        · next hs =>
          split
          · next e14 => exact RB_1 ⟨by omega, e, Or.inr (Or.inl ⟨hs, e14⟩)⟩
          · next e14 => exact RB_iff go ⟨fun q => ⟨by omega, e, Or.inr (Or.inr q)⟩, fun q => by
              rcases q.2.2 with q | q | q
              · exact absurd q p
              · exact absurd q.2 e14
              · exact q⟩
theorem c_140 {s : cm_S} {t : Nat} {T : tT} (h : cJ tx n s t T) {i : Int} (h0 : 0 ≤ i) (h1 : i < tSz T) (sw : Int) : RB (cm_sem 140 [.inr (.inl 36), .inl i, .inl sw] s) s (inLp T sw 600 (nPa (nT T i))) := by
  have n9 := h.2.2.2.1
  have hp := (nT_p h0 h1).2
  rw [cS_140, cF_140_0]
  simp only [h.tn, if_pos h.cl, h.pa h0 h1, cm_bi_i]
  exact cl_140 h _ sw 600 _ _ (by omega) (by omega) (by omega) (by omega) (by omega)
theorem cl_139 (ht : tOk tx n) {s : cm_S} {t : Nat} {T : tT} (h : cJ tx n s t T) {k : Int} (k0 : 0 ≤ k) (k1 : k < tSz T) : ∀ (m : Nat) (i c : Int), -1 ≤ i → i < m → i < tSz T → 0 ≤ c → c + i < 511 → ∃ w, cm_lp cm_sem cm_k139 8 [some (.inr (.inl 36)), some (.inl k), some (.inl i), some (.inl c)] [] s = some (.inl (some (.inl w)), s) ∧ LbA tx n T (nLb (nT T k)) m i w ∧ -1 ≤ w ∧ w < tSz T := by
  have tz := tSz_1 T
  intro m
  induction m with
  | zero =>
    intro i c a1 a2 a3 a4 a5
    rw [cE_139_8, cF_139_8, if_pos (by omega), if_pos (by omega)]
    exact ⟨-1, rfl, rfl, by omega, by omega⟩
  | succ m ih =>
    intro i c a1 a2 a3 a4 a5
    rw [cE_139_8, cF_139_8, if_pos (by omega)]
    unfold LbA
    split
    · exact ⟨-1, rfl, Or.inl ⟨by omega, rfl⟩, by omega, by omega⟩
    · next hi =>
      have hp := (nT_p (T := T) (i := i) (by omega) a3).2
      simp only [h.tn, if_pos h.cl, h.kd (i := i) (by omega) a3, h.pa (i := i) (by omega) a3, cm_bi_i]
      split
      · next e => exact ⟨-1, rfl, Or.inl ⟨Or.inr e, rfl⟩, by omega, by omega⟩
      · next e =>
        have go : ¬ ((nLb (nT T i)).1 = 16 ∧ alk tx n (nLb (nT T i)) (nLb (nT T k))) → ∃ w, cm_lp cm_sem cm_k139 8 [some (.inr (.inl 36)), some (.inl k), some (.inl (nPa (nT T i))), some (.inl (cm_w (c + 1)))] [] s = some (.inl (some (.inl w)), s) ∧ ((i < 0 ∨ (nLb (nT T i)).1 = 23) ∧ w = -1 ∨ 0 ≤ i ∧ (nLb (nT T i)).1 = 16 ∧ alk tx n (nLb (nT T i)) (nLb (nT T k)) ∧ w = i ∨ 0 ≤ i ∧ (nLb (nT T i)).1 ≠ 23 ∧ ¬ ((nLb (nT T i)).1 = 16 ∧ alk tx n (nLb (nT T i)) (nLb (nT T k))) ∧ LbA tx n T (nLb (nT T k)) m (nPa (nT T i)) w) ∧ -1 ≤ w ∧ w < tSz T := fun hn => by
          rw [cm_w_id (by omega) (by omega)]
          obtain ⟨w, b1, b2, b3⟩ := ih (nPa (nT T i)) (c + 1) (by omega) (by omega) (by omega) (by omega) (by omega)
          exact ⟨w, b1, Or.inr (Or.inr ⟨by omega, e, hn, b2⟩), b3⟩
        split
        · next e16 =>
          obtain ⟨z, ez, ⟨rfl, hz⟩ | ⟨rfl, hz⟩⟩ := c_133 ht h (i := i) (j := k) (by omega) a3 k0 k1
          · rw [ez, cm_bi_i, if_pos rfl]
            simp only [h.tn, if_pos h.cl, h.pa (i := i) (by omega) a3, cm_bi_i]
            exact go fun q => hz q.2
          · rw [ez, cm_bi_i, if_neg (by decide)]
            exact ⟨i, rfl, Or.inr (Or.inl ⟨by omega, e16, hz, rfl⟩), by omega, by omega⟩
        · next e16 => exact go fun q => e16 q.1
theorem c_139 (ht : tOk tx n) {s : cm_S} {t : Nat} {T : tT} (h : cJ tx n s t T) {i : Int} (h0 : 0 ≤ i) (h1 : i < tSz T) : ∃ w, cm_sem 139 [.inr (.inl 36), .inl i] s = some (.inl (some (.inl w)), s) ∧ LbA tx n T (nLb (nT T i)) 600 (nPa (nT T i)) w ∧ -1 ≤ w ∧ w < tSz T := by
  have n9 := h.2.2.2.1
  have hp := (nT_p h0 h1).2
  rw [cS_139, cF_139_0]
  simp only [h.tn, if_pos h.cl, h.pa h0 h1, cm_bi_i]
  exact cl_139 ht h h0 h1 600 _ _ (by omega) (by omega) (by omega) (by omega) (by omega)
theorem cl_142 {s : cm_S} {t : Nat} {T : tT} (h : cJ tx n s t T) {w : Int} (hw : w ≠ -1) : ∀ (m : Nat) (i c : Int), 0 ≤ i → i < tSz T → tSz T - i ≤ m → 0 ≤ c → c + (tSz T - i) < 511 → RB (cm_lp cm_sem cm_k142 5 [some (.inr (.inl 36)), some (.inl w), some (.inl i), some (.inl c)] [] s) s (lpS T m i) := by
  intro m
  induction m with
  | zero => intro i c a1 a2 a3; omega
  | succ m ih =>
    intro i c a1 a2 a3 a4 a5
    rw [cE_142_5, cF_142_5, if_pos (by omega)]
    simp only [h.tn, if_pos h.cl, h.kd a1 a2, cm_bi_i, if_neg hw]
    unfold lpS
    split
    · next e =>
      have := nT_1 a1 a2 (gC_ne (h.g a1 a2).2.1 (by omega))
      have tz9 := h.2.2.2.1
      rw [cm_w_id (by omega) (by omega), cm_w_id (by omega) (by omega)]
      exact RB_iff (ih (i + 1) (c + 1) (by omega) this.1 (by omega) (by omega) (by omega)) ⟨fun q => Or.inl ⟨e, q⟩, fun q => (q.resolve_right fun z => z.1 e).2⟩
    · next e => exact RB_iff (RB_bl (c_141 _ s)) ⟨fun q => Or.inr ⟨e, q⟩, fun q => (q.resolve_left fun z => e z.1).2⟩
theorem c_142 {s : cm_S} {t : Nat} {T : tT} (h : cJ tx n s t T) {w : Int} (w0 : -1 ≤ w) (w1 : w < tSz T) : RB (cm_sem 142 [.inr (.inl 36), .inl w] s) s (w ≠ -1 ∧ lpS T 600 w) := by
  have n9 := h.2.2.2.1
  rw [cS_142, cF_142_0]
  by_cases hw : w = -1
  · subst hw
    rw [cE_142_5, cF_142_5, if_pos (by omega)]
    have e : tg s t 1 (-1) (-1) = -1 := if_neg (by omega)
    simp only [h.tn, if_pos h.cl, cs_15 h.1 h.sz, cm_bi_i, e]
    rw [if_neg (by decide), if_pos trivial]
    exact RB_0 fun q => q.1 rfl
  · exact RB_iff (cl_142 h hw 600 w 0 (by omega) w1 (by omega) (by omega) (by omega)) ⟨fun q => ⟨hw, q⟩, fun q => q.2⟩
end TX84
