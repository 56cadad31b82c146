/-! ===== what is judged: answers that are true or false ===== -/
def RB (x : Option cm_R) (s : cm_S) (P : Prop) : Prop := ∃ z : Int, x = some (.inl (some (.inl z)), s) ∧ (z = 0 ∧ ¬ P ∨ z = 1 ∧ P)
theorem RB_1 {s : cm_S} {P : Prop} (h : P) : RB (some (.inl (some (.inl 1)), s)) s P := ⟨1, rfl, Or.inr ⟨rfl, h⟩⟩
theorem RB_0 {s : cm_S} {P : Prop} (h : ¬ P) : RB (some (.inl (some (.inl 0)), s)) s P := ⟨0, rfl, Or.inl ⟨rfl, h⟩⟩
theorem RB_b {s : cm_S} {P Q : Prop} [Decidable P] (h : P ↔ Q) : RB (some (.inl (some (.inl (cm_b P))), s)) s Q := by
  by_cases hp : P
  · exact ⟨_, rfl, Or.inr ⟨by rw [cm_b1]; exact hp, h.mp hp⟩⟩
  · exact ⟨_, rfl, Or.inl ⟨by rw [cm_b0]; exact hp, fun z => hp (h.mpr z)⟩⟩
theorem RB_if {x : Option cm_R} {s : cm_S} {P Q : Prop} (h : RB x s P) {f g : cm_S → Option cm_R} (h1 : P → RB (g s) s Q) (h2 : ¬ P → RB (f s) s Q) : RB (cm_bi x fun z s1 => if z = 0 then f s1 else g s1) s Q := by
  obtain ⟨z, e, ⟨rfl, hp⟩ | ⟨rfl, hp⟩⟩ := h
  · rw [e, cm_bi_i, if_pos rfl]; exact h2 hp
  · rw [e, cm_bi_i, if_neg (by decide)]; exact h1 hp
theorem RB_ix {x : Option cm_R} {s : cm_S} {P : Prop} (h : RB x s P) {f g : cm_S → Option cm_R} {Y : Option cm_R} (h1 : P → g s = Y) (h2 : ¬ P → f s = Y) : (cm_bi x fun z s1 => if z = 0 then f s1 else g s1) = Y := by
  obtain ⟨z, e, ⟨rfl, hp⟩ | ⟨rfl, hp⟩⟩ := h
  · rw [e, cm_bi_i, if_pos rfl]; exact h2 hp
  · rw [e, cm_bi_i, if_neg (by decide)]; exact h1 hp
theorem RB_bl {x : Option cm_R} {s : cm_S} {P : Prop} (h : RB x s P) : RB (cm_bi x fun z s1 => if z = 0 then some (.inl (some (.inl 0)), s1) else some (.inl (some (.inl 1)), s1)) s P := RB_if h (fun p => RB_1 p) (fun p => RB_0 p)
theorem RB_nt {x : Option cm_R} {s : cm_S} {P : Prop} (h : RB x s P) : RB (cm_bi x fun z s1 => if z = 0 then some (.inl (some (.inl 1)), s1) else some (.inl (some (.inl 0)), s1)) s (¬ P) := RB_if h (fun p => RB_0 (fun z => z p)) (fun p => RB_1 p)
theorem RB_tl {x : Option cm_R} {s : cm_S} {P : Prop} (h : RB x s P) : RB (cm_bi x fun z s1 => if (0 : Int) ≤ z ∧ z < 2 then some (.inl (some (.inl z)), s1) else none) s P := by
  obtain ⟨z, e, ⟨rfl, hp⟩ | ⟨rfl, hp⟩⟩ := h
  · rw [e, cm_bi_i, if_pos (by decide)]; exact RB_0 hp
  · rw [e, cm_bi_i, if_pos (by decide)]; exact RB_1 hp
theorem RB_iff {x : Option cm_R} {s : cm_S} {P Q : Prop} (h : RB x s P) (e : P ↔ Q) : RB x s Q := by
  obtain ⟨z, e1, h1⟩ := h
  rw [e] at h1
  exact ⟨z, e1, h1⟩
section TX82
variable (tx : Int → Int) (n : Int)
/-- the word w stands at p -/
def hA (p : Int) (w : Nat) : Prop := ∀ j, 0 ≤ j → j < cm_kn w → tA tx n (p + j) = cm_ka w j
def spc (l : tLb) : Prop := lbN l = 4 ∧ hA tx n (lbP l) 1003 ∨ lbN l = 9 ∧ hA tx n (lbP l) 1004
def alk (l l' : tLb) : Prop := lbN l = lbN l' ∧ ∀ j, 0 ≤ j → j < lbN l → tA tx n (lbP l + j) = tA tx n (lbP l' + j)
def says (l : tLb) : Prop := lbN l = 12 ∧ hA tx n (lbP l + 1) 1002
end TX82
def fL0 : tF → tLb
  | .leaf => (-1, 0, 0, 0, false)
  | .inner _ l _ _ _ => l
theorem fL0_k (f : tF) : (fL0 f).1 = fK0 f := by cases f <;> rfl
/-- the node at i -/
def nT (T : tT) (i : Int) : ndI := nd (fo [T]) 0 (-1) 0 0 i
abbrev nK (T : tT) (i : Int) : Int := (nLb (nT T i)).1
def tgt (x : ndI) : Prop := (nLb x).1 = 44 ∨ (nLb x).1 = 48 ∨ (nLb x).1 = 45 ∧ (lbC (nLb x) = 11051 ∨ lbC (nLb x) = 11565) ∨ (nLb x).1 = 10 ∧ fK0 (nCh x) ≠ 2
/-- the class's judge looks at the tree T -/
def cJ (tx : Int → Int) (n : Int) (s : cm_S) (t : Nat) (T : tT) : Prop := isTr t ∧ s.1 3602 = t ∧ s.1 (100 * t + 8) = tSz T ∧ tSz T ≤ 482 ∧ cTx tx n s ∧ cFl s t (-1) 0 0 (fo [T]) ∧ gF tx n (fo [T])
theorem fSz_T (T : tT) : fSz (fo [T]) = tSz T := by
  show 1 + fSz T.2 + 0 = 1 + fSz T.2
  omega
theorem gC_ne {k : Int} {f : tF} (h : gC k (fK f)) (hk : k = 5 ∨ k = 10 ∨ k = 15 ∨ k = 16 ∨ k = 20 ∨ k = 39 ∨ k = 44 ∨ k = 45 ∨ k = 48) : f ≠ .leaf := by
  rintro rfl
  unfold gC at h
  have e : fK (.leaf : tF) = [] := rfl
  rw [e] at h
  rcases hk with rfl | rfl | rfl | rfl | rfl | rfl | rfl | rfl | rfl <;> simp at h
theorem fSz_ne {f : tF} (h : f ≠ .leaf) : 1 ≤ fSz f := by
  cases f with
  | leaf => exact absurd rfl h
  | inner x l u ch re =>
    have c0 := fSz_0 ch
    have r0 := fSz_0 re
    show 1 ≤ 1 + fSz ch + fSz re
    omega
section TX83
variable {tx : Int → Int} {n : Int}
theorem cJ.tn {s : cm_S} {t : Nat} {T : tT} (h : cJ tx n s t T) : (s.1 3602).toNat = t := by rw [h.2.1]; rfl
theorem cJ.cl {s : cm_S} {t : Nat} {T : tT} (h : cJ tx n s t T) : cm_cl t = 6 := (tr_f h.1).1
theorem cJ.sz {s : cm_S} {t : Nat} {T : tT} (h : cJ tx n s t T) : s.1 (100 * t + 8) ≤ 512 := by
  have := h.2.2.1
  have := h.2.2.2.1
  omega
theorem cJ.c {s : cm_S} {t : Nat} {T : tT} (h : cJ tx n s t T) {i : Int} (h0 : 0 ≤ i) (h1 : i < tSz T) : nC s t i (nT T i) := nd_c (fo [T]) 0 (-1) 0 0 h.2.2.2.2.2.1 i h0 (by rw [fSz_T]; omega)
theorem cJ.g {s : cm_S} {t : Nat} {T : tT} (h : cJ tx n s t T) {i : Int} (h0 : 0 ≤ i) (h1 : i < tSz T) : gT tx n (nLb (nT T i)) ∧ gC (nLb (nT T i)).1 (fK (nCh (nT T i))) ∧ gW (nLb (nT T i)) (nCh (nT T i)) ∧ gF tx n (nCh (nT T i)) ∧ gF tx n (nRe (nT T i)) := nd_g (fo [T]) 0 (-1) 0 0 h.2.2.2.2.2.2 i h0 (by rw [fSz_T]; omega)
theorem nT_p {T : tT} {i : Int} (h0 : 0 ≤ i) (h1 : i < tSz T) : i + 1 + fSz (nCh (nT T i)) ≤ tSz T ∧ (nPa (nT T i) = -1 ∨ 0 ≤ nPa (nT T i) ∧ nPa (nT T i) < i ∧ i < nPa (nT T i) + 1 + fSz (nCh (nT T (nPa (nT T i))))) := by
  have := nd_p (fo [T]) 0 (-1) 0 0 (by decide) i h0 (by rw [fSz_T]; omega)
  rw [fSz_T, Int.zero_add] at this
  exact this
theorem tg_in {s : cm_S} {t j : Nat} {d k : Int} (h : 0 ≤ k ∧ k < s.1 (100 * t + 8)) : tg s t j d k = s.2 (t + j) k := if_pos h
/-- the accessors at a node -/
theorem cJ.kd {s : cm_S} {t : Nat} {T : tT} (h : cJ tx n s t T) {i : Int} (h0 : 0 ≤ i) (h1 : i < tSz T) : cm_sem 15 [.inr (.inl t), .inl i] s = some (.inl (some (.inl (nLb (nT T i)).1)), s) := by
  rw [cs_15 h.1 h.sz, tg_in ⟨h0, by rw [h.2.2.1]; exact h1⟩, (h.c h0 h1).1]
theorem cJ.pl {s : cm_S} {t : Nat} {T : tT} (h : cJ tx n s t T) {i : Int} (h0 : 0 ≤ i) (h1 : i < tSz T) : cm_sem 120 [.inr (.inl t), .inl i] s = some (.inl (some (.inl (lbP (nLb (nT T i))))), s) := by
  rw [cs_120 h.1 h.sz, tg_in ⟨h0, by rw [h.2.2.1]; exact h1⟩, (h.c h0 h1).2.1]
theorem cJ.ln {s : cm_S} {t : Nat} {T : tT} (h : cJ tx n s t T) {i : Int} (h0 : 0 ≤ i) (h1 : i < tSz T) : cm_sem 121 [.inr (.inl t), .inl i] s = some (.inl (some (.inl (lbN (nLb (nT T i))))), s) := by
  rw [cs_121 h.1 h.sz, tg_in ⟨h0, by rw [h.2.2.1]; exact h1⟩, (h.c h0 h1).2.2.1]
theorem cJ.sg {s : cm_S} {t : Nat} {T : tT} (h : cJ tx n s t T) {i : Int} (h0 : 0 ≤ i) (h1 : i < tSz T) : cm_sem 128 [.inr (.inl t), .inl i] s = some (.inl (some (.inl (lbC (nLb (nT T i))))), s) := by
  rw [cs_128 h.1 h.sz, tg_in ⟨h0, by rw [h.2.2.1]; exact h1⟩, (h.c h0 h1).2.2.2.1]
theorem cJ.pa {s : cm_S} {t : Nat} {T : tT} (h : cJ tx n s t T) {i : Int} (h0 : 0 ≤ i) (h1 : i < tSz T) : cm_sem 117 [.inr (.inl t), .inl i] s = some (.inl (some (.inl (nPa (nT T i)))), s) := by
  rw [cs_117 h.1 h.sz, tg_in ⟨h0, by rw [h.2.2.1]; exact h1⟩, (h.c h0 h1).2.2.2.2.1]
theorem cJ.ch {s : cm_S} {t : Nat} {T : tT} (h : cJ tx n s t T) {i : Int} (h0 : 0 ≤ i) (h1 : i < tSz T) : cm_sem 124 [.inr (.inl t), .inl i] s = some (.inl (some (.inl (fLn (nCh (nT T i))))), s) := by
  rw [cs_124 h.1 h.sz, tg_in ⟨h0, by rw [h.2.2.1]; exact h1⟩, (h.c h0 h1).2.2.2.2.2.2.1]
theorem nT_1 {T : tT} {i : Int} (h0 : 0 ≤ i) (h1 : i < tSz T) (hc : nCh (nT T i) ≠ .leaf) : i + 1 < tSz T ∧ nLb (nT T (i + 1)) = fL0 (nCh (nT T i)) ∧ nPa (nT T (i + 1)) = i := by
  have hp := (nT_p h0 h1).1
  have sz := fSz_ne hc
  refine ⟨by omega, ?_⟩
  cases hch : nCh (nT T i) with
  | leaf => exact absurd hch hc
  | inner x l u ch re =>
    have := nd_1 (fo [T]) 0 (-1) 0 0 i h0 (by rw [fSz_T]; omega) x l u ch re hch
    unfold nT
    rw [this]
    exact ⟨rfl, rfl⟩
/-- the first child's kind -/
theorem cJ.k1 {s : cm_S} {t : Nat} {T : tT} (h : cJ tx n s t T) {i : Int} (h0 : 0 ≤ i) (h1 : i < tSz T) (hc : nCh (nT T i) ≠ .leaf) : cm_sem 15 [.inr (.inl t), .inl (cm_w (i + 1))] s = some (.inl (some (.inl (fK0 (nCh (nT T i))))), s) := by
  have := nT_1 h0 h1 hc
  have := h.2.2.2.1
  rw [cm_w_id (by omega) (by omega), h.kd (by omega) (by omega), (nT_1 h0 h1 hc).2.1, fL0_k]
theorem cJ.kn {s : cm_S} {t : Nat} {T : tT} (h : cJ tx n s t T) {i : Int} (h0 : 0 ≤ i) (h1 : i < tSz T) : ∃ z, cm_sem 15 [.inr (.inl t), .inl (cm_w (i + 1))] s = some (.inl (some (.inl z)), s) ∧ (nCh (nT T i) ≠ .leaf → z = fK0 (nCh (nT T i))) := by
  refine ⟨_, cs_15 h.1 h.sz _, fun hc => ?_⟩
  have := h.k1 h0 h1 hc
  rw [cs_15 h.1 h.sz] at this
  simpa using this
theorem c_127 {s : cm_S} {t : Nat} {T : tT} (h : cJ tx n s t T) {i : Int} (h0 : 0 ≤ i) (h1 : i < tSz T) : RB (cm_sem 127 [.inr (.inl 36), .inl i] s) s (tgt (nT T i)) := by
  have g := (h.g h0 h1).2.1
  rw [cS_127, cF_127_0]
  simp only [h.tn, if_pos h.cl, h.kd h0 h1, h.sg h0 h1, cm_bi_i]
  unfold tgt
  by_cases h10 : (nLb (nT T i)).1 = 10
  · rw [if_pos h10, h.k1 h0 h1 (gC_ne g (by omega)), cm_bi_i]
    split
    · exact RB_0 (by omega)
    · exact RB_1 (by omega)
  · rw [if_neg h10]
    repeat' split
    all_goals first | exact RB_1 (by omega) | exact RB_0 (by omega)
theorem c_126 {s : cm_S} {t : Nat} {T : tT} (h : cJ tx n s t T) {i : Int} (h0 : 0 ≤ i) (h1 : i < tSz T) : RB (cm_sem 126 [.inr (.inl 36), .inl i] s) s (tgt (nT T i) ∧ fK0 (nCh (nT T i)) ≠ 31 ∧ fK0 (nCh (nT T i)) ≠ 40 ∧ fK0 (nCh (nT T i)) ≠ 41) := by
  have g := (h.g h0 h1).2.1
  obtain ⟨z, e1, e2⟩ := h.kn h0 h1
  rw [cS_126, cF_126_0]
  simp only [h.tn, if_pos h.cl, e1, cm_bi_i]
  refine RB_if (c_127 h h0 h1) (fun p => ?_) (fun p => RB_0 fun q => p q.1)
  have hz := e2 (gC_ne g (by unfold tgt at p; omega))
  subst hz
  repeat' split
  all_goals first | exact RB_0 (by omega) | exact RB_1 ⟨p, by omega, by omega, by omega⟩
theorem cl_122 (ht : tOk tx n) {s : cm_S} (h : cTx tx n s) {p : Int} (h0 : 0 ≤ p) (h1 : p ≤ 1000) {w : Nat} (hw : cm_kn w ≤ 100) : ∀ (k : Nat) (j : Int), j + k = cm_kn w → 0 ≤ j → RB (cm_lp cm_sem cm_k122 3 [some (.inr (.inl 1)), some (.inl p), some (.inr (.inl w)), some (.inl j)] [] s) s (∀ i, j ≤ i → i < cm_kn w → tA tx n (p + i) = cm_ka w i) := by
  intro k
  induction k with
  | zero =>
    intro j hj j0
    rw [cE_122_3, cF_122_3, if_neg (by omega)]
    exact RB_1 fun i a b => by omega
  | succ k ih =>
    intro j hj j0
    rw [cE_122_3, cF_122_3, if_pos (by omega), cm_w_id (by omega) (by omega), cs_28 ht h, cm_bi_i, if_pos (by omega)]
    split
    · next e =>
      rw [cm_w_id (by omega) (by omega)]
      refine RB_iff (ih (j + 1) (by omega) (by omega)) ⟨fun q i a b => ?_, fun q i a b => q i (by omega) b⟩
      by_cases hi : i = j
      · rw [hi]; exact e
      · exact q i (by omega) b
    · next e => exact RB_0 fun q => e (q j (Int.le_refl _) (by omega))
theorem c_122 (ht : tOk tx n) {s : cm_S} (h : cTx tx n s) {p : Int} (h0 : 0 ≤ p) (h1 : p ≤ 1000) {w : Nat} (hw : 0 ≤ cm_kn w ∧ cm_kn w ≤ 100) : RB (cm_sem 122 [.inr (.inl 1), .inl p, .inr (.inl w)] s) s (hA tx n p w) := by
  rw [cS_122, cF_122_0]
  exact cl_122 ht h h0 h1 hw.2 (cm_kn w).toNat 0 (by omega) (Int.le_refl _)
theorem c_131 (ht : tOk tx n) {s : cm_S} {t : Nat} {T : tT} (h : cJ tx n s t T) {i : Int} (h0 : 0 ≤ i) (h1 : i < tSz T) : RB (cm_sem 131 [.inr (.inl 36), .inl i] s) s (spc tx n (nLb (nT T i))) := by
  have g := (h.g h0 h1).1
  have n9 := ht.2.1
  obtain ⟨g1, g2, g3, -⟩ := g
  rw [cS_131, cF_131_0]
  simp only [h.tn, if_pos h.cl, h.ln h0 h1, h.pl h0 h1, cm_bi_i]
  unfold spc
  have a := c_122 ht h.2.2.2.2.1 (p := lbP (nLb (nT T i))) (w := 1003) g1 (by omega) ⟨by decide, by decide⟩
  have b := c_122 ht h.2.2.2.2.1 (p := lbP (nLb (nT T i))) (w := 1004) g1 (by omega) ⟨by decide, by decide⟩
  split
  · next e =>
    refine RB_if a (fun p => RB_1 (Or.inl ⟨e, p⟩)) (fun p => ?_)
    rw [if_neg (by omega)]
    exact RB_0 fun q => by
      rcases q with q | q
      · exact p q.2
      · omega
  · next e =>
    split
    · next e9 => exact RB_iff (RB_bl b) ⟨fun q => Or.inr ⟨e9, q⟩, fun q => by
        rcases q with q | q
        · omega
        · exact q.2⟩
    · exact RB_0 (by omega)
theorem cl_133 (ht : tOk tx n) {s : cm_S} {t : Nat} {T : tT} (h : cJ tx n s t T) {i j : Int} (h0 : 0 ≤ i) (h1 : i < tSz T) (j0 : 0 ≤ j) (j1 : j < tSz T) : ∀ (k : Nat) (m : Int), m + k = lbN (nLb (nT T i)) → 0 ≤ m → RB (cm_lp cm_sem cm_k133 16 [some (.inr (.inl 36)), some (.inl i), some (.inl j), some (.inl (lbN (nLb (nT T i)))), some (.inl m)] [] s) s (∀ q, m ≤ q → q < lbN (nLb (nT T i)) → tA tx n (lbP (nLb (nT T i)) + q) = tA tx n (lbP (nLb (nT T j)) + q)) := by
  have n9 := ht.2.1
  obtain ⟨g1, g2, g3, -⟩ := (h.g h0 h1).1
  obtain ⟨f1, f2, f3, -⟩ := (h.g j0 j1).1
  intro k
  induction k with
  | zero =>
    intro m hm m0
    rw [cE_133_16, cF_133_16, if_neg (by omega)]
    exact RB_1 fun i a b => by omega
  | succ k ih =>
    intro m hm m0
    rw [cE_133_16, cF_133_16, if_pos (by omega)]
    simp only [h.tn, if_pos h.cl, h.pl h0 h1, h.pl j0 j1, cm_bi_i, cs_28 ht h.2.2.2.2.1]
    rw [cm_w_id (by omega) (by omega), cm_w_id (by omega) (by omega)]
    split
    · next e =>
      rw [cm_w_id (by omega) (by omega)]
      refine RB_iff (ih (m + 1) (by omega) (by omega)) ⟨fun q i a b => ?_, fun q i a b => q i (by omega) b⟩
      by_cases hi : i = m
      · rw [hi]; exact e
      · exact q i (by omega) b
    · next e => exact RB_0 fun q => e (q m (Int.le_refl _) (by omega))
theorem c_133 (ht : tOk tx n) {s : cm_S} {t : Nat} {T : tT} (h : cJ tx n s t T) {i j : Int} (h0 : 0 ≤ i) (h1 : i < tSz T) (j0 : 0 ≤ j) (j1 : j < tSz T) : RB (cm_sem 133 [.inr (.inl 36), .inl i, .inl j] s) s (alk tx n (nLb (nT T i)) (nLb (nT T j))) := by
  obtain ⟨g1, g2, g3, -⟩ := (h.g h0 h1).1
  rw [cS_133, cF_133_0]
  simp only [h.tn, if_pos h.cl, h.ln h0 h1, h.ln j0 j1, cm_bi_i]
  split
  · next e => exact RB_iff (cl_133 ht h h0 h1 j0 j1 (lbN (nLb (nT T i))).toNat 0 (by omega) (Int.le_refl _)) ⟨fun q => ⟨e, q⟩, fun q => q.2⟩
  · next e => exact RB_0 fun q => e q.1
theorem c_134 (ht : tOk tx n) {s : cm_S} {t : Nat} {T : tT} (h : cJ tx n s t T) {i : Int} (h0 : 0 ≤ i) (h1 : i < tSz T) : RB (cm_sem 134 [.inr (.inl 36), .inl i] s) s (tgt (nT T i) ∧ fK0 (nCh (nT T i)) = 31 ∧ spc tx n (fL0 (nCh (nT T i)))) := by
  have g := (h.g h0 h1).2.1
  have n9 := h.2.2.2.1
  rw [cS_134, cF_134_0]
  refine RB_if (c_127 h h0 h1) (fun p => ?_) (fun p => RB_0 fun q => p q.1)
  have hc := gC_ne g (by unfold tgt at p; omega)
  obtain ⟨a1, a2, a3⟩ := nT_1 h0 h1 hc
  simp only [h.tn, if_pos h.cl, h.k1 h0 h1 hc, cm_bi_i]
  split
  · next e =>
    rw [cm_w_id (by omega) (by omega)]
    have := c_131 ht h (i := i + 1) (by omega) a1
    rw [a2] at this
    exact RB_iff (RB_bl this) ⟨fun q => ⟨p, e, q⟩, fun q => q.2.2⟩
  · next e => exact RB_0 fun q => e q.2.1
theorem c_135 {s : cm_S} {t : Nat} {T : tT} (h : cJ tx n s t T) {i : Int} (h0 : 0 ≤ i) (h1 : i < tSz T) : RB (cm_sem 135 [.inr (.inl 36), .inl i] s) s ((nLb (nT T i)).1 = 45 ∧ lbC (nLb (nT T i)) = 6 ∧ fK0 (nCh (nT T i)) = 31) := by
  have g := (h.g h0 h1).2.1
  rw [cS_135, cF_135_0]
  simp only [h.tn, if_pos h.cl, h.kd h0 h1, h.sg h0 h1, cm_bi_i]
  split
  · next e =>
    split
    · next e2 =>
      rw [h.k1 h0 h1 (gC_ne g (by omega)), cm_bi_i]
      split
      · exact RB_1 (by omega)
      · exact RB_0 (by omega)
    · exact RB_0 (by omega)
  · exact RB_0 (by omega)
end TX83
