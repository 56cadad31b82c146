/-! ===== the reference's judge: names, brothers ===== -/
section TX89
variable {tx : Int → Int} {n : Int}
theorem r_261 (ht : tOk tx n) {r : cm_S} {T : tT} (h : rJ tx n r T) {i : Int} (h0 : 0 ≤ i) (h1 : i < tSz T) : RB (cm_sem 261 [.inr (.inl 41), .inl (nO T i)] r) r (tgt (nT T i)) := by
  have n9 := ht.2.1
  have t9 := h.1
  have o := h.no h0 h1
  have g := h.g h0 h1
  rw [cS_261, cF_261_0]
  simp only [if_pos o, h.kd h0 h1, h.pl h0 h1, h.ln h0 h1]
  unfold tgt
  by_cases h45 : (nLb (nT T i)).1 = 45
  · obtain ⟨a1, a2, a3, a4⟩ := pre_tx ht g.1 h45
    rw [if_neg (by omega), if_neg (by omega), if_pos h45]
    simp only [if_pos (show (0 : Int) ≤ lbP (nLb (nT T i)) ∧ lbP (nLb (nT T i)) < 480 by omega), h.tex a1 a2, if_neg (show ¬ (nLb (nT T i)).1 = 10 by omega)]
    repeat' split
    all_goals first | exact RB_1 (by omega) | exact RB_0 (by omega)
  · by_cases h10 : (nLb (nT T i)).1 = 10
    · have hc := gC_ne g.2.1 (by omega)
      obtain ⟨b1, b2, b3⟩ := nT_1 h0 h1 hc
      have o1 := h.no (i := i + 1) (by omega) b1
      rw [if_neg (by omega), if_neg (by omega), if_neg h45, if_pos h10, h.fi h0 h1 hc, if_pos o1, h.kd (by omega) b1, b2, fL0_k]
      split
      · exact RB_0 (by omega)
      · exact RB_1 (by omega)
    · simp only [if_neg h45, if_neg h10]
      repeat' split
      all_goals first | exact RB_1 (by omega) | exact RB_0 (by omega)
theorem r_264 (ht : tOk tx n) {r : cm_S} {T : tT} (h : rJ tx n r T) {i : Int} (h0 : 0 ≤ i) (h1 : i < tSz T) : RB (cm_sem 264 [.inr (.inl 41), .inl (nO T i)] r) r ((nLb (nT T i)).1 = 45 ∧ lbC (nLb (nT T i)) = 6) := by
  have n9 := ht.2.1
  have o := h.no h0 h1
  have g := h.g h0 h1
  rw [cS_264, cF_264_0]
  simp only [if_pos o, h.kd h0 h1, h.pl h0 h1]
  split
  · next h45 =>
    obtain ⟨a1, a2, a3, a4⟩ := pre_tx ht g.1 h45
    rw [if_pos (by omega), h.tex a1 a2]
    split
    · exact RB_1 (by omega)
    · exact RB_0 (by omega)
  · exact RB_0 (by omega)
theorem rl_266 (ht : tOk tx n) {r : cm_S} {T : tT} (h : rJ tx n r T) {i j : Int} (h0 : 0 ≤ i) (h1 : i < tSz T) (j0 : 0 ≤ j) (j1 : j < tSz T) (e : lbN (nLb (nT T i)) = lbN (nLb (nT T j))) : ∀ (k : Nat) (m : Int), m + k = lbN (nLb (nT T i)) → 0 ≤ m → RB (cm_lp cm_sem cm_k266 16 [some (.inr (.inl 41)), some (.inl (nO T i)), some (.inl (nO T j)), some (.inl 1), some (.inl m)] [] r) r (∀ q, m ≤ q → q < lbN (nLb (nT T i)) → tA tx n (lbP (nLb (nT T i)) + q) = tA tx n (lbP (nLb (nT T j)) + q)) := by
  have n9 := ht.2.1
  have o := h.no h0 h1
  have oj := h.no j0 j1
  obtain ⟨g1, g2, g3, -⟩ := (h.g h0 h1).1
  obtain ⟨f1, f2, f3, -⟩ := (h.g j0 j1).1
  intro k
  induction k with
  | zero =>
    intro m hm m0
    rw [cE_266_16, cF_266_16, if_neg (by decide), if_pos o, h.ln h0 h1, if_neg (by omega), if_pos (by decide)]
    exact RB_1 fun i a b => by omega
  | succ k ih =>
    intro m hm m0
    rw [cE_266_16, cF_266_16, if_neg (by decide)]
    simp only [if_pos o, if_pos oj, h.ln h0 h1, h.pl h0 h1, h.pl j0 j1]
    rw [if_pos (by omega), cm_w_id (by omega) (by omega), cm_w_id (by omega) (by omega), if_pos (by omega), if_pos (by omega), h.tex (by omega) (by omega), h.tex (by omega) (by omega), cm_w_id (by omega) (by omega)]
    split
    · next e1 =>
      refine RB_iff (ih (m + 1) (by omega) (by omega)) ⟨fun q i a b => ?_, fun q i a b => q i (by omega) b⟩
      by_cases hi : i = m
      · rw [hi]; exact e1
      · exact q i (by omega) b
    · next e1 =>
      rw [cE_266_16, cF_266_16, if_pos rfl, if_pos (by decide)]
      exact RB_0 fun q => e1 (q m (Int.le_refl _) (by omega))
theorem r_266 (ht : tOk tx n) {r : cm_S} {T : tT} (h : rJ tx n r T) {i j : Int} (h0 : 0 ≤ i) (h1 : i < tSz T) (j0 : 0 ≤ j) (j1 : j < tSz T) : RB (cm_sem 266 [.inr (.inl 41), .inl (nO T i), .inl (nO T j)] r) r (alk tx n (nLb (nT T i)) (nLb (nT T j))) := by
  have o := h.no h0 h1
  have oj := h.no j0 j1
  obtain ⟨g1, g2, g3, -⟩ := (h.g h0 h1).1
  rw [cS_266, cF_266_0, if_pos o, if_pos oj, h.ln h0 h1, h.ln j0 j1]
  split
  · next e => exact RB_iff (rl_266 ht h h0 h1 j0 j1 e (lbN (nLb (nT T i))).toNat 0 (by omega) (Int.le_refl _)) ⟨fun q => ⟨e, q⟩, fun q => q.2⟩
  · next e =>
    rw [cE_266_16, cF_266_16, if_pos rfl, if_pos (by decide)]
    exact RB_0 fun q => e q.1
/-! isSpecial(): the packed letters -/
def pv (tx : Int → Int) (n p : Int) : Nat → Int
  | 0 => 0
  | k + 1 => 32 * pv tx n p k + tA tx n (p + k) - 96
def pvB : Nat → Int
  | 0 => 1
  | k + 1 => 32 * pvB k + 128
theorem pvB_le : ∀ k : Nat, k ≤ 10 → pvB k ≤ 9007199254740992 := by decide
theorem pv_b (ht : tOk tx n) {p : Int} (h0 : 0 ≤ p) : ∀ k : Nat, p + k ≤ n → - pvB k ≤ pv tx n p k ∧ pv tx n p k ≤ pvB k := by
  intro k
  induction k with
  | zero => intro _; exact ⟨by show (-1 : Int) ≤ 0; decide, by show (0 : Int) ≤ 1; decide⟩
  | succ k ih =>
    intro hk
    have b := tx_b ht (p := p + k) (by omega) (by omega)
    have := ih (by omega)
    have e : pvB (k + 1) = 32 * pvB k + 128 := rfl
    have e2 : pv tx n p (k + 1) = 32 * pv tx n p k + tA tx n (p + k) - 96 := rfl
    omega
theorem rl_263a (ht : tOk tx n) {r : cm_S} {T : tT} (h : rJ tx n r T) {i : Int} (h0 : 0 ≤ i) (h1 : i < tSz T) : ∀ (d k : Nat) (o3 o5 : Option cm_V), k + d = 10 → (k : Int) ≤ lbN (nLb (nT T i)) → ∃ (m : Nat) (o3' : Option cm_V), cm_lp cm_sem cm_k263 5 [some (.inr (.inl 41)), some (.inl (nO T i)), some (.inr (.inr (pv tx n (lbP (nLb (nT T i))) k))), o3, some (.inl k), o5] [] r = cm_lp cm_sem cm_k263 38 [some (.inr (.inl 41)), some (.inl (nO T i)), some (.inr (.inr (pv tx n (lbP (nLb (nT T i))) m))), o3', some (.inl 1), some (.inl 0)] [] r ∧ (lbN (nLb (nT T i)) ≤ 10 → (m : Int) = lbN (nLb (nT T i))) := by
  have n9 := ht.2.1
  have o := h.no h0 h1
  obtain ⟨g1, g2, g3, -⟩ := (h.g h0 h1).1
  intro d
  induction d with
  | zero =>
    intro k o3 o5 hk hl
    rw [cE_263_5, cF_263_5, if_pos o, h.ln h0 h1, if_neg (show ¬ (k : Int) < 10 by omega)]
    refine ⟨k, o3, ?_, fun q => by omega⟩
    split <;> rfl
  | succ d ih =>
    intro k o3 o5 hk hl
    rw [cE_263_5, cF_263_5, if_pos o, h.ln h0 h1, if_pos (show (k : Int) < 10 by omega), h.pl h0 h1]
    by_cases hlt : (k : Int) < lbN (nLb (nT T i))
    · have b := tx_b ht (p := lbP (nLb (nT T i)) + k) (by omega) (by omega)
      have pb := pv_b ht (p := lbP (nLb (nT T i))) g1 k (by omega)
      have pl := pvB_le k (by omega)
      rw [if_pos hlt, if_pos o, cm_w_id (by omega) (by omega), if_pos (by omega), h.tex (by omega) (by omega), cm_w_id (by omega) (by omega), cm_wl_id (z := 32 * pv tx n (lbP (nLb (nT T i))) k) (by omega) (by omega), cm_wl_id (z := 32 * pv tx n (lbP (nLb (nT T i))) k + tA tx n (lbP (nLb (nT T i)) + k)) (by omega) (by omega), cm_wl_id (by omega) (by omega)]
      have := ih (k + 1) none o5 (by omega) (by omega)
      exact this
    · rw [if_neg hlt]
      exact ⟨k, o3, rfl, fun q => by omega⟩
theorem rl_263b (ht : tOk tx n) {r : cm_S} {T : tT} (h : rJ tx n r T) {i : Int} (h0 : 0 ≤ i) (h1 : i < tSz T) (l2 : Int) (o3 : Option cm_V) : ∀ (d : Nat) (k z : Int), k + d = lbN (nLb (nT T i)) → 0 ≤ k → (z = 0 ∨ z = 1) → RB (cm_lp cm_sem cm_k263 38 [some (.inr (.inl 41)), some (.inl (nO T i)), some (.inr (.inr l2)), o3, some (.inl z), some (.inl k)] [] r) r ((z = 1 ∧ ∀ q, k ≤ q → q < lbN (nLb (nT T i)) → 97 ≤ tA tx n (lbP (nLb (nT T i)) + q) ∧ tA tx n (lbP (nLb (nT T i)) + q) ≤ 122) ∧ (lbN (nLb (nT T i)) = 4 ∧ l2 = 186412 ∨ lbN (nLb (nT T i)) = 9 ∧ l2 = 1726221564563)) := by
  have n9 := ht.2.1
  have o := h.no h0 h1
  obtain ⟨g1, g2, g3, -⟩ := (h.g h0 h1).1
  have c4 : ((if l2 < 186412 then (-1 : Int) else if l2 = 186412 then 0 else 1) = 0) = (l2 = 186412) := by
    apply propext
    constructor
    · intro z
      split at z
      · omega
      · split at z
        · assumption
        · omega
    · intro z
      rw [if_neg (by omega), if_pos z]
  have c9 : ((if l2 < 1726221564563 then (-1 : Int) else if l2 = 1726221564563 then 0 else 1) = 0) = (l2 = 1726221564563) := by
    apply propext
    constructor
    · intro z
      split at z
      · omega
      · split at z
        · assumption
        · omega
    · intro z
      rw [if_neg (by omega), if_pos z]
  intro d
  induction d with
  | zero =>
    intro k z hk k0 hz
    rw [cE_263_38, cF_263_38]
    simp only [if_pos o, h.ln h0 h1, c4, c9]
    rw [if_neg (by omega)]
    have tr : ∀ q, k ≤ q → q < lbN (nLb (nT T i)) → 97 ≤ tA tx n (lbP (nLb (nT T i)) + q) ∧ tA tx n (lbP (nLb (nT T i)) + q) ≤ 122 := fun q a b => by omega
    rcases hz with rfl | rfl
    · rw [if_pos rfl]
      exact RB_0 fun q => absurd q.1.1 (by decide)
    · rw [if_neg (by decide)]
      split
      · next e4 =>
        split
        · next e => exact RB_1 ⟨⟨rfl, tr⟩, Or.inl ⟨e4, e⟩⟩
        · next e =>
          rw [if_neg (by omega)]
          exact RB_0 fun q => by omega
      · next e4 =>
        split
        · next e9 =>
          split
          · next e => exact RB_1 ⟨⟨rfl, tr⟩, Or.inr ⟨e9, e⟩⟩
          · next e => exact RB_0 fun q => by omega
        · next e9 => exact RB_0 fun q => by omega
  | succ d ih =>
    intro k z hk k0 hz
    rw [cE_263_38, cF_263_38]
    simp only [if_pos o, h.ln h0 h1, h.pl h0 h1]
    rw [if_pos (by omega), cm_w_id (show -2147483648 ≤ k + 1 by omega) (by omega), cm_w_id (show -2147483648 ≤ lbP (nLb (nT T i)) + k by omega) (by omega), h.tex (by omega) (by omega)]
    simp only [if_pos (show (0 : Int) ≤ lbP (nLb (nT T i)) + k ∧ lbP (nLb (nT T i)) + k < 480 by omega)]
    have no : ∀ z', z' = 0 → ¬ (z = 1 ∧ 97 ≤ tA tx n (lbP (nLb (nT T i)) + k) ∧ tA tx n (lbP (nLb (nT T i)) + k) ≤ 122) → RB (cm_lp cm_sem cm_k263 38 [some (.inr (.inl 41)), some (.inl (nO T i)), some (.inr (.inr l2)), o3, some (.inl z'), some (.inl (k + 1))] [] r) r ((z = 1 ∧ ∀ q, k ≤ q → q < lbN (nLb (nT T i)) → 97 ≤ tA tx n (lbP (nLb (nT T i)) + q) ∧ tA tx n (lbP (nLb (nT T i)) + q) ≤ 122) ∧ (lbN (nLb (nT T i)) = 4 ∧ l2 = 186412 ∨ lbN (nLb (nT T i)) = 9 ∧ l2 = 1726221564563)) := fun z' hz' hn => by
      refine RB_iff (ih (k + 1) z' (by omega) (by omega) (Or.inl hz')) ⟨fun q => ?_, fun q => ?_⟩
      · exact absurd q.1.1 (by omega)
      · exact absurd ⟨q.1.1, q.1.2 k (Int.le_refl _) (by omega)⟩ hn
    split
    · next ez => exact no 0 rfl fun q => by omega
    · next ez =>
      split
      · next e1 => exact no 0 rfl fun q => by omega
      · next e1 =>
        split
        · next e2 => exact no 0 rfl fun q => by omega
        · next e2 =>
          refine RB_iff (ih (k + 1) 1 (by omega) (by omega) (Or.inr rfl)) ⟨fun q => ⟨⟨by omega, fun j a b => ?_⟩, q.2⟩, fun q => ⟨⟨rfl, fun j a b => q.1.2 j (by omega) b⟩, q.2⟩⟩
          by_cases hj : j = k
          · rw [hj]; omega
          · exact q.1.2 j (by omega) b
theorem r_263 (ht : tOk tx n) {r : cm_S} {T : tT} (h : rJ tx n r T) {i : Int} (h0 : 0 ≤ i) (h1 : i < tSz T) : RB (cm_sem 263 [.inr (.inl 41), .inl (nO T i)] r) r (spc tx n (nLb (nT T i))) := by
  obtain ⟨g1, g2, g3, -⟩ := (h.g h0 h1).1
  rw [cS_263, cF_263_0]
  obtain ⟨m, o3', e1, e2⟩ := rl_263a ht h h0 h1 10 0 none none rfl g2
  have e1' : cm_lp cm_sem cm_k263 5 [some (.inr (.inl 41)), some (.inl (nO T i)), some (.inr (.inr 0)), none, some (.inl 0), none] [] r = _ := e1
  rw [e1']
  refine RB_iff (rl_263b ht h h0 h1 (pv tx n (lbP (nLb (nT T i))) m) o3' (lbN (nLb (nT T i))).toNat 0 1 (by omega) (Int.le_refl _) (Or.inr rfl)) ?_
  unfold spc hA
  have k3 : cm_kn 1003 = 4 := rfl
  have k4 : cm_kn 1004 = 9 := rfl
  rw [k3, k4]
  constructor
  · rintro ⟨⟨-, q⟩, ⟨a, b⟩ | ⟨a, b⟩⟩
    · left
      refine ⟨a, fun j j0 j1 => ?_⟩
      have hm : m = 4 := by have := e2 (by omega); omega
      subst hm
      have q0 := q 0 (by omega) (by omega)
      have q1 := q 1 (by omega) (by omega)
      have q2 := q 2 (by omega) (by omega)
      have q3 := q 3 (by omega) (by omega)
      have b' : 32 * (32 * (32 * (32 * 0 + tA tx n (lbP (nLb (nT T i)) + 0) - 96) + tA tx n (lbP (nLb (nT T i)) + 1) - 96) + tA tx n (lbP (nLb (nT T i)) + 2) - 96) + tA tx n (lbP (nLb (nT T i)) + 3) - 96 = 186412 := b
      have : j = 0 ∨ j = 1 ∨ j = 2 ∨ j = 3 := by omega
      rcases this with rfl | rfl | rfl | rfl
      · show _ = (101 : Int); omega
      · show _ = (118 : Int); omega
      · show _ = (97 : Int); omega
      · show _ = (108 : Int); omega
    · right
      refine ⟨a, fun j j0 j1 => ?_⟩
      have hm : m = 9 := by have := e2 (by omega); omega
      subst hm
      have q0 := q 0 (by omega) (by omega)
      have q1 := q 1 (by omega) (by omega)
      have q2 := q 2 (by omega) (by omega)
      have q3 := q 3 (by omega) (by omega)
      have q4 := q 4 (by omega) (by omega)
      have q5 := q 5 (by omega) (by omega)
      have q6 := q 6 (by omega) (by omega)
      have q7 := q 7 (by omega) (by omega)
      have q8 := q 8 (by omega) (by omega)
      have b' : 32 * (32 * (32 * (32 * (32 * (32 * (32 * (32 * (32 * 0 + tA tx n (lbP (nLb (nT T i)) + 0) - 96) + tA tx n (lbP (nLb (nT T i)) + 1) - 96) + tA tx n (lbP (nLb (nT T i)) + 2) - 96) + tA tx n (lbP (nLb (nT T i)) + 3) - 96) + tA tx n (lbP (nLb (nT T i)) + 4) - 96) + tA tx n (lbP (nLb (nT T i)) + 5) - 96) + tA tx n (lbP (nLb (nT T i)) + 6) - 96) + tA tx n (lbP (nLb (nT T i)) + 7) - 96) + tA tx n (lbP (nLb (nT T i)) + 8) - 96 = 1726221564563 := b
      have : j = 0 ∨ j = 1 ∨ j = 2 ∨ j = 3 ∨ j = 4 ∨ j = 5 ∨ j = 6 ∨ j = 7 ∨ j = 8 := by omega
      rcases this with rfl | rfl | rfl | rfl | rfl | rfl | rfl | rfl | rfl
      · show _ = (97 : Int); omega
      · show _ = (114 : Int); omega
      · show _ = (103 : Int); omega
      · show _ = (117 : Int); omega
      · show _ = (109 : Int); omega
      · show _ = (101 : Int); omega
      · show _ = (110 : Int); omega
      · show _ = (116 : Int); omega
      · show _ = (115 : Int); omega
  · rintro (⟨a, q⟩ | ⟨a, q⟩)
    · have hm : m = 4 := by have := e2 (by omega); omega
      subst hm
      have q0 : tA tx n (lbP (nLb (nT T i)) + 0) = 101 := q 0 (by omega) (by omega)
      have q1 : tA tx n (lbP (nLb (nT T i)) + 1) = 118 := q 1 (by omega) (by omega)
      have q2 : tA tx n (lbP (nLb (nT T i)) + 2) = 97 := q 2 (by omega) (by omega)
      have q3 : tA tx n (lbP (nLb (nT T i)) + 3) = 108 := q 3 (by omega) (by omega)
      refine ⟨⟨rfl, fun j j0 j1 => ?_⟩, Or.inl ⟨a, ?_⟩⟩
      · have : j = 0 ∨ j = 1 ∨ j = 2 ∨ j = 3 := by omega
        rcases this with rfl | rfl | rfl | rfl <;> omega
      · show 32 * (32 * (32 * (32 * 0 + tA tx n (lbP (nLb (nT T i)) + 0) - 96) + tA tx n (lbP (nLb (nT T i)) + 1) - 96) + tA tx n (lbP (nLb (nT T i)) + 2) - 96) + tA tx n (lbP (nLb (nT T i)) + 3) - 96 = 186412
        omega
    · have hm : m = 9 := by have := e2 (by omega); omega
      subst hm
      have q0 : tA tx n (lbP (nLb (nT T i)) + 0) = 97 := q 0 (by omega) (by omega)
      have q1 : tA tx n (lbP (nLb (nT T i)) + 1) = 114 := q 1 (by omega) (by omega)
      have q2 : tA tx n (lbP (nLb (nT T i)) + 2) = 103 := q 2 (by omega) (by omega)
      have q3 : tA tx n (lbP (nLb (nT T i)) + 3) = 117 := q 3 (by omega) (by omega)
      have q4 : tA tx n (lbP (nLb (nT T i)) + 4) = 109 := q 4 (by omega) (by omega)
      have q5 : tA tx n (lbP (nLb (nT T i)) + 5) = 101 := q 5 (by omega) (by omega)
      have q6 : tA tx n (lbP (nLb (nT T i)) + 6) = 110 := q 6 (by omega) (by omega)
      have q7 : tA tx n (lbP (nLb (nT T i)) + 7) = 116 := q 7 (by omega) (by omega)
      have q8 : tA tx n (lbP (nLb (nT T i)) + 8) = 115 := q 8 (by omega) (by omega)
      refine ⟨⟨rfl, fun j j0 j1 => ?_⟩, Or.inr ⟨a, ?_⟩⟩
      · have : j = 0 ∨ j = 1 ∨ j = 2 ∨ j = 3 ∨ j = 4 ∨ j = 5 ∨ j = 6 ∨ j = 7 ∨ j = 8 := by omega
        rcases this with rfl | rfl | rfl | rfl | rfl | rfl | rfl | rfl | rfl <;> omega
      · show 32 * (32 * (32 * (32 * (32 * (32 * (32 * (32 * (32 * 0 + tA tx n (lbP (nLb (nT T i)) + 0) - 96) + tA tx n (lbP (nLb (nT T i)) + 1) - 96) + tA tx n (lbP (nLb (nT T i)) + 2) - 96) + tA tx n (lbP (nLb (nT T i)) + 3) - 96) + tA tx n (lbP (nLb (nT T i)) + 4) - 96) + tA tx n (lbP (nLb (nT T i)) + 5) - 96) + tA tx n (lbP (nLb (nT T i)) + 6) - 96) + tA tx n (lbP (nLb (nT T i)) + 7) - 96) + tA tx n (lbP (nLb (nT T i)) + 8) - 96 = 1726221564563
        omega
end TX89
