/-! ===== the reference's judge: jumps, judge() ===== -/
section TX93
variable {tx : Int → Int} {n : Int}
theorem r_269 (k : Int) (s : cm_S) : RB (cm_sem 269 [.inl k] s) s (isLp k) := by
  rw [cS_269, cF_269_0]
  unfold isLp
  repeat' split
  all_goals first | exact RB_1 (by omega) | exact RB_0 (by omega)
theorem inFn_n (T : tT) (m : Nat) : ¬ inFn T m (-1) := by
  cases m with
  | zero => exact fun q => q
  | succ m => exact fun q => absurd q.1 (by decide)
theorem inLp_n (T : tT) (sw : Int) (m : Nat) : ¬ inLp T sw m (-1) := by
  cases m with
  | zero => exact fun q => q
  | succ m => exact fun q => absurd q.1 (by decide)
theorem LbA_n (T : tT) (l : tLb) (m : Nat) : LbA tx n T l m (-1) (-1) := by
  cases m with
  | zero => rfl
  | succ m => exact Or.inl ⟨Or.inl (by decide), rfl⟩
theorem LbA_s {T : tT} {l : tLb} {m : Nat} {k w : Int} (k0 : 0 ≤ k) (h23 : (nLb (nT T k)).1 ≠ 23) (hn : ¬ ((nLb (nT T k)).1 = 16 ∧ alk tx n (nLb (nT T k)) l)) : LbA tx n T l (m + 1) k w ↔ LbA tx n T l m (nPa (nT T k)) w := by
  constructor
  · rintro (q | q | q)
    · omega
    · exact absurd ⟨q.2.1, q.2.2.1⟩ hn
    · exact q.2.2.2
  · exact fun q => Or.inr (Or.inr ⟨k0, h23, hn, q⟩)
theorem rJ.k00 {r : cm_S} {T : tT} (h : rJ tx n r T) (hT : T.1.1 = 0) {i : Int} (h0 : 0 ≤ i) (h1 : i < tSz T) : (nLb (nT T i)).1 = 0 ↔ i = 0 := by
  constructor
  · intro e
    by_cases hi : i = 0
    · exact hi
    · exact absurd e (h.k0 (by omega) h1).1
  · intro e
    rw [e, nT_0]
    exact hT
theorem nT_p0 (T : tT) : nPa (nT T 0) = -1 := by rw [nT_0]
theorem rl_268c {r : cm_S} {T : tT} (h : rJ tx n r T) (o1 o3 : Option cm_V) {x2 : Int} : ∀ (m : Nat) (k : Int), 0 ≤ k → k < tSz T → tSz T - k ≤ m → RB (cm_lp cm_sem cm_k268 70 [some (.inr (.inl 41)), o1, some (.inl x2), o3, some (.inl (nO T k))] [] r) r (x2 = 0 ∨ lpS T m k) := by
  intro m
  induction m with
  | zero => intro k a b c; omega
  | succ m ih =>
    intro k k0 k1 hm
    have o := h.no k0 k1
    rw [cE_268_70, cF_268_70]
    simp only [if_pos o, h.kd k0 k1]
    unfold lpS
    split
    · next e =>
      have hc := gC_ne (h.g k0 k1).2.1 (by omega)
      rw [h.fi k0 k1 hc]
      refine RB_iff (ih (k + 1) (by omega) (nT_1 k0 k1 hc).1 (by omega)) ⟨fun q => q.imp id fun q => Or.inl ⟨e, q⟩, fun q => q.imp id fun q => ?_⟩
      exact (q.resolve_right fun z => z.1 e).2
    · next e =>
      split
      · next e2 => exact RB_1 (Or.inl e2)
      · next e2 => exact RB_iff (RB_bl (r_269 _ r)) ⟨fun q => Or.inr (Or.inr ⟨e, q⟩), fun q => ((q.resolve_left e2).resolve_left fun z => e z.1).2⟩
theorem rl_268a (ht : tOk tx n) {r : cm_S} {T : tT} (h : rJ tx n r T) (hT : T.1.1 = 0) {i : Int} (h0 : 0 ≤ i) (h1 : i < tSz T) (hl : lbN (nLb (nT T i)) = 0) (x2 sw : Int) (hs : sw ≠ 0 ↔ x2 = 0) (o4 : Option cm_V) : ∀ (m : Nat) (k : Int), 0 ≤ k → k < tSz T → k < m → RB (cm_lp cm_sem cm_k268 16 [some (.inr (.inl 41)), some (.inl (nO T i)), some (.inl x2), some (.inl (nO T k)), o4] [] r) r (inLp T sw m k) := by
  have oi := h.no h0 h1
  intro m
  induction m with
  | zero => intro k a b c; omega
  | succ m ih =>
    intro k k0 k1 hm
    have o := h.no k0 k1
    have kz := h.k00 hT k0 k1
    rw [cE_268_16, cF_268_16]
    simp only [if_pos o, if_pos oi, h.kd k0 k1, h.ln h0 h1, if_pos hl, if_neg (show ¬ (0 : Int) < lbN (nLb (nT T i)) by omega)]
    unfold inLp
    split
    · next e => exact RB_0 fun q => q.2.1 e
    · next e23 =>
      split
      · next e0 =>
        have e1 := kz.mp e0
        subst e1
        refine RB_0 fun q => ?_
        rcases q.2.2 with q | q | q
        · unfold isLp at q; omega
        · omega
        · rw [nT_p0] at q
          exact inLp_n T sw m q
      · next e0 =>
        have kp : 0 < k := by
          by_cases hk : k = 0
          · exact absurd (kz.mpr hk) e0
          · omega
        have mm := nT_mem kp k1
        have go : ¬ isLp (nLb (nT T k)).1 → ¬ (sw ≠ 0 ∧ (nLb (nT T k)).1 = 14) → RB (cm_lp cm_sem cm_k268 16 [some (.inr (.inl 41)), some (.inl (nO T i)), some (.inl x2), some (.inl (r.2 52 (nO T k))), o4] [] r) r (0 ≤ k ∧ (nLb (nT T k)).1 ≠ 23 ∧ (isLp (nLb (nT T k)).1 ∨ sw ≠ 0 ∧ (nLb (nT T k)).1 = 14 ∨ inLp T sw m (nPa (nT T k)))) := fun a b => by
          rw [h.pa kp k1]
          exact RB_iff (ih _ mm.1 (by omega) (by omega)) ⟨fun q => ⟨k0, e23, Or.inr (Or.inr q)⟩, fun q => (q.2.2.resolve_left a).resolve_left b⟩
        refine RB_if (r_269 _ r) (fun p => RB_1 ⟨k0, e23, Or.inl p⟩) (fun p => ?_)
        split
        · next ex =>
          simp only [h.kd k0 k1]
          split
          · next e14 => exact RB_1 ⟨k0, e23, Or.inr (Or.inl ⟨hs.mpr ex, e14⟩)⟩
          · next e14 =>
            simp only [h.ln h0 h1, if_neg (show ¬ (0 : Int) < lbN (nLb (nT T i)) by omega)]
            exact go p fun q => e14 q.2
        · next ex =>
          simp only [h.ln h0 h1, if_neg (show ¬ (0 : Int) < lbN (nLb (nT T i)) by omega)]
          exact go p fun q => ex (hs.mp q.1)
theorem rl_268b (ht : tOk tx n) {r : cm_S} {T : tT} (h : rJ tx n r T) (hT : T.1.1 = 0) {i : Int} (h0 : 0 ≤ i) (h1 : i < tSz T) (hl : ¬ lbN (nLb (nT T i)) = 0) (x2 : Int) (o4 : Option cm_V) : ∀ (m : Nat) (k : Int), 0 ≤ k → k < tSz T → k < m → RB (cm_lp cm_sem cm_k268 16 [some (.inr (.inl 41)), some (.inl (nO T i)), some (.inl x2), some (.inl (nO T k)), o4] [] r) r (x2 = 0 ∧ ¬ LbA tx n T (nLb (nT T i)) m k (-1) ∨ x2 ≠ 0 ∧ ∃ w, LbA tx n T (nLb (nT T i)) m k w ∧ w ≠ -1 ∧ lpS T 600 w) := by
  have t9 := h.1
  have oi := h.no h0 h1
  have lp : 0 < lbN (nLb (nT T i)) := by have := (h.g h0 h1).1.2.1; omega
  intro m
  induction m with
  | zero => intro k a b c; omega
  | succ m ih =>
    intro k k0 k1 hm
    have o := h.no k0 k1
    have kz := h.k00 hT k0 k1
    rw [cE_268_16, cF_268_16]
    simp only [if_pos o, if_pos oi, h.kd k0 k1, h.ln h0 h1, if_neg hl, if_pos lp]
    have stop : LbA tx n T (nLb (nT T i)) (m + 1) k (-1) → ¬ (x2 = 0 ∧ ¬ LbA tx n T (nLb (nT T i)) (m + 1) k (-1) ∨ x2 ≠ 0 ∧ ∃ w, LbA tx n T (nLb (nT T i)) (m + 1) k w ∧ w ≠ -1 ∧ lpS T 600 w) := fun a q => by
      rcases q with ⟨_, q⟩ | ⟨_, w, q1, q2, _⟩
      · exact q a
      · exact q2 (LbA_u _ _ _ _ q1 a)
    split
    · next e => exact RB_0 (stop (Or.inl ⟨Or.inr e, rfl⟩))
    · next e23 =>
      split
      · next e0 =>
        have e1 := kz.mp e0
        subst e1
        refine RB_0 (stop (Or.inr (Or.inr ⟨k0, e23, fun q => by omega, ?_⟩)))
        rw [nT_p0]
        exact LbA_n T _ m
      · next e0 =>
        have kp : 0 < k := by
          by_cases hk : k = 0
          · exact absurd (kz.mpr hk) e0
          · omega
        have mm := nT_mem kp k1
        have go : ¬ ((nLb (nT T k)).1 = 16 ∧ alk tx n (nLb (nT T k)) (nLb (nT T i))) → RB (cm_lp cm_sem cm_k268 16 [some (.inr (.inl 41)), some (.inl (nO T i)), some (.inl x2), some (.inl (r.2 52 (nO T k))), o4] [] r) r (x2 = 0 ∧ ¬ LbA tx n T (nLb (nT T i)) (m + 1) k (-1) ∨ x2 ≠ 0 ∧ ∃ w, LbA tx n T (nLb (nT T i)) (m + 1) k w ∧ w ≠ -1 ∧ lpS T 600 w) := fun a => by
          rw [h.pa kp k1]
          have e := fun w => LbA_s (tx := tx) (n := n) (T := T) (l := nLb (nT T i)) (m := m) (w := w) k0 e23 a
          simp only [e]
          exact ih _ mm.1 (by omega) (by omega)
        split
        · next e16 =>
          refine RB_if (r_266 ht h k0 k1 h0 h1) (fun p => ?_) (fun p => go fun q => p q.2)
          have hc := gC_ne (h.g k0 k1).2.1 (by omega)
          have n1 := (nT_1 k0 k1 hc).1
          rw [h.fi k0 k1 hc]
          have L : LbA tx n T (nLb (nT T i)) (m + 1) k k := Or.inr (Or.inl ⟨k0, e16, p, rfl⟩)
          have Lp : lpS T 600 k ↔ lpS T 599 (k + 1) := ⟨fun q => (Or.resolve_right q fun z => z.1 e16).2, fun q => Or.inl ⟨e16, q⟩⟩
          refine RB_iff (rl_268c h _ _ 599 (k + 1) (by omega) n1 (by omega)) ⟨fun q => ?_, fun q => ?_⟩
          · by_cases hx : x2 = 0
            · exact Or.inl ⟨hx, fun z => by have := LbA_u _ _ _ _ L z; omega⟩
            · exact Or.inr ⟨hx, k, L, by omega, Lp.mpr (q.resolve_left hx)⟩
          · rcases q with q | ⟨_, w, q1, q2, q3⟩
            · exact Or.inl q.1
            · have := LbA_u _ _ _ _ L q1
              subst this
              exact Or.inr (Lp.mp q3)
        · next e16 => exact go fun q => e16 q.1
theorem r_268 (ht : tOk tx n) {r : cm_S} {T : tT} (h : rJ tx n r T) (hT : T.1.1 = 0) {i : Int} (h0 : 0 < i) (h1 : i < tSz T) : RB (cm_sem 268 [.inr (.inl 41), .inl (nO T i)] r) r (lbN (nLb (nT T i)) = 0 ∧ inLp T (if (nLb (nT T i)).1 = 11 then 0 else 1) 600 (nPa (nT T i)) ∨ ¬ lbN (nLb (nT T i)) = 0 ∧ ((nLb (nT T i)).1 ≠ 11 ∧ ¬ LbA tx n T (nLb (nT T i)) 600 (nPa (nT T i)) (-1) ∨ (nLb (nT T i)).1 = 11 ∧ ∃ w, LbA tx n T (nLb (nT T i)) 600 (nPa (nT T i)) w ∧ w ≠ -1 ∧ lpS T 600 w)) := by
  have t9 := h.1
  have oi := h.no (Int.le_of_lt h0) h1
  have mm := nT_mem h0 h1
  rw [cS_268, cF_268_0]
  simp only [if_pos oi, h.kd (Int.le_of_lt h0) h1, h.pa h0 h1]
  have A := fun x2 sw hs (hl : lbN (nLb (nT T i)) = 0) => rl_268a ht h hT (Int.le_of_lt h0) h1 hl x2 sw hs none 600 (nPa (nT T i)) mm.1 (by omega) (by omega)
  have B := fun x2 (hl : ¬ lbN (nLb (nT T i)) = 0) => rl_268b ht h hT (Int.le_of_lt h0) h1 hl x2 none 600 (nPa (nT T i)) mm.1 (by omega) (by omega)
  by_cases e : (nLb (nT T i)).1 = 11
  · rw [if_pos e]
    simp only [if_pos e]
    by_cases hl : lbN (nLb (nT T i)) = 0
    · exact RB_iff (A 1 0 (by decide) hl) ⟨fun q => Or.inl ⟨hl, q⟩, fun q => (q.resolve_right fun z => z.1 hl).2⟩
    · refine RB_iff (B 1 hl) ⟨fun q => Or.inr ⟨hl, ?_⟩, fun q => ?_⟩
      · rcases q with q | q
        · exact absurd q.1 (by decide)
        · exact Or.inr ⟨e, q.2⟩
      · rcases (q.resolve_left fun z => hl z.1).2 with q | q
        · exact absurd e q.1
        · exact Or.inr ⟨by decide, q.2⟩
  · rw [if_neg e]
    simp only [if_neg e]
    by_cases hl : lbN (nLb (nT T i)) = 0
    · exact RB_iff (A 0 1 (by decide) hl) ⟨fun q => Or.inl ⟨hl, q⟩, fun q => (q.resolve_right fun z => z.1 hl).2⟩
    · refine RB_iff (B 0 hl) ⟨fun q => Or.inr ⟨hl, ?_⟩, fun q => ?_⟩
      · rcases q with q | q
        · exact Or.inl ⟨e, q.2⟩
        · exact absurd rfl q.1
      · rcases (q.resolve_left fun z => hl z.1).2 with q | q
        · exact Or.inl ⟨rfl, q.2⟩
        · exact absurd q.1 e
theorem rl_267r {r : cm_S} {T : tT} (h : rJ tx n r T) (hT : T.1.1 = 0) (x1 : Int) : ∀ (m : Nat) (k : Int), 0 ≤ k → k < tSz T → k < m → RB (cm_lp cm_sem cm_k267 84 [some (.inr (.inl 41)), some (.inl x1), some (.inl 13), some (.inl 0), some (.inl (nO T k))] [] r) r (¬ inFn T m k) := by
  intro m
  induction m with
  | zero => intro k a b c; omega
  | succ m ih =>
    intro k k0 k1 hm
    have o := h.no k0 k1
    have kz := h.k00 hT k0 k1
    rw [cE_267_84, cF_267_84]
    simp only [if_pos o, h.kd k0 k1, if_true, if_neg (show ¬ (13 : Int) = 16 by decide)]
    unfold inFn
    split
    · next e =>
      rw [if_neg (by omega)]
      exact RB_0 fun q => q ⟨k0, Or.inl e⟩
    · next e23 =>
      split
      · next e0 =>
        have e1 := kz.mp e0
        subst e1
        refine RB_1 fun q => ?_
        rcases q.2 with q | q
        · exact e23 q
        · rw [nT_p0] at q
          exact inFn_n T m q
      · next e0 =>
        have kp : 0 < k := by
          by_cases hk : k = 0
          · exact absurd (kz.mpr hk) e0
          · omega
        have mm := nT_mem kp k1
        rw [h.pa kp k1]
        exact RB_iff (ih _ mm.1 (by omega) (by omega)) ⟨fun q z => q (z.2.resolve_left e23), fun q z => q ⟨k0, Or.inr z⟩⟩
theorem rl_267l (ht : tOk tx n) {r : cm_S} {T : tT} (h : rJ tx n r T) (hT : T.1.1 = 0) {i : Int} (h0 : 0 ≤ i) (h1 : i < tSz T) : ∀ (m : Nat) (k z : Int), 0 ≤ k → k < tSz T → k < m → (z = 0 ∨ z = 1) → RB (cm_lp cm_sem cm_k267 84 [some (.inr (.inl 41)), some (.inl (nO T i)), some (.inl 16), some (.inl z), some (.inl (nO T k))] [] r) r (z = 1 ∨ ¬ LbA tx n T (nLb (nT T i)) m k (-1)) := by
  intro m
  induction m with
  | zero => intro k z a b c; omega
  | succ m ih =>
    intro k z k0 k1 hm hz
    have o := h.no k0 k1
    have kz := h.k00 hT k0 k1
    have fin : LbA tx n T (nLb (nT T i)) (m + 1) k (-1) → RB (if z = 0 then some (.inl (some (.inl 0)), r) else some (.inl (some (.inl 1)), r)) r (z = 1 ∨ ¬ LbA tx n T (nLb (nT T i)) (m + 1) k (-1)) := fun a => by
      rcases hz with rfl | rfl
      · rw [if_pos rfl]
        exact RB_0 fun q => by
          rcases q with q | q
          · omega
          · exact q a
      · rw [if_neg (by decide)]
        exact RB_1 (Or.inl rfl)
    rw [cE_267_84, cF_267_84]
    simp only [if_pos o, h.kd k0 k1, if_true, if_neg (show ¬ (16 : Int) = 13 by decide)]
    by_cases e23 : (nLb (nT T k)).1 = 23
    · rw [if_pos e23]
      exact fin (Or.inl ⟨Or.inr e23, rfl⟩)
    · rw [if_neg e23]
      by_cases e0 : (nLb (nT T k)).1 = 0
      · rw [if_pos e0]
        have e1 := kz.mp e0
        refine fin (Or.inr (Or.inr ⟨k0, e23, fun q => by omega, ?_⟩))
        rw [e1, nT_p0]
        exact LbA_n T _ m
      · rw [if_neg e0]
        have kp : 0 < k := by
          by_cases hk : k = 0
          · exact absurd (kz.mpr hk) e0
          · omega
        have mm := nT_mem kp k1
        have go : ∀ z', (z' = 0 ∨ z' = 1) → ((z' = 1 ∨ ¬ LbA tx n T (nLb (nT T i)) m (nPa (nT T k)) (-1)) ↔ (z = 1 ∨ ¬ LbA tx n T (nLb (nT T i)) (m + 1) k (-1))) → RB (cm_lp cm_sem cm_k267 84 [some (.inr (.inl 41)), some (.inl (nO T i)), some (.inl 16), some (.inl z'), some (.inl (r.2 52 (nO T k)))] [] r) r (z = 1 ∨ ¬ LbA tx n T (nLb (nT T i)) (m + 1) k (-1)) := fun z' hz' hq => by
          rw [h.pa kp k1]
          exact RB_iff (ih _ z' mm.1 (by omega) (by omega) hz') hq
        rcases hz with rfl | rfl
        · rw [if_pos rfl]
          split
          · next e16 =>
            refine RB_if (r_266 ht h k0 k1 h0 h1) (fun p => ?_) (fun p => ?_)
            · refine go 1 (Or.inr rfl) ⟨fun _ => Or.inr fun q => ?_, fun _ => Or.inl rfl⟩
              have := LbA_u _ _ _ _ q (Or.inr (Or.inl ⟨k0, e16, p, rfl⟩))
              omega
            · refine go 0 (Or.inl rfl) ?_
              rw [LbA_s k0 e23 fun q => p q.2]
          · next e16 =>
            refine go 0 (Or.inl rfl) ?_
            rw [LbA_s k0 e23 fun q => e16 q.1]
        · rw [if_neg (by decide)]
          exact go 1 (Or.inr rfl) ⟨fun _ => Or.inl rfl, fun _ => Or.inl rfl⟩
theorem rl_267d {r : cm_S} {T : tT} (h : rJ tx n r T) {i : Int} (h0 : 0 < i) (h1 : i < tSz T) : ∀ (d : Nat) (k z : Int), i - k ≤ d → 0 < k → k ≤ i → nPa (nT T k) = nPa (nT T i) → (z = 0 ∨ z = 1) → RB (cm_lp cm_sem cm_k267 42 [some (.inr (.inl 41)), some (.inl (nO T i)), some (.inl 15), some (.inl z), some (.inl (nO T k))] [] r) r (z = 1 ∨ dfl T i k) := by
  have o := h.no (Int.le_of_lt h0) h1
  have done : ∀ (z : Int), (z = 0 ∨ z = 1) → RB (cm_lp cm_sem cm_k267 42 [some (.inr (.inl 41)), some (.inl (nO T i)), some (.inl 15), some (.inl z), some (.inl (nO T i))] [] r) r (z = 1 ∨ dfl T i i) := fun z hz => by
    rw [cE_267_42, cF_267_42, if_pos rfl, if_neg (by decide), if_neg (by decide), if_pos (by omega)]
    rcases hz with rfl | rfl
    · exact RB_0 fun q => by
        rcases q with q | ⟨q, a, b, -⟩ <;> omega
    · exact RB_1 (Or.inl rfl)
  intro d
  induction d with
  | zero =>
    intro k z hd k0 hk hp hz
    have e : k = i := by omega
    subst e
    exact done z hz
  | succ d ih =>
    intro k z hd k0 hk hp hz
    by_cases e : k = i
    · subst e
      exact done z hz
    · have k1 : k < tSz T := by omega
      have ok := h.no (Int.le_of_lt k0) k1
      have mk := nT_mem k0 k1
      have c0 := fSz_0 (nCh (nT T k))
      obtain ⟨s1, s2⟩ := sib_step (T := T) (fun q => (nLb (nT T q)).1 = 15 ∧ fK0 (nCh (nT T q)) = 21) (Int.le_of_lt k0) k1 (by omega) h1 hp (by omega)
      have re : nRe (nT T k) ≠ .leaf := by
        intro hl
        have pp := (nT_p (T := T) (i := i) (Int.le_of_lt h0) h1).2
        have e2 : k + 1 + fSz (nCh (nT T k)) = nPa (nT T k) + 1 + fSz (nCh (nT T (nPa (nT T k)))) := nT_lst k0 k1 hl
        rw [hp] at e2
        omega
      have n2 := nT_2 (Int.le_of_lt k0) k1 re
      have s2' : dfl T i k ↔ ((nLb (nT T k)).1 = 15 ∧ fK0 (nCh (nT T k)) = 21) ∨ dfl T i (k + 1 + fSz (nCh (nT T k))) := s2
      have go : ∀ z', (z' = 0 ∨ z' = 1) → ((z' = 1 ∨ dfl T i (k + 1 + fSz (nCh (nT T k)))) ↔ (z = 1 ∨ dfl T i k)) → RB (cm_lp cm_sem cm_k267 42 [some (.inr (.inl 41)), some (.inl (nO T i)), some (.inl 15), some (.inl z'), some (.inl (r.2 51 (nO T k)))] [] r) r (z = 1 ∨ dfl T i k) := fun z' hz' hq => by
        rw [h.nx (Int.le_of_lt k0) k1 re]
        exact RB_iff (ih (k + 1 + fSz (nCh (nT T k))) z' (by omega) (by omega) s1 (n2.2.1.trans hp) hz') hq
      rw [cE_267_42, cF_267_42, if_neg (fun q => e (h.inj (Int.le_of_lt k0) k1 (Int.le_of_lt h0) h1 q))]
      simp only [if_pos ok, h.kd (Int.le_of_lt k0) k1]
      rcases hz with rfl | rfl
      · rw [if_pos rfl]
        split
        · next e15 =>
          have hc := gC_ne (h.g (Int.le_of_lt k0) k1).2.1 (by omega)
          obtain ⟨b1, b2, b3⟩ := nT_1 (Int.le_of_lt k0) k1 hc
          have o1 := h.no (i := k + 1) (by omega) b1
          rw [h.fi (Int.le_of_lt k0) k1 hc, if_pos o1, h.kd (by omega) b1, b2, fL0_k]
          split
          · next e21 => exact go 1 (Or.inr rfl) ⟨fun _ => Or.inr (s2'.mpr (Or.inl ⟨e15, e21⟩)), fun _ => Or.inl rfl⟩
          · next e21 => exact go 0 (Or.inl rfl) ⟨fun q => q.imp id fun q => s2'.mpr (Or.inr q), fun q => q.imp id fun q => (s2'.mp q).resolve_left fun z => e21 z.2⟩
        · next e15 => exact go 0 (Or.inl rfl) ⟨fun q => q.imp id fun q => s2'.mpr (Or.inr q), fun q => q.imp id fun q => (s2'.mp q).resolve_left fun z => e15 z.1⟩
      · rw [if_neg (by decide)]
        exact go 1 (Or.inr rfl) ⟨fun _ => Or.inl rfl, fun _ => Or.inl rfl⟩
end TX93
