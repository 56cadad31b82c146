/-! ===== arrange(): the reference's order ===== -/
/-- order and spot of a forest's nodes: from k on in order, from lo on by number -/
def rOr (s : cm_S) : Int → Int → tF → Prop
  | _, _, .leaf => True
  | k, lo, .inner _ _ _ ch rest => s.2 65 k = lo + fSz ch ∧ s.2 66 (lo + fSz ch) = k ∧ rOr s (k + 1) lo ch ∧ rOr s (k + 1 + fSz ch) (lo + fSz ch + 1) rest
theorem rOr_fr {s s' : cm_S} : ∀ (f : tF) (k lo : Int), (∀ i, k ≤ i → i < k + fSz f → s'.2 65 i = s.2 65 i) → (∀ i, lo ≤ i → i < lo + fSz f → s'.2 66 i = s.2 66 i) → rOr s k lo f → rOr s' k lo f := by
  intro f
  induction f with
  | leaf => intro k lo _ _ _; trivial
  | inner x l u ch rest i1 i2 =>
    intro k lo h1 h2 h
    have e : fSz (.inner x l u ch rest) = 1 + fSz ch + fSz rest := rfl
    have c0 := fSz_0 ch
    have r0 := fSz_0 rest
    obtain ⟨a1, a2, a3, a4⟩ := h
    exact ⟨(h1 _ (by omega) (by omega)).trans a1, (h2 _ (by omega) (by omega)).trans a2, i1 _ _ (fun i b1 b2 => h1 i (by omega) (by omega)) (fun i b1 b2 => h2 i (by omega) (by omega)) a3, i2 _ _ (fun i b1 b2 => h1 i (by omega) (by omega)) (fun i b1 b2 => h2 i (by omega) (by omega)) a4⟩
/-- what the walk changes -/
def aF (s s' : cm_S) (k n lo hi : Int) : Prop := s'.1 = s.1 ∧ (∀ a : Nat, a ≠ 65 → a ≠ 66 → s'.2 a = s.2 a) ∧ (∀ i, ¬ (k ≤ i ∧ i < n) → s'.2 65 i = s.2 65 i) ∧ ∀ i, ¬ (lo ≤ i ∧ i < hi) → s'.2 66 i = s.2 66 i
theorem aw (o1 : Option cm_V) : ∀ (f : tF) (s : cm_S) (p lo hi v k : Int), rFo s p lo hi v f → f ≠ .leaf → 0 ≤ lo → hi ≤ 499 → 0 ≤ k → k + fSz f ≤ 499 → ∃ s', cm_lp cm_sem cm_k253 15 [some (.inr (.inl 41)), o1, some (.inl k), some (.inl v)] [] s = cm_lp cm_sem cm_k253 42 [some (.inr (.inl 41)), o1, some (.inl (k + fSz f)), some (.inl p)] [] s' ∧ aF s s' k (k + fSz f) lo hi ∧ rOr s' k lo f := by
  intro f
  induction f with
  | leaf => intro s p lo hi v k _ h; exact absurd rfl h
  | inner x l u ch rest i1 i2 =>
    intro s p lo hi v k h _ h0 h9 k0 k9
    have e : fSz (.inner x l u ch rest) = 1 + fSz ch + fSz rest := rfl
    have c0 := fSz_0 ch
    have r0 := fSz_0 rest
    obtain ⟨m, a1, a2, a3, a4, a5, a6, a7, a8⟩ := h
    have em := rFo_sz _ _ _ _ _ a7
    have eh := rFo_sz _ _ _ _ _ a8
    have v5 : (0 : Int) ≤ v ∧ v < 500 := by omega
    have s1r : ∀ a : Nat, a ≠ 65 → a ≠ 66 → (cm_q (cm_q s 65 k v) 66 v k).2 a = s.2 a := fun a b1 b2 => by rw [cm_q_ne b2, cm_q_ne b1]
    have s1o : (cm_q (cm_q s 65 k v) 66 v k).2 65 k = v := by rw [cm_q_ne (by omega), cm_q_at, if_pos rfl]
    have s1s : (cm_q (cm_q s 65 k v) 66 v k).2 66 v = k := by rw [cm_q_at, if_pos rfl]
    have s1a : ∀ i, i ≠ k → (cm_q (cm_q s 65 k v) 66 v k).2 65 i = s.2 65 i := fun i hi => by rw [cm_q_ne (by omega), cm_q_old hi]
    have s1b : ∀ i, i ≠ v → (cm_q (cm_q s 65 k v) 66 v k).2 66 i = s.2 66 i := fun i hi => by rw [cm_q_old hi, cm_q_ne (by omega)]
    have s1f : (cm_q (cm_q s 65 k v) 66 v k).1 = s.1 := rfl
    have head : ∃ s2, cm_lp cm_sem cm_k253 15 [some (.inr (.inl 41)), o1, some (.inl k), some (.inl v)] [] s = cm_lp cm_sem cm_k253 42 [some (.inr (.inl 41)), o1, some (.inl (k + 1 + fSz ch)), some (.inl v)] [] s2 ∧ s2.1 = s.1 ∧ (∀ a : Nat, a ≠ 65 → a ≠ 66 → s2.2 a = s.2 a) ∧ (∀ i, ¬ (k ≤ i ∧ i < k + 1 + fSz ch) → s2.2 65 i = s.2 65 i) ∧ (∀ i, ¬ (lo ≤ i ∧ i < m) → s2.2 66 i = s.2 66 i) ∧ s2.2 65 k = v ∧ s2.2 66 v = k ∧ rOr s2 (k + 1) lo ch := by
      rw [cE_253_15, cF_253_15, if_neg (by omega), if_pos (by omega), if_pos v5, if_pos v5, cm_w_id (by omega) (by omega)]
      generalize cm_q (cm_q s 65 k v) 66 v k = s1 at s1r s1o s1s s1a s1b s1f ⊢
      cases hch : ch with
      | leaf =>
        rw [hch] at a7
        rw [if_pos a7.1]
        have z0 : fSz (.leaf : tF) = 0 := rfl
        exact ⟨s1, by show _ = cm_lp cm_sem cm_k253 42 [_, o1, some (.inl (k + 1 + 0)), _] [] s1; rw [Int.add_zero], s1f, s1r, fun i hi => s1a i (by omega), fun i hi => s1b i (by omega), s1o, s1s, trivial⟩
      | inner y l2 u2 ch2 r2 =>
        rw [← hch]
        have hne : ¬ s.2 50 v = -1 := by
          rw [hch] at a7
          obtain ⟨m2, b1, b2, b3, -⟩ := a7
          omega
        rw [if_neg hne, if_pos v5]
        obtain ⟨s2, e1, ⟨g1, g2, g3, g4⟩, e3⟩ := i1 s1 v lo (m - 1) (s.2 50 v) (k + 1) (rFo_fr _ _ _ _ _ (fun a i b1 b2 _ _ => by rw [s1r a (by omega) (by omega)]) a7) (by rw [hch]; intro z; cases z) h0 (by omega) (by omega) (by omega)
        exact ⟨s2, e1, g1.trans s1f, fun a b1 b2 => (g2 a b1 b2).trans (s1r a b1 b2), fun i hi => (g3 i (by omega)).trans (s1a i (by omega)), fun i hi => (g4 i (by omega)).trans (s1b i (by omega)), (g3 k (by omega)).trans s1o, (g4 v (by omega)).trans s1s, e3⟩
    obtain ⟨s2, e1, g1, g2, g3, g4, g5, g6, g7⟩ := head
    have fin : ∀ s', rOr s' (k + 1) lo ch → s'.2 65 k = v → s'.2 66 v = k → rOr s' (k + 1 + fSz ch) (lo + fSz ch + 1) rest → rOr s' k lo (.inner x l u ch rest) := fun s' b1 b2 b3 b4 => ⟨by rw [b2]; omega, by rw [← show v = lo + fSz ch by omega]; exact b3, b1, b4⟩
    rw [e1, cE_253_42, cF_253_42, if_neg (by omega), if_pos v5, g2 51 (by omega) (by omega), g2 52 (by omega) (by omega)]
    cases hre : rest with
    | leaf =>
      have n1 : s.2 51 v = -1 := by
        rw [hre] at a8
        exact a8.1
      rw [if_pos n1, if_pos v5, a6]
      rw [hre] at e eh fin
      have z0 : fSz (.leaf : tF) = 0 := rfl
      rw [z0] at e eh
      refine ⟨s2, by rw [e, show k + (1 + fSz ch + 0) = k + 1 + fSz ch by omega], ⟨g1, g2, fun i hi => g3 i (by omega), fun i hi => g4 i (by omega)⟩, fin s2 g7 g5 g6 trivial⟩
    | inner y l2 u2 ch2 r2 =>
      rw [← hre]
      have hne : 0 ≤ s.2 51 v ∧ ¬ s.2 51 v = -1 := by
        rw [hre] at a8
        obtain ⟨m2, b1, b2, b3, -⟩ := a8
        omega
      rw [if_neg hne.2, if_neg (by omega), if_pos v5]
      obtain ⟨s3, d1, ⟨d2, d3, d4, d5⟩, d6⟩ := i2 s2 p m hi (s.2 51 v) (k + 1 + fSz ch) (rFo_fr _ _ _ _ _ (fun a i b1 b2 _ _ => by rw [g2 a (by omega) (by omega)]) a8) (by rw [hre]; intro z; cases z) (by omega) h9 (by omega) (by omega)
      refine ⟨s3, by rw [d1, e, show k + 1 + fSz ch + fSz rest = k + (1 + fSz ch + fSz rest) by omega], ⟨d2.trans g1, fun a b1 b2 => (d3 a b1 b2).trans (g2 a b1 b2), fun i hi => (d4 i (by omega)).trans (g3 i (by omega)), fun i hi => (d5 i (by omega)).trans (g4 i (by omega))⟩, fin s3 (rOr_fr _ _ _ (fun i b1 b2 => d4 i (by omega)) (fun i b1 b2 => d5 i (by omega)) g7) ((d4 k (by omega)).trans g5) ((d5 v (by omega)).trans g6) (by rw [← show m = lo + fSz ch + 1 by omega]; exact d6)⟩
theorem cs_253 {s : cm_S} {T : tT} (h : rTr s 0 (tSz T) (tSz T - 1) T) (h9 : tSz T ≤ 499) : ∃ s', cm_sem 253 [.inr (.inl 41), .inl (tSz T - 1)] s = some (.inl (some (.inl (tSz T))), s') ∧ s'.1 = s.1 ∧ (∀ a : Nat, a ≠ 51 → a ≠ 52 → a ≠ 65 → a ≠ 66 → s'.2 a = s.2 a) ∧ rFo s' (-1) 0 (tSz T) (tSz T - 1) (fo [T]) ∧ rOr s' 0 0 (fo [T]) := by
  have tz := tSz_1 T
  have ez : tSz T = 1 + fSz T.2 := rfl
  have ef : fSz (fo [T]) = tSz T := by
    show 1 + fSz T.2 + 0 = 1 + fSz T.2
    omega
  obtain ⟨h1, h2, h3, h4, h5⟩ := h
  have s1r : ∀ a : Nat, a ≠ 51 → a ≠ 52 → (cm_q (cm_q s 52 (tSz T - 1) (-1)) 51 (tSz T - 1) (-1)).2 a = s.2 a := fun a b1 b2 => by rw [cm_q_ne b1, cm_q_ne b2]
  have s1o : ∀ (a : Nat) i, i ≠ tSz T - 1 → (cm_q (cm_q s 52 (tSz T - 1) (-1)) 51 (tSz T - 1) (-1)).2 a i = s.2 a i := fun a i hi => by rw [cm_q_old hi, cm_q_old hi]
  have n1 : (cm_q (cm_q s 52 (tSz T - 1) (-1)) 51 (tSz T - 1) (-1)).2 51 (tSz T - 1) = -1 := by rw [cm_q_at, if_pos rfl]
  have n2 : (cm_q (cm_q s 52 (tSz T - 1) (-1)) 51 (tSz T - 1) (-1)).2 52 (tSz T - 1) = -1 := by rw [cm_q_ne (by omega), cm_q_at, if_pos rfl]
  rw [cS_253, cF_253_0, if_pos (by omega), if_pos (by omega)]
  have f1 : (cm_q (cm_q s 52 (tSz T - 1) (-1)) 51 (tSz T - 1) (-1)).1 = s.1 := rfl
  generalize cm_q (cm_q s 52 (tSz T - 1) (-1)) 51 (tSz T - 1) (-1) = s1 at s1r s1o n1 n2 f1 ⊢
  have hf : rFo s1 (-1) 0 (tSz T) (tSz T - 1) (fo [T]) := by
    refine ⟨tSz T, by omega, Int.le_refl _, rfl, rLb_fr (fun a _ _ b3 b4 => by rw [s1r a b3 b4]) h3, by rw [s1r 53 (by omega) (by omega)]; exact h4, n2, ?_, n1, rfl⟩
    rw [s1r 50 (by omega) (by omega)]
    exact rFo_fr _ _ _ _ _ (fun a i _ _ b3 b4 => s1o a i (by omega)) h5
  obtain ⟨s2, e1, ⟨g1, g2, g3, g4⟩, e3⟩ := aw (some (.inl (tSz T - 1))) (fo [T]) s1 (-1) 0 (tSz T) (tSz T - 1) 0 hf (by intro z; cases z) (Int.le_refl _) h9 (Int.le_refl _) (by omega)
  refine ⟨s2, ?_, g1.trans f1, fun a b1 b2 b3 b4 => (g2 a b3 b4).trans (s1r a b1 b2), rFo_fr _ _ _ _ _ (fun a i b1 b2 _ _ => by rw [g2 a (by omega) (by omega)]) hf, e3⟩
  rw [e1, ef, cE_253_42, cF_253_42, if_pos rfl, if_pos rfl, cE_253_15, cF_253_15, if_pos rfl, Int.zero_add]
