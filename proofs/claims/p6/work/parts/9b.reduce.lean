/-! ===== reduce() ===== -/
theorem fLn_foR : ∀ (a : List tT) (g : tF), fLn (foR g a) = fLn g + a.length
  | [], g => by simp [foR]
  | t :: a, g => by
    show fLn (foR (tCo t.1 t.2 g) a) = _
    rw [fLn_foR a, List.length_cons]
    show 1 + fLn g + _ = _
    omega
theorem rVaA_ids {s : cm_S} : ∀ (V : List tT) (hi : Int), rVaA s hi V → (∀ j : Int, 0 ≤ j → j < V.length → 0 ≤ s.2 61 j ∧ s.2 61 j < hi) ∧ ∀ i j : Int, 0 ≤ i → i < j → j < V.length → s.2 61 i < s.2 61 j
  | [], hi, h => ⟨fun j h0 h1 => by simp at h1; omega, fun i j h0 h1 h2 => by simp at h2; omega⟩
  | t :: V, hi, ⟨lo, h1, h2⟩ => by
    have ih := rVaA_ids V lo h2
    have hb := rVaA_b V lo h2
    obtain ⟨a1, a2, -⟩ := h1
    constructor
    · intro j h0 h3
      rw [List.length_cons] at h3
      by_cases hj : j = V.length
      · rw [hj]; omega
      · have := ih.1 j h0 (by omega)
        omega
    · intro i j h0 h3 h4
      rw [List.length_cons] at h4
      by_cases hj : j = V.length
      · have := ih.1 i h0 (by omega)
        rw [hj]; omega
      · exact ih.2 i j h0 h3 (by omega)
/-- what the loop over the children leaves -/
def rLo (s s' : cm_S) (i vals mark nn : Int) (z : Int) : Prop := (∀ j : Nat, j ≠ 4134 → j ≠ 4141 → s'.1 j = s.1 j) ∧ s'.1 4134 = mark + 1 ∧ s'.1 4141 = z ∧ (∀ (a : Nat) (x : Int), a ≠ 51 → a ≠ 52 → (a = 61 → x ≠ mark) → s'.2 a x = s.2 a x) ∧ s'.2 61 mark = nn ∧ (∀ x : Int, (∀ j : Int, i ≤ j → j < vals → x ≠ s.2 61 j) → s'.2 51 x = s.2 51 x ∧ s'.2 52 x = s.2 52 x) ∧ ∀ j : Int, i ≤ j → j < vals → s'.2 52 (s.2 61 j) = nn ∧ s'.2 51 (s.2 61 j) = if j + 1 < vals then s.2 61 (j + 1) else -1
theorem rl_202 {vals mark nn k : Int} {lf : Bool} (h0 : 0 ≤ mark) (h9 : vals ≤ 499) (o2 o3 : Option cm_V) : ∀ (m : Nat) (i : Int) (s : cm_S), vals - i = m → mark ≤ i → i ≤ vals → s.1 4134 = vals → s.1 4141 = cm_n lf → (∀ j : Int, i ≤ j → j < vals → 0 ≤ s.2 61 j ∧ s.2 61 j < 500) → (∀ j j' : Int, i ≤ j → j < j' → j' < vals → s.2 61 j < s.2 61 j') → mark < 500 → ∃ s', cm_lp cm_sem cm_k202 59 [some (.inr (.inl 41)), some (.inl k), o2, o3, some (.inl mark), some (.inl nn), some (.inl i)] [] s = some (.inl none, s') ∧ rLo s s' i vals mark nn (cm_n (lf && decide (k < 44 ∨ 49 < k))) := by
  intro m
  induction m with
  | zero =>
    intro i s hm h1 h2 hv hl hb hi hk
    have hiv : i = vals := by omega
    rw [cE_202_59, cF_202_59, hv, if_neg (by omega), if_pos ⟨h0, hk⟩, hl]
    have key : ∀ z : Int, rLo s (cm_p (cm_p (cm_q (cm_p s 4134 mark) 61 mark nn) 4134 (cm_w (mark + 1))) 4141 z) i vals mark nn z := by
      intro z
      refine ⟨fun j j1 j2 => ?_, ?_, cm_p_at, fun a x a1 a2 a3 => ?_, ?_, fun x _ => ⟨?_, ?_⟩, fun j j1 j2 => by omega⟩
      · rw [cm_p_ne j2, cm_p_ne j1, cm_q_fld, cm_p_ne j1]
      · rw [cm_p_ne (by decide), cm_p_at, cm_w_id (by omega) (by omega)]
      · rw [cm_p_row, cm_p_row]
        by_cases h61 : a = 61
        · subst h61
          rw [cm_q_at, if_neg (a3 rfl), cm_p_row]
        · rw [cm_q_ne h61, cm_p_row]
      · rw [cm_p_row, cm_p_row, cm_q_at, if_pos rfl]
      · rw [cm_p_row, cm_p_row, cm_q_ne (by decide), cm_p_row]
      · rw [cm_p_row, cm_p_row, cm_q_ne (by decide), cm_p_row]
    cases lf
    · rw [if_pos (show cm_n false = 0 by decide)]
      exact ⟨_, rfl, key _⟩
    · rw [if_neg (by decide)]
      by_cases k1 : k < 44
      · rw [if_pos k1, show (true && decide (k < 44 ∨ 49 < k)) = true by simp [k1]]
        exact ⟨_, rfl, key _⟩
      · rw [if_neg k1]
        by_cases k2 : 49 < k
        · rw [if_pos k2, show (true && decide (k < 44 ∨ 49 < k)) = true by simp [k2]]
          exact ⟨_, rfl, key _⟩
        · rw [if_neg k2, show (true && decide (k < 44 ∨ 49 < k)) = false by simp; omega]
          exact ⟨_, rfl, key _⟩
  | succ m ih =>
    intro i s hm h1 h2 hv hl hb hi hk
    have hlt : i < vals := by omega
    have hbi := hb i (by omega) hlt
    -- one round
    have go : ∀ w : Int, (w = if i + 1 < vals then s.2 61 (i + 1) else -1) → ∃ s', cm_lp cm_sem cm_k202 59 [some (.inr (.inl 41)), some (.inl k), o2, o3, some (.inl mark), some (.inl nn), some (.inl (i + 1))] [] (cm_q (cm_q s 52 (s.2 61 i) nn) 51 (s.2 61 i) w) = some (.inl none, s') ∧ rLo s s' i vals mark nn (cm_n (lf && decide (k < 44 ∨ 49 < k))) := by
      intro w hw
      have e61 : ∀ x, (cm_q (cm_q s 52 (s.2 61 i) nn) 51 (s.2 61 i) w).2 61 x = s.2 61 x := fun x => by rw [cm_q_ne (by decide), cm_q_ne (by decide)]
      obtain ⟨s', q1, q2, q3, q4, q5, q6, q7, q8⟩ := ih (i + 1) (cm_q (cm_q s 52 (s.2 61 i) nn) 51 (s.2 61 i) w) (by omega) (by omega) (by omega) hv hl (fun j j1 j2 => by rw [e61]; exact hb j (by omega) j2) (fun j j' j1 j2 j3 => by rw [e61, e61]; exact hi j j' (by omega) j2 j3) hk
      refine ⟨s', q1, q2, q3, q4, fun a x a1 a2 a3 => ?_, q6, fun x hx => ?_, fun j j1 j2 => ?_⟩
      · rw [q5 a x a1 a2 a3, cm_q_ne a1, cm_q_ne a2]
      · have hne : x ≠ s.2 61 i := hx i (by omega) hlt
        obtain ⟨r1, r2⟩ := q7 x (fun j j1 j2 => by rw [e61]; exact hx j (by omega) j2)
        rw [r1, r2, cm_q_old hne, cm_q_old hne, cm_q_old hne, cm_q_old hne]
        exact ⟨rfl, rfl⟩
      · by_cases hj : j = i
        · subst hj
          obtain ⟨r1, r2⟩ := q7 (s.2 61 j) (fun j' j1' j2' => by rw [e61]; have := hi j j' (by omega) (by omega) j2'; omega)
          rw [r1, r2]
          constructor
          · rw [cm_q_ne (by decide), cm_q_at, if_pos rfl]
          · rw [cm_q_at, if_pos rfl, hw]
        · obtain ⟨r1, r2⟩ := q8 j (by omega) j2
          rw [e61] at r1 r2
          rw [r1, r2]
          refine ⟨rfl, ?_⟩
          rw [e61]
    rw [cE_202_59, cF_202_59, hv, if_pos hlt, if_pos (by omega), if_pos hbi, if_pos (by omega), cm_w_id (by omega) (by omega)]
    by_cases hn : i + 1 < vals
    · rw [if_pos hn, if_pos (by omega), if_pos hbi]
      exact go _ (by rw [if_pos hn])
    · rw [if_neg hn, if_pos hbi]
      exact go _ (by rw [if_neg hn])
/-- the trees become a node's children -/
theorem rFo_bu {s s' : cm_S} {nn top : Int} {V0 : List tT} : ∀ (Vc : List tT) (g : tF) (hi b : Int), rFo s' nn hi top b g → rVaA s hi (Vc ++ V0) → hi ≤ top → (∀ j : Int, V0.length ≤ j → j < V0.length + Vc.length → s'.2 52 (s.2 61 j) = nn ∧ s'.2 51 (s.2 61 j) = if j + 1 < V0.length + Vc.length then s.2 61 (j + 1) else b) → (∀ (a : Nat) (x : Int), 47 ≤ a → a ≤ 54 → x < hi → a ≠ 51 → a ≠ 52 → s'.2 a x = s.2 a x) → (∀ x : Int, x < hi → (∀ j : Int, V0.length ≤ j → j < V0.length + Vc.length → x ≠ s.2 61 j) → s'.2 51 x = s.2 51 x ∧ s'.2 52 x = s.2 52 x) → ∃ lo, rFo s' nn lo top (if Vc = [] then b else s.2 61 V0.length) (foR g Vc) ∧ rVaA s lo V0 ∧ lo ≤ hi ∧ ∀ j : Int, V0.length ≤ j → j < V0.length + Vc.length → lo ≤ s.2 61 j := by
  intro Vc
  induction Vc with
  | nil =>
    intro g hi b hg hV _ _ _ _
    rw [if_pos rfl]
    exact ⟨hi, hg, hV, Int.le_refl _, fun j j1 j2 => by simp at j2; omega⟩
  | cons t Vc ih =>
    intro g hi b hg hV htop hl hf hx
    obtain ⟨lo1, ⟨a1, a2, a3, a4, a5⟩, hV2⟩ := hV
    have elen : (((Vc ++ V0).length : Nat) : Int) = V0.length + Vc.length := by rw [List.length_append]; omega
    have el2 : (((t :: Vc).length : Nat) : Int) = Vc.length + 1 := by rw [List.length_cons]; omega
    have ids := rVaA_ids _ _ hV2
    rw [show ((Vc.append V0).length : Int) = V0.length + Vc.length from elen] at a2 a3 a4 a5
    rw [el2] at hl hx
    have hv := hl (V0.length + Vc.length) (by omega) (by omega)
    rw [if_neg (by omega)] at hv
    have hroots : ∀ x : Int, lo1 ≤ x → x < hi - 1 → s'.2 51 x = s.2 51 x ∧ s'.2 52 x = s.2 52 x := by
      intro x x1 x2
      refine hx x (by omega) (fun j j1 j2 => ?_)
      by_cases hj : j = V0.length + Vc.length
      · rw [hj, a2]; omega
      · have := (ids.1 j (by omega) (by show j < (((Vc ++ V0).length : Nat) : Int); rw [elen]; omega)).2
        omega
    have hnew : rFo s' nn lo1 top (s.2 61 (V0.length + Vc.length)) (tCo t.1 t.2 g) := by
      refine ⟨hi, a1, htop, a2, rLb_fr (fun a b1 b2 b3 b4 => hf a _ b1 b2 (by omega) b3 b4) a3, ?_, hv.1, ?_, ?_⟩
      · rw [hf 53 _ (by omega) (by omega) (by omega) (by omega) (by omega)]; exact a4
      · rw [hf 50 _ (by omega) (by omega) (by omega) (by omega) (by omega)]
        refine rFo_fr _ _ _ _ _ (fun a x b1 b2 b3 b4 => ?_) a5
        by_cases h51 : a = 51
        · subst h51; exact (hroots x b3 b4).1
        · by_cases h52 : a = 52
          · subst h52; exact (hroots x b3 b4).2
          · exact hf a x b1 b2 (by omega) h51 h52
      · rw [hv.2]; exact hg
    obtain ⟨lo, r1, r2, r3, r4⟩ := ih (tCo t.1 t.2 g) lo1 (s.2 61 (V0.length + Vc.length)) hnew hV2 (by omega) (fun j j1 j2 => by
        have := hl j j1 (by omega)
        refine ⟨this.1, ?_⟩
        rw [this.2, if_pos (by omega)]
        split
        · rfl
        · rw [show j + 1 = V0.length + Vc.length by omega]) (fun a x b1 b2 b3 b4 b5 => hf a x b1 b2 (by omega) b4 b5) (fun x x1 x2 => hx x (by omega) (fun j j1 j2 => by
        by_cases hj : j = V0.length + Vc.length
        · rw [hj, a2]; omega
        · exact x2 j j1 (by omega)))
    refine ⟨lo, ?_, r2, by omega, fun j j1 j2 => ?_⟩
    rotate_left
    · rw [el2] at j2
      by_cases hj : j = V0.length + Vc.length
      · rw [hj, a2]; omega
      · exact r4 j j1 (by omega)
    rw [if_neg (List.cons_ne_nil _ _)]
    cases Vc with
    | nil =>
      rw [if_pos rfl] at r1
      have e0 : ((([] : List tT).length : Nat) : Int) = 0 := rfl
      rw [e0, Int.add_zero] at r1
      exact r1
    | cons t2 Vc2 =>
      rw [if_neg (List.cons_ne_nil _ _)] at r1
      exact r1
theorem cs_202 {s : cm_S} {d rn pu : Int} {lf : Bool} {Vc V0 : List tT} {K : List rTs} {S : List rSg} (q : rQ (d, rn, pu, lf, Vc ++ V0, K, S) s) (hn : rn < 499) (k p l c : Int) : ∃ s', cm_sem 202 [.inr (.inl 41), .inl k, .inl p, .inl l, .inl (V0.length : Int)] s = some (.inl none, s') ∧ rQ (d, rn + 1, pu, lf && decide (k < 44 ∨ 49 < k), ((k, p, l, c, false), foR .leaf Vc) :: V0, K, S) s' ∧ rFm s s' ∧ ∀ j : Nat, j ≠ 4118 → j ≠ 4134 → j ≠ 4141 → s'.1 j = s.1 j := by
  obtain ⟨h1, h2, h3, h4, h5, h6, h7, h8, h9, h10⟩ := q
  simp only at h1 h2 h3 h4 h5 h6 h7 h8 h9 h10
  have hb := rVaA_b _ _ h8
  have ids := rVaA_ids _ _ h8
  have el : (((Vc ++ V0).length : Nat) : Int) = Vc.length + V0.length := by rw [List.length_append]; omega
  rw [el] at hb h7 ids
  have hN : (0 : Int) ≤ s.1 4118 ∧ s.1 4118 < 500 := by omega
  -- the state ahead of the loop
  have main : ∀ fi : Int, (fi = if Vc = [] then -1 else s.2 61 V0.length) → ∃ s', cm_lp cm_sem cm_k202 59 [some (.inr (.inl 41)), some (.inl k), some (.inl p), some (.inl l), some (.inl (V0.length : Int)), some (.inl (s.1 4118)), some (.inl (V0.length : Int))] [] (cm_q (cm_q (cm_q (cm_q (cm_q (cm_q (cm_q (cm_p s 4118 (cm_w (s.1 4118 + 1))) 47 (s.1 4118) k) 48 (s.1 4118) p) 49 (s.1 4118) l) 50 (s.1 4118) fi) 51 (s.1 4118) (-1)) 53 (s.1 4118) (cm_w (s.1 4134 - V0.length))) 54 (s.1 4118) 0) = some (.inl none, s') ∧ rQ (d, rn + 1, pu, lf && decide (k < 44 ∨ 49 < k), ((k, p, l, c, false), foR .leaf Vc) :: V0, K, S) s' ∧ rFm s s' ∧ ∀ j : Nat, j ≠ 4118 → j ≠ 4134 → j ≠ 4141 → s'.1 j = s.1 j := by
    intro fi hfi
    rw [h2, cm_w_id (by omega) (by omega), h7, cm_w_id (show -2147483648 ≤ (Vc.length : Int) + V0.length - V0.length by omega) (by omega)]
    generalize hs1 : (cm_q (cm_q (cm_q (cm_q (cm_q (cm_q (cm_q (cm_p s 4118 (rn + 1)) 47 rn k) 48 rn p) 49 rn l) 50 rn fi) 51 rn (-1)) 53 rn ((Vc.length : Int) + V0.length - V0.length)) 54 rn 0) = s1
    have f1 : ∀ j : Nat, j ≠ 4118 → s1.1 j = s.1 j := fun j hj => by rw [← hs1]; simp only [cm_q_fld]; exact cm_p_ne hj
    have f4118 : s1.1 4118 = rn + 1 := by rw [← hs1]; simp only [cm_q_fld]; exact cm_p_at
    have g1 : ∀ (a : Nat) (x : Int), x ≠ rn → s1.2 a x = s.2 a x := fun a x hx => by rw [← hs1, cm_q_old hx, cm_q_old hx, cm_q_old hx, cm_q_old hx, cm_q_old hx, cm_q_old hx, cm_q_old hx]; rfl
    have g2 : ∀ (a : Nat), ¬ (47 ≤ a ∧ a ≤ 54) → s1.2 a = s.2 a := fun a ha => by rw [← hs1, cm_q_ne (by omega), cm_q_ne (by omega), cm_q_ne (by omega), cm_q_ne (by omega), cm_q_ne (by omega), cm_q_ne (by omega), cm_q_ne (by omega)]; rfl
    have n47 : s1.2 47 rn = k ∧ s1.2 48 rn = p ∧ s1.2 49 rn = l ∧ s1.2 50 rn = fi ∧ s1.2 51 rn = -1 ∧ s1.2 53 rn = Vc.length ∧ s1.2 54 rn = 0 := by
      rw [← hs1]
      refine ⟨?_, ?_, ?_, ?_, ?_, ?_, ?_⟩ <;> simp [cm_q, cm_p]
    have gfm : rFm s s1 := by
      rw [← hs1]
      exact rFm_q (rFm_q (rFm_q (rFm_q (rFm_q (rFm_q (rFm_q (rFm_p (rFm_rf s) (by omega)) (by omega)) (by omega)) (by omega)) (by omega)) (by omega)) (by omega)) (by omega)
    clear hs1
    have e61 : ∀ x, s1.2 61 x = s.2 61 x := fun x => by rw [g2 61 (by omega)]
    obtain ⟨s', q1, q2, q3, q4, q5, q6, q7, q8⟩ := rl_202 (vals := Vc.length + V0.length) (mark := V0.length) (nn := rn) (k := k) (lf := lf) (by omega) (by omega) (some (.inl p)) (some (.inl l)) Vc.length V0.length s1 (by omega) (Int.le_refl _) (by omega) (by rw [f1 _ (by decide)]; exact h7) (by rw [f1 _ (by decide)]; exact h4) (fun j j1 j2 => by rw [e61]; have := ids.1 j (by omega) j2; omega) (fun j j' j1 j2 j3 => by rw [e61, e61]; exact ids.2 j j' (by omega) j2 j3) (by omega)
    refine ⟨s', q1, ?_, ?_, fun j j1 j2 j3 => by rw [q2 j j2 j3, f1 j j1]⟩
    · have lt : ∀ j : Int, 0 ≤ j → j < Vc.length + V0.length → s.2 61 j ≠ rn := fun j j0 j1 => by have := ids.1 j j0 j1; omega
      obtain ⟨r1, r2⟩ := q7 rn (fun j j1 j2 => by rw [e61]; exact (lt j (by omega) j2).symm)
      have u : ∀ (a : Nat) (x : Int), 47 ≤ a → a ≤ 54 → x < rn → a ≠ 51 → a ≠ 52 → s'.2 a x = s.2 a x := fun a x a1 a2 a3 a4 a5 => by rw [q5 a x a4 a5 (by omega), g1 a x (by omega)]
      obtain ⟨lo, w1, w2, w3, w4⟩ := rFo_bu (s := s) (s' := s') (nn := rn) (top := rn) (V0 := V0) Vc .leaf rn (-1) ⟨rfl, rfl⟩ h8 (Int.le_refl _) (fun j j1 j2 => by
        have := q8 j j1 (by omega)
        rw [e61, e61] at this
        rw [show (V0.length : Int) + Vc.length = Vc.length + V0.length by omega]
        exact this) u (fun x x1 x2 => by
        obtain ⟨z1, z2⟩ := q7 x (fun j j1 j2 => by rw [e61]; exact x2 j j1 (by omega))
        rw [z1, z2, g1 51 x (by omega), g1 52 x (by omega)]
        exact ⟨rfl, rfl⟩)
      have hlo := rVaA_b _ _ w2
      refine ⟨by rw [q2 _ (by decide) (by decide), f1 _ (by decide)]; exact h1, by rw [q2 _ (by decide) (by decide)]; exact f4118, by rw [q2 _ (by decide) (by decide), f1 _ (by decide)]; exact h3, q4, by rw [q2 _ (by decide) (by decide), f1 _ (by decide)]; exact h5, rSkA_fr K (fun a i a1 a2 _ => by rw [q5 a i (by omega) (by omega) (by omega), g2 a (by omega)]) h6, ?_, ?_, by rw [q2 _ (by decide) (by decide), f1 _ (by decide)]; exact h9, rSgA_fr S (fun a i a1 a2 _ => by rw [q5 a i (by omega) (by omega) (by omega), g2 a (by omega)]) h10⟩
      · rw [q3]
        show _ = (((((k, p, l, c, false), foR .leaf Vc) :: V0 : List tT).length : Nat) : Int)
        rw [List.length_cons]
        omega
      · refine ⟨lo, ?_, ?_⟩
        · show rTr s' lo (rn + 1) (s'.2 61 V0.length) _
          rw [q6]
          refine ⟨by omega, by omega, ⟨?_, ?_, ?_, ?_⟩, ?_, ?_⟩
          · rw [q5 47 rn (by decide) (by decide) (by omega)]; exact n47.1
          · rw [q5 48 rn (by decide) (by decide) (by omega)]; exact n47.2.1
          · rw [q5 49 rn (by decide) (by decide) (by omega)]; exact n47.2.2.1
          · rw [q5 54 rn (by decide) (by decide) (by omega)]; exact n47.2.2.2.2.2.2
          · rw [q5 53 rn (by decide) (by decide) (by omega), n47.2.2.2.2.2.1]
            show _ = fLn (foR .leaf Vc)
            rw [fLn_foR]
            show _ = 0 + _
            omega
          · rw [q5 50 rn (by decide) (by decide) (by omega), n47.2.2.2.1, hfi]
            show rFo s' rn lo (rn + 1 - 1) _ (foR .leaf Vc)
            rw [show rn + 1 - 1 = rn by omega]
            exact w1
        · refine rVaA_fr (s := s) V0 lo (fun a i a1 a2 a3 => ?_) (fun i hi => ?_) w2
          · by_cases h51 : a = 51 ∨ a = 52
            · have hne : ∀ j : Int, V0.length ≤ j → j < Vc.length + V0.length → i ≠ s1.2 61 j := by
                intro j j1 j2 hij
                rw [e61] at hij
                have h10' := w4 j j1 (by omega)
                omega
              obtain ⟨z1, z2⟩ := q7 i hne
              rcases h51 with rfl | rfl
              · rw [z1, g1 51 i (by omega)]
              · rw [z2, g1 52 i (by omega)]
            · exact u a i a1 a2 (by omega) (by omega) (by omega)
          · rw [q5 61 i (by decide) (by decide) (fun _ => by omega), e61]
    · refine gfm.tr ⟨fun a ha => ?_, fun j hj => q2 j (by omega) (by omega)⟩
      funext x
      exact q5 a x (by omega) (by omega) (by omega)
  rw [cS_202, cF_202_0, if_pos hN, if_pos hN, if_pos hN]
  by_cases hV : Vc = []
  · have hlen : (Vc.length : Int) = 0 := by rw [hV]; rfl
    rw [if_neg (by omega), if_pos hN, if_pos hN, if_pos hN, if_pos hN]
    exact main _ (by rw [if_pos hV])
  · have hlen : 0 < (Vc.length : Int) := by
      cases Vc with
      | nil => exact absurd rfl hV
      | cons t r => rw [List.length_cons]; omega
    rw [if_pos (by omega), if_pos (by omega), if_pos hN, if_pos hN, if_pos hN, if_pos hN]
    exact main _ (by rw [if_neg hV])
