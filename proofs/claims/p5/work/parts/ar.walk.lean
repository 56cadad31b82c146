/-! ===== orderInto(): the walk over the draft ===== -/
/-- the children's walk, where each child's is known -/
theorem ow_li {t : Nat} (h : isTr t) {k : Nat} (ih : ∀ (s : cm_S) (lo hi v : Int) (T : tT) (p vp r k0 w : Int) (j : Nat) (o2 o5 : Option cm_V), cRep k s lo hi v T → 0 ≤ lo → hi ≤ s.1 410 → s.1 410 ≤ 512 → s.1 (100 * t + 8) = k0 → 0 ≤ k0 → k0 + tSz T ≤ 510 → s.2 12 v = vp → (vp = -1 ∧ p = -1 ∧ r = 0 ∨ 0 ≤ vp ∧ vp < s.1 410 ∧ s.2 13 vp = p ∧ 0 ≤ p ∧ p < k0 ∧ s.2 (t + 7) p = r ∧ 0 ≤ r ∧ r ≤ k0) → Bh s j v w → (j : Int) ≤ k0 + 1 → ∃ (s' : cm_S) (o5' : Option cm_V), oL t o2 v k0 o5 s = oL t o2 w (k0 + tSz T) o5' s' ∧ oF t s s' lo hi k0 p ∧ s'.1 (100 * t + 8) = k0 + tSz T ∧ (0 ≤ p → s'.2 (t + 7) p = r + 1) ∧ cFl s' t p r k0 (fo [T])) :
    ∀ (ch : List tCh) (q : tCh) (s : cm_S) (lo hi v p r k1 w : Int) (j : Nat) (o2 o5 : Option cm_V), cLnk s ((q :: ch).map (·.1)) → (∀ c ∈ (q :: ch).map (·.1), s.2 12 c = v) → (∀ x ∈ q :: ch, lo ≤ x.2.2.1 ∧ x.2.2.2 ≤ hi ∧ (v < x.2.2.1 ∨ x.2.2.2 ≤ v) ∧ cRep k s x.2.2.1 x.2.2.2 x.1 x.2.1) → 0 ≤ lo → hi ≤ s.1 410 → s.1 410 ≤ 512 → s.1 (100 * t + 8) = k1 → k1 + fSz (fo ((q :: ch).map (·.2.1))) ≤ 510 → 0 ≤ v → v < s.1 410 → s.2 13 v = p → 0 ≤ p → p < k1 → s.2 (t + 7) p = r → 0 ≤ r → r ≤ k1 → Bh s j v w → (j : Int) ≤ k1 → ∃ (s' : cm_S) (o5' : Option cm_V), oL t o2 q.1 k1 o5 s = oL t o2 w (k1 + fSz (fo ((q :: ch).map (·.2.1)))) o5' s' ∧ oF t s s' lo hi k1 p ∧ s'.2 13 v = p ∧ s'.1 (100 * t + 8) = k1 + fSz (fo ((q :: ch).map (·.2.1))) ∧ s'.2 (t + 7) p = r + ((q :: ch).length : Nat) ∧ cFl s' t p r k1 (fo ((q :: ch).map (·.2.1))) := by
  have tt : 18 ≤ t := by rcases h with rfl | rfl <;> omega
  intro ch
  induction ch with
  | nil =>
    intro q s lo hi v p r k1 w j o2 o5 hl hu hr h0 h1 h9 hk hz v0 v1 h13 p0 p1 h7 r0 r1 hb hj
    obtain ⟨q1, q2, q3, q4⟩ := hr q (List.mem_cons_self ..)
    have qi := cRep_in q4
    have u1 : s.2 12 q.1 = v := hu q.1 (List.mem_cons_self ..)
    have l1 : s.2 11 q.1 = -1 := hl
    have sz : fSz (fo ([q].map (·.2.1))) = tSz q.2.1 := by
      show 1 + fSz q.2.1.2 + 0 = 1 + fSz q.2.1.2
      omega
    rw [sz] at hz ⊢
    have tz := tSz_1 q.2.1
    obtain ⟨s', o5', e1, e2, e3, e4, e5⟩ := ih s q.2.2.1 q.2.2.2 q.1 q.2.1 p v r k1 w (j + 1) o2 o5 q4 (by omega) (by omega) h9 hk (by omega) hz u1 (Or.inr ⟨v0, v1, h13, p0, p1, h7, r0, r1⟩) ⟨by omega, by omega, l1, by rw [u1]; exact hb⟩ (by omega)
    exact ⟨s', o5', e1, ⟨e2.1, e2.2.1, fun i hi => e2.2.2.1 i (by omega), e2.2.2.2⟩, (e2.2.2.1 v (by omega)).trans h13, e3, e4 p0, e5⟩
  | cons q2 ch ihc =>
    intro q s lo hi v p r k1 w j o2 o5 hl hu hr h0 h1 h9 hk hz v0 v1 h13 p0 p1 h7 r0 r1 hb hj
    obtain ⟨a1, a2, a3, a4⟩ := hr q (List.mem_cons_self ..)
    have qi := cRep_in a4
    obtain ⟨c1, c2, c3, c4⟩ := hr q2 (List.mem_cons_of_mem _ (List.mem_cons_self ..))
    have qi2 := cRep_in c4
    have u1 : s.2 12 q.1 = v := hu q.1 (List.mem_cons_self ..)
    have l1 : s.2 11 q.1 = q2.1 := hl.1
    have sz : fSz (fo ((q :: q2 :: ch).map (·.2.1))) = tSz q.2.1 + fSz (fo ((q2 :: ch).map (·.2.1))) := rfl
    rw [sz] at hz ⊢
    have tz := tSz_1 q.2.1
    have fz := fSz_0 (fo ((q2 :: ch).map (·.2.1)))
    obtain ⟨s1, o51, e1, e2, e3, e4, e5⟩ := ih s q.2.2.1 q.2.2.2 q.1 q.2.1 p v r k1 q2.1 0 o2 o5 a4 (by omega) (by omega) h9 hk (by omega) (by omega) u1 (Or.inr ⟨v0, v1, h13, p0, p1, h7, r0, r1⟩) (Or.inr ⟨by omega, by omega, by omega, by omega, l1.symm⟩) (by omega)
    have f410 : s1.1 410 = s.1 410 := e2.1 410 (by omega)
    have frow : ∀ a : Nat, a ≤ 12 → s1.2 a = s.2 a := fun a ha => e2.2.1 a (by omega) (by omega)
    obtain ⟨s2, o52, d1, d2, d3, d4, d5, d6⟩ := ihc q2 s1 lo hi v p (r + 1) (k1 + tSz q.2.1) w j o2 o51 (cLnk_fr _ (fun c _ => by rw [frow 11 (by omega)]) hl.2) (fun c hc => by rw [frow 12 (by omega)]; exact hu c (List.mem_cons_of_mem _ hc)) (fun x hx => by
      obtain ⟨b1, b2, b3, b4⟩ := hr x (List.mem_cons_of_mem _ hx)
      exact ⟨b1, b2, b3, cRep_fr k (fun a i g1 g2 _ _ _ => by rw [frow a (by omega)]) b4⟩) h0 (by rw [f410]; exact h1) (by rw [f410]; exact h9) e3 (by omega) v0 (by rw [f410]; exact v1) ((e2.2.2.1 v (by omega)).trans h13) p0 (by omega) (e4 p0) (by omega) (by omega) (Bh_fr (frow 11 (by omega)) (frow 12 (by omega)) f410 j v w hb) (by omega)
    refine ⟨s2, o52, by rw [e1, d1, Int.add_assoc], e2.tr d2 (by omega) (by omega) (Int.le_refl _) (Int.le_refl _) (by omega), d3, by rw [d4, Int.add_assoc], by rw [d5]; simp only [List.length_cons]; omega, ?_⟩
    obtain ⟨g1, g2, g3, g4, g5, g6, g7, g8, g9⟩ := e5
    have hd : cFl s2 t p r k1 (fo [q.2.1]) := cFl_fr _ _ _ _ (fun a i b1 b2 b3 b4 => d2.2.2.2 a i b1 b2 (by
      have : fSz (fo [q.2.1]) = 1 + fSz q.2.1.2 + 0 := rfl
      have : tSz q.2.1 = 1 + fSz q.2.1.2 := rfl
      omega) (fun _ => by omega)) ⟨g1, g2, g3, g4, g5, g6, g7, g8, g9⟩
    obtain ⟨g1, g2, g3, g4, g5, g6, g7, g8, g9⟩ := hd
    refine ⟨g1, g2, g3, g4, g5, g6, g7, g8, ?_⟩
    have : k1 + 1 + fSz q.2.1.2 = k1 + tSz q.2.1 := by
      have : tSz q.2.1 = 1 + fSz q.2.1.2 := rfl
      omega
    rw [this]
    exact d6
theorem ow {t : Nat} (h : isTr t) : ∀ (k : Nat) (s : cm_S) (lo hi v : Int) (T : tT) (p vp r k0 w : Int) (j : Nat) (o2 o5 : Option cm_V), cRep k s lo hi v T → 0 ≤ lo → hi ≤ s.1 410 → s.1 410 ≤ 512 → s.1 (100 * t + 8) = k0 → 0 ≤ k0 → k0 + tSz T ≤ 510 → s.2 12 v = vp → (vp = -1 ∧ p = -1 ∧ r = 0 ∨ 0 ≤ vp ∧ vp < s.1 410 ∧ s.2 13 vp = p ∧ 0 ≤ p ∧ p < k0 ∧ s.2 (t + 7) p = r ∧ 0 ≤ r ∧ r ≤ k0) → Bh s j v w → (j : Int) ≤ k0 + 1 → ∃ (s' : cm_S) (o5' : Option cm_V), oL t o2 v k0 o5 s = oL t o2 w (k0 + tSz T) o5' s' ∧ oF t s s' lo hi k0 p ∧ s'.1 (100 * t + 8) = k0 + tSz T ∧ (0 ≤ p → s'.2 (t + 7) p = r + 1) ∧ cFl s' t p r k0 (fo [T]) := by
  have tt : 18 ≤ t := by rcases h with rfl | rfl <;> omega
  intro k
  induction k with
  | zero => intro s lo hi v T p vp r k0 w j o2 o5 hr; exact hr.elim
  | succ k ih =>
    intro s lo hi v T p vp r k0 w j o2 o5 hr h0 h1 h9 hk k00 hz hu hp hb hj
    obtain ⟨v1, v2, ch, wr, rfl, ⟨c1, c2, c3, c4⟩, hpw, hq⟩ := hr
    have tz := tSz_1 ((s.2 5 v, s.2 6 v, s.2 7 v, s.2 8 v, wr), fo (ch.map (·.2.1)))
    obtain ⟨s1, o51, f1, z1, m1, x1, n1, n2, n3, n4, n5, n6, n7, go1, go2⟩ := o_one h h9 (v := v) (p := p) (r := r) (by omega) hk k00 (by omega) hu (by omega) o2 o5
    have f410 : s1.1 410 = s.1 410 := f1.1 410 (by omega)
    have frow : ∀ a : Nat, a ≤ 12 → s1.2 a = s.2 a := fun a ha => f1.2.1 a (by omega) (by omega)
    cases ch with
    | nil =>
      have ez : tSz ((s.2 5 v, s.2 6 v, s.2 7 v, s.2 8 v, wr), fo (([] : List tCh).map (·.2.1))) = 1 := rfl
      rw [ez]
      exact ⟨s1, o51, go1 j w c1 hb (by omega), ⟨f1.1, f1.2.1, fun i hi => f1.2.2.1 i (by omega), f1.2.2.2⟩, z1, m1, n1, n2, n3, n4, n5, n6, n7, trivial, trivial⟩
    | cons q ch =>
      have c1' : s.2 9 v = q.1 := c1
      obtain ⟨a1, a2, a3, a4⟩ := hq q (List.mem_cons_self ..)
      have qi := cRep_in a4
      have ez : tSz ((s.2 5 v, s.2 6 v, s.2 7 v, s.2 8 v, wr), fo ((q :: ch).map (·.2.1))) = 1 + fSz (fo ((q :: ch).map (·.2.1))) := rfl
      rw [ez] at hz ⊢
      have fz := fSz_0 (fo ((q :: ch).map (·.2.1)))
      obtain ⟨s2, o52, d1, d2, d3, d4, d5, d6⟩ := ow_li h ih ch q s1 lo hi v k0 0 (k0 + 1) w j o2 o51 (cLnk_fr _ (fun c _ => by rw [frow 11 (by omega)]) c3) (fun c hc => by rw [frow 12 (by omega)]; exact c4 c hc) (fun x hx => by
        obtain ⟨b1, b2, b3, b4⟩ := hq x hx
        exact ⟨b1, b2, b3, cRep_fr k (fun a i g1 g2 _ _ _ => by rw [frow a (by omega)]) b4⟩) h0 (by rw [f410]; exact h1) (by rw [f410]; exact h9) z1 (by omega) (by omega) (by rw [f410]; omega) x1 k00 (by omega) n7 (Int.le_refl _) (by omega) (Bh_fr (frow 11 (by omega)) (frow 12 (by omega)) f410 j v w hb) (by omega)
      have kp : ∀ (a : Nat), t + 1 ≤ a → a ≤ t + 6 → s2.2 a k0 = s1.2 a k0 := fun a b1 b2 => d2.2.2.2 a k0 b1 (by omega) (by omega) (fun z => by omega)
      refine ⟨s2, o52, ?_, ?_, by rw [d4]; omega, ?_, ?_⟩
      · rw [go2 (by omega) (by omega), c1', d1, show k0 + 1 + fSz (fo ((q :: ch).map (·.2.1))) = k0 + (1 + fSz (fo ((q :: ch).map (·.2.1)))) by omega]
      · exact ⟨fun j hj => (d2.1 j hj).trans (f1.1 j hj), fun a ha hb => (d2.2.1 a ha hb).trans (f1.2.1 a ha hb), fun i hi => (d2.2.2.1 i (by omega)).trans (f1.2.2.1 i (by omega)), fun a i b1 b2 b3 b4 => (d2.2.2.2 a i b1 b2 (by omega) (fun _ => by omega)).trans (f1.2.2.2 a i b1 b2 b3 b4)⟩
      · intro p0
        rw [d2.2.2.2 (t + 7) p (by omega) (by omega) (by omega) (fun _ => by omega)]
        exact m1 p0
      · refine ⟨(kp _ (by omega) (by omega)).trans n1, (kp _ (by omega) (by omega)).trans n2, (kp _ (by omega) (by omega)).trans n3, (kp _ (by omega) (by omega)).trans n4, (kp _ (by omega) (by omega)).trans n5, (kp _ (by omega) (by omega)).trans n6, ?_, d6, trivial⟩
        rw [d5, fLn_fo, List.length_map]
        omega
/-- orderInto(): the draft's tree stands in its order -/
theorem cs_111 {t : Nat} (h : isTr t) {s : cm_S} {T : tT} (hr : cTr s 0 (tSz T) 0 T) (hc : s.1 410 = tSz T) (h9 : tSz T ≤ 500) (hx : s.2 11 0 = -1) (hu : s.2 12 0 = -1) : ∃ s', cm_sem 111 [.inr (.inl 4), .inr (.inl t), .inl 0] s = some (.inl none, s') ∧ (∀ j : Nat, j ≠ 100 * t + 8 → s'.1 j = s.1 j) ∧ (∀ a : Nat, a ≠ 13 → ¬ (t + 1 ≤ a ∧ a ≤ t + 8) → s'.2 a = s.2 a) ∧ s'.1 (100 * t + 8) = tSz T ∧ cFl s' t (-1) 0 0 (fo [T]) := by
  have tt : 18 ≤ t := by rcases h with rfl | rfl <;> omega
  have tz := tSz_1 T
  obtain ⟨k, hr⟩ := hr
  have e410 : (cm_p s (100 * t + 8) 0).1 410 = s.1 410 := cm_p_ne (by omega)
  obtain ⟨s', o5', e1, e2, e3, e4, e5⟩ := ow h k (cm_p s (100 * t + 8) 0) 0 (tSz T) 0 T (-1) (-1) 0 0 (-1) 1 (some (.inl 0)) none (cRep_fr (s := s) k (fun _ _ _ _ _ _ _ => rfl) hr) (Int.le_refl _) (by omega) (by omega) cm_p_at (Int.le_refl _) (by omega) hu (Or.inl ⟨rfl, rfl, rfl⟩) ⟨Int.le_refl _, by omega, hx, Or.inl ⟨hu, rfl⟩⟩ (by omega)
  refine ⟨s', ?_, fun j hj => (e2.1 j hj).trans (cm_p_ne hj), fun a ha hb => e2.2.1 a ha hb, by rw [e3]; omega, e5⟩
  rw [cS_111, cF_111_0, if_pos (tr_f h).1, cS_112, cF_112_0, if_pos (tr_f h).1, cm_bv_o]
  have : cm_lp cm_sem cm_k111 7 [some (.inr (.inl 4)), some (.inr (.inl t)), some (.inl 0), some (.inl 0), some (.inl 0), none] [] (cm_p s (100 * t + 8) 0) = oL t (some (.inl 0)) 0 0 none (cm_p s (100 * t + 8) 0) := rfl
  rw [this, e1]
  unfold oL
  have f410 : s'.1 410 = s.1 410 := (e2.1 410 (by omega)).trans e410
  rw [cE_111_7, cF_111_7, if_pos (by omega), cs_59b (by omega), cm_bi_i]
  simp only [cm_b0]
  rw [if_pos (by omega)]
