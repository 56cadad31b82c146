/-! ===== the class's printer: print() ===== -/
section TXa0
variable {tx : Int → Int} {n : Int}
theorem clT_o {T : tT} (hF : gF tx n (fo [T])) {B : Int → Int} {k : Int} (k0 : 0 ≤ k) (k1 : k < tSz T) {b : Bool} (hb : B k = cm_n b) : clT tx n T B (k + fSz (nCh (nT T k))) k = clo tx n (pL T k).1 (nRk (nT T k)) (nLb (nT T k)) (nCh (nT T k)) b := by
  have g := nd_g (fo [T]) 0 (-1) 0 0 hF k k0 (by rw [fSz_T]; omega)
  have pp := nT_p (T := T) k0 k1
  unfold clT clo
  have e1 : decide ((nLb (nT T (k + fSz (nCh (nT T k))))).1 = 21 ∧ nPa (nT T (k + fSz (nCh (nT T k)))) = k) = nlF (nCh (nT T k)) := by
    by_cases hc : nCh (nT T k) = .leaf
    · rw [hc]
      have z0 : fSz (.leaf : tF) = 0 := rfl
      rw [z0, Int.add_zero]
      exact decide_eq_false fun q => by omega
    · have n1 := nT_1 k0 k1 hc
      have q := nl_eq hF (p := k) (nCh (nT T k)) (k + 1) hc (fAt_ch k0 k1) (by omega) (by omega) n1.2.2 (by omega) g.2.2.2.1
      rw [show k + 1 + fSz (nCh (nT T k)) - 1 = k + fSz (nCh (nT T k)) by omega] at q
      cases hn : nlF (nCh (nT T k)) with
      | true => exact decide_eq_true (q.mpr hn)
      | false =>
        refine decide_eq_false fun z => ?_
        have := q.mp z
        rw [hn] at this
        cases this
  have e2 : (if B k ≠ 0 then [kTok 1010] else []) = (if b = true then [kTok 1010] else []) := by
    rw [hb]
    cases b
    · rw [if_neg (fun z => z rfl), if_neg (by decide)]
    · rw [if_pos (by decide), if_pos rfl]
  rw [e1, e2]
theorem p3_lp (ht : tOk tx n) {t : Nat} {T : tT} (hF0 : gF tx n (fo [T])) (o1 : Option cm_V) {p : Int} (p0 : -1 ≤ p) : ∀ (f : tF) (s : cm_S) (st : oS) (k r : Int) (pl : tLb) (hp bp : Bool) (B H : Int → Int), cP tx n s t T → s.2 39 = B → s.2 40 = H → fAt T k f → 0 ≤ k → p < k → k + fSz f ≤ tSz T → (f ≠ .leaf → pL T k = pl ∧ nRk (nT T k) = r ∧ nPa (nT T k) = p) → hb2 B H pl r hp bp k f → gF tx n f → cOut s st → (ems (ems st (clP tx n T B p (k - 1) 600 (k - 1))) (prF tx n pl r hp bp f)).1.length ≤ 1024 → ∃ s' st', cm_lp cm_sem cm_k143 99 [some (.inr (.inl 37)), o1, some (.inl k)] [] s = cm_lp cm_sem cm_k143 99 [some (.inr (.inl 37)), o1, some (.inl (k + fSz f))] [] s' ∧ pF s s' ∧ cOut s' st' ∧ ems st' (clP tx n T B p (k + fSz f - 1) 600 (k + fSz f - 1)) = ems (ems st (clP tx n T B p (k - 1) 600 (k - 1))) (prF tx n pl r hp bp f) := by
  intro f
  induction f generalizing p with
  | leaf =>
    intro s st k r pl hp bp B H h hB hH _ k0 pk k9 _ _ _ hc _
    have z0 : fSz (.leaf : tF) = 0 := rfl
    rw [z0, Int.add_zero]
    exact ⟨s, st, rfl, pF_rf s, hc, rfl⟩
  | inner x l u ch re i1 i2 =>
    intro s st k r pl hp bp B H h hB hH hA k0 pk k9 hR hb hF hc hlen
    have t9 := h.1.2.2.2.1
    have e : fSz (.inner x l u ch re) = 1 + fSz ch + fSz re := rfl
    have c0 := fSz_0 ch
    have r0 := fSz_0 re
    obtain ⟨hl, hch, hre⟩ := hA
    obtain ⟨hpl, hr, hpa⟩ := hR (by intro z; cases z)
    obtain ⟨b1, b2, b3, b4⟩ := hb
    obtain ⟨f1, f2, f3, f4, f5⟩ := hF
    have k1 : k < tSz T := by omega
    have ep : prF tx n pl r hp bp (.inner x l u ch re) = (ahd tx n pl r l.1 ++ ((if brF pl r l ch (hdF pl.1 r hp bp) = true then [kTok 1009] else []) ++ opn tx n l (fK0 ch))) ++ (prF tx n l 0 (hdF pl.1 r hp bp) (br1 pl r l ch (hdF pl.1 r hp bp)) ch ++ (clo tx n pl.1 r l ch (brF pl r l ch (hdF pl.1 r hp bp)) ++ prF tx n pl (r + 1) hp bp re)) := rfl
    rw [ep] at hlen ⊢
    rw [ems_ap, ems_ap, ems_ap] at hlen ⊢
    generalize hst0 : ems st (clP tx n T B p (k - 1) 600 (k - 1)) = st0 at *
    generalize hst1 : ems st0 (ahd tx n pl r l.1 ++ ((if brF pl r l ch (hdF pl.1 r hp bp) = true then [kTok 1009] else []) ++ opn tx n l (fK0 ch))) = st1 at *
    have L3 := ems_len (prF tx n pl (r + 1) hp bp re) (ems (ems st1 (prF tx n l 0 (hdF pl.1 r hp bp) (br1 pl r l ch (hdF pl.1 r hp bp)) ch)) (clo tx n pl.1 r l ch (brF pl r l ch (hdF pl.1 r hp bp))))
    have L2 := ems_len (clo tx n pl.1 r l ch (brF pl r l ch (hdF pl.1 r hp bp))) (ems st1 (prF tx n l 0 (hdF pl.1 r hp bp) (br1 pl r l ch (hdF pl.1 r hp bp)) ch))
    have L1 := ems_len (prF tx n l 0 (hdF pl.1 r hp bp) (br1 pl r l ch (hdF pl.1 r hp bp)) ch) st1
    -- the node's begin
    have head : PM s (cm_bv (cm_sem 153 [.inr (.inl 37), .inl p, .inl (k - 1)] s) fun s2 => cm_bv (cm_sem 162 [.inr (.inl 37), .inl k] s2) fun s3 => cm_sem 164 [.inr (.inl 37), .inl k] s3) st (clP tx n T B p (k - 1) 600 (k - 1) ++ (ahd tx n pl r l.1 ++ ((if brF pl r l ch (hdF pl.1 r hp bp) = true then [kTok 1009] else []) ++ opn tx n l (fK0 ch)))) := by
      have A := c_153 ht h (st := st) (p := p) (w := k - 1) p0 (by omega) (by omega)
      rw [hB] at A
      refine PM_bv A fun s2 g2 => ?_
      have C := c_162 ht (h.fr g2) (st := ems st (clP tx n T B p (k - 1) 600 (k - 1))) k0 k1
      rw [hpl, hr, hl] at C
      refine PM_bv C fun s3 g3 => ?_
      have D := c_164 ht ((h.fr g2).fr g3) (st := ems (ems st (clP tx n T B p (k - 1) 600 (k - 1))) (ahd tx n pl r l.1)) k0 k1
      rw [hl, hch, g3.1 39 (by decide), g2.1 39 (by decide), hB, b2] at D
      have eb : (if cm_n (brF pl r l ch (hdF pl.1 r hp bp)) ≠ 0 then [kTok 1009] else []) = (if brF pl r l ch (hdF pl.1 r hp bp) = true then [kTok 1009] else []) := by
        cases brF pl r l ch (hdF pl.1 r hp bp)
        · rw [if_neg (fun z => z rfl), if_neg (by decide)]
        · rw [if_pos (by decide), if_pos rfl]
      rw [eb] at D
      exact D
    obtain ⟨s1, e1, g1, o1'⟩ := head hc (by rw [ems_ap, hst0, hst1]; omega)
    rw [ems_ap, hst0, hst1] at o1'
    have step : cm_lp cm_sem cm_k143 99 [some (.inr (.inl 37)), o1, some (.inl k)] [] s = cm_lp cm_sem cm_k143 99 [some (.inr (.inl 37)), o1, some (.inl (k + 1))] [] s1 := by
      rw [cE_143_99, cF_143_99]
      simp only [h.tn, if_pos h.1.cl, h.1.2.2.1, h.1.pa k0 k1, hpa, cm_bi_i]
      rw [if_pos k1, cm_w_id (by omega) (by omega), cm_w_id (by omega) (by omega)]
      have A := c_153 ht h (st := st) (p := p) (w := k - 1) p0 (by omega) (by omega)
      rw [hB] at A
      obtain ⟨sa, ea, ga, oa⟩ := A hc (by
        have := ems_len (ahd tx n pl r l.1 ++ ((if brF pl r l ch (hdF pl.1 r hp bp) = true then [kTok 1009] else []) ++ opn tx n l (fK0 ch))) st0
        rw [hst1] at this
        rw [hst0]
        omega)
      rw [ea, cm_bv_o] at e1 ⊢
      have C := c_162 ht (h.fr ga) (st := ems st (clP tx n T B p (k - 1) 600 (k - 1))) k0 k1
      rw [hpl, hr, hl] at C
      obtain ⟨sb, eb, gb, ob⟩ := C oa (by
        have := ems_len ((if brF pl r l ch (hdF pl.1 r hp bp) = true then [kTok 1009] else []) ++ opn tx n l (fK0 ch)) (ems st0 (ahd tx n pl r l.1))
        rw [← ems_ap, hst1] at this
        rw [hst0]
        omega)
      rw [eb, cm_bv_o] at e1 ⊢
      rw [e1, cm_bv_o]
    have h1 := h.fr g1
    have fc := fAt_ch (T := T) k0 k1
    rw [hch] at fc
    have z1 : clP tx n T B k (k + 1 - 1) 600 (k + 1 - 1) = [] := clP_z 600 (by omega)
    obtain ⟨s2, st2, e2, g2, o2, q2⟩ := i1 (p := k) (by omega) s1 st1 (k + 1) 0 l (hdF pl.1 r hp bp) (br1 pl r l ch (hdF pl.1 r hp bp)) B H h1 (by rw [g1.1 39 (by decide)]; exact hB) (by rw [g1.1 40 (by decide)]; exact hH) fc (by omega) (by omega) (by omega) (fun hne => by
      have n1 := nT_1 k0 k1 (by rw [hch]; exact hne)
      have r1 := nT_r1 k0 k1 (by rw [hch]; exact hne)
      exact ⟨by rw [pL_ne (by omega), n1.2.2]; exact hl, r1, n1.2.2⟩) b3 f4 o1' (by rw [z1]; show (ems st1 _).1.length ≤ 1024; omega)
    rw [z1] at q2
    have q2' : ems st2 (clP tx n T B k (k + 1 + fSz ch - 1) 600 (k + 1 + fSz ch - 1)) = ems st1 (prF tx n l 0 (hdF pl.1 r hp bp) (br1 pl r l ch (hdF pl.1 r hp bp)) ch) := q2
    have h2 := h1.fr g2
    have fr := fAt_re (T := T) k0 k1
    rw [hch, hre] at fr
    -- the node's end
    have cc := clP_c (tx := tx) (n := n) (B := B) (w := k + 1 + fSz ch - 1) k0 k1 600 (k + 1 + fSz ch - 1) (by omega) (by rw [hch]; omega) (by omega)
    have co := clT_o hF0 (B := B) k0 k1 (b := brF pl r l ch (hdF pl.1 r hp bp)) b2
    rw [hch, hl, hpl, hr] at co
    rw [hpa, show k + 1 + fSz ch - 1 = k + fSz ch by omega] at cc
    rw [show k + 1 + fSz ch - 1 = k + fSz ch by omega] at q2'
    rw [co] at cc
    have q3 : ems st2 (clP tx n T B p (k + 1 + fSz ch - 1) 600 (k + 1 + fSz ch - 1)) = ems (ems st1 (prF tx n l 0 (hdF pl.1 r hp bp) (br1 pl r l ch (hdF pl.1 r hp bp)) ch)) (clo tx n pl.1 r l ch (brF pl r l ch (hdF pl.1 r hp bp))) := by
      rw [show k + 1 + fSz ch - 1 = k + fSz ch by omega, cc, ems_ap, q2']
    obtain ⟨s3, st3, e3, g3, o3, q4⟩ := i2 (p := p) p0 s2 st2 (k + 1 + fSz ch) (r + 1) pl hp bp B H h2 (by rw [g2.1 39 (by decide), g1.1 39 (by decide)]; exact hB) (by rw [g2.1 40 (by decide), g1.1 40 (by decide)]; exact hH) fr (by omega) (by omega) (by omega) (fun hne => by
      have n2 := nT_2 k0 k1 (by rw [hre]; exact hne)
      have r2 := nT_r2 k0 k1 (by rw [hre]; exact hne)
      rw [hch] at n2 r2
      refine ⟨?_, by rw [r2, hr], n2.2.1.trans hpa⟩
      unfold pL at hpl ⊢
      rw [n2.2.1]
      exact hpl) b4 f5 o2 (by rw [q3]; omega)
    refine ⟨s3, st3, by rw [step, e2, e3, e, show k + 1 + fSz ch + fSz re = k + (1 + fSz ch + fSz re) by omega], (g1.tr g2).tr g3, o3, ?_⟩
    rw [q3] at q4
    rw [e, show k + (1 + fSz ch + fSz re) - 1 = k + 1 + fSz ch + fSz re - 1 by omega]
    exact q4
/-- what is printed of a tree -/
def prT (tx : Int → Int) (n : Int) (T : tT) : oS := ems ([], false) (prF tx n rootL 0 false false (fo [T]))
/-- print() -/
theorem c_143 (ht : tOk tx n) {s : cm_S} {t : Nat} {T : tT} (hj : cJ tx n s t T) (hT : T.1.1 = 0) (hl : (prT tx n T).1.length ≤ 1024) : ∃ s', cm_sem 143 [.inr (.inl 37), .inr (.inl t)] s = some (.inl none, s') ∧ cOut s' (prT tx n T) ∧ (∀ a : Nat, a ≠ 38 → a ≠ 39 → a ≠ 40 → s'.2 a = s.2 a) ∧ ∀ j : Nat, j ≠ 3704 → j ≠ 3705 → j ≠ 3706 → s'.1 j = s.1 j := by
  have tz := tSz_1 T
  have t9 := hj.2.2.2.1
  obtain ⟨h1, h2, h3, h4, h5, h6, h7⟩ := id hj
  have tt : t ≤ 27 ∧ 18 ≤ t := by rcases h1 with rfl | rfl <;> omega
  rw [cS_143, cF_143_0]
  have hc : cP tx n (cm_p (cm_p (cm_p s 3704 (t : Int)) 3706 0) 3705 0) t T := ⟨⟨h1, by rw [cm_p_ne (by decide), cm_p_ne (by decide), cm_p_ne (by decide)]; exact h2, by rw [cm_p_ne (by omega), cm_p_ne (by omega), cm_p_ne (by omega)]; exact h3, h4, cTx_p (cTx_p (cTx_p h5 (by decide)) (by decide)) (by decide), cFl_fr (s := s) _ _ _ _ (fun _ _ _ _ _ _ => rfl) h6, h7⟩, by rw [cm_p_ne (by decide), cm_p_ne (by decide), cm_p_at]⟩
  have o0 : cOut (cm_p (cm_p (cm_p s 3704 (t : Int)) 3706 0) 3705 0) ([], false) := ⟨by rw [cm_p_ne (by decide), cm_p_at]; rfl, cm_p_at, trivial⟩
  have fr0 : (∀ a : Nat, (cm_p (cm_p (cm_p s 3704 (t : Int)) 3706 0) 3705 0).2 a = s.2 a) ∧ ∀ j : Nat, j ≠ 3704 → j ≠ 3705 → j ≠ 3706 → (cm_p (cm_p (cm_p s 3704 (t : Int)) 3706 0) 3705 0).1 j = s.1 j := ⟨fun _ => rfl, fun j a b c => by rw [cm_p_ne b, cm_p_ne c, cm_p_ne a]⟩
  generalize cm_p (cm_p (cm_p s 3704 (t : Int)) 3706 0) 3705 0 = s0 at *
  have fz := fSz_T T
  have fa : fAt T 0 (fo [T]) := by
    show nLb (nT T 0) = T.1 ∧ nCh (nT T 0) = T.2 ∧ nRe (nT T 0) = .leaf
    rw [nT_0]
    exact ⟨rfl, rfl, rfl⟩
  have p0 : nPa (nT T 0) = -1 := nT_p0 T
  have pl0 : pL T 0 = rootL := by unfold pL; rw [p0]; rfl
  have rk0 : nRk (nT T 0) = 0 := by rw [nT_0]
  obtain ⟨s1, e1, f1, b1⟩ := p1_lp (some (.inr (.inl t))) (fo [T]) s0 0 0 rootL false false hc fa (Int.le_refl _) (by omega) fun _ => ⟨pl0, rk0, fun q => by omega, fun _ => rfl⟩
  rw [fz, Int.zero_add] at e1 f1
  have hc1 := hc.fq f1.1 f1.2.1
  have e2 : cm_lp cm_sem cm_k143 12 [some (.inr (.inl 37)), some (.inr (.inl t)), some (.inl (tSz T))] [] s1 = cm_lp cm_sem cm_k143 47 [some (.inr (.inl 37)), some (.inr (.inl t)), some (.inl 0)] [] s1 := by
    rw [cE_143_12, cF_143_12]
    simp only [hc1.tn, if_pos hc1.1.cl, hc1.1.2.2.1]
    rw [if_neg (by omega)]
  -- headings of statements
  have hz : ∀ i, 0 ≤ i → i < 0 + fSz (fo [T]) → (nLb (nT T i)).1 = 5 → s1.2 40 i = 0 := by
    intro i i0 i1 i5
    rw [fz, Int.zero_add] at i1
    by_cases hi : i = 0
    · subst hi
      rw [nT_0] at i5
      exact absurd (hT.symm.trans i5) (by decide)
    · obtain ⟨a1, a2, a3, a4⟩ := b1
      obtain ⟨g1, g2, g3, g4, g5⟩ := h7
      have hd0 : hdF rootL.1 0 false false = false := by decide
      rw [hd0] at a3
      have fc := fAt_ch (T := T) (i := 0) (Int.le_refl _) (by omega)
      rw [nT_0] at fc
      have ez : tSz T = 1 + fSz T.2 := rfl
      exact hd5 (tx := tx) (n := n) (T := T) T.2 T.1 0 false _ 1 (fK T.2) a3 g4 fc (by decide) (by omega) g2 ⟨[], rfl, rfl⟩ (fun q => absurd q (by decide)) i (by omega) (by omega) i5
  obtain ⟨s2, e3, f2, g2, b2⟩ := p2_lp (some (.inr (.inl t))) (fo [T]) s1 0 0 rootL false false hc1 fa (Int.le_refl _) (by omega) (hbR_of _ _ _ _ _ _ (by decide) b1) (fun _ _ => trivial) (fun _ _ _ _ _ _ => trivial) hz
  rw [fz, Int.zero_add] at e3 f2
  have hc2 := hc1.fq f2.1 f2.2.1
  have e4 : cm_lp cm_sem cm_k143 47 [some (.inr (.inl 37)), some (.inr (.inl t)), some (.inl (tSz T))] [] s2 = cm_lp cm_sem cm_k143 99 [some (.inr (.inl 37)), some (.inr (.inl t)), some (.inl 0)] [] s2 := by
    rw [cE_143_47, cF_143_47]
    simp only [hc2.tn, if_pos hc2.1.cl, hc2.1.2.2.1]
    rw [if_neg (by omega)]
  have o2 : cOut s2 ([], false) := ⟨by rw [f2.1, f1.1]; exact o0.1, by rw [f2.1, f1.1]; exact o0.2.1, trivial⟩
  have zc : clP tx n T (s2.2 39) (-1) (0 - 1) 600 (0 - 1) = [] := clP_z 600 (by decide)
  obtain ⟨s3, st3, e5, f3, o3, q3⟩ := p3_lp ht h7 (some (.inr (.inl t))) (p := -1) (by decide) (fo [T]) s2 ([], false) 0 0 rootL false false (s2.2 39) (s2.2 40) hc2 rfl rfl fa (Int.le_refl _) (by decide) (by omega) (fun _ => ⟨pl0, rk0, p0⟩) b2 h7 o2 (by rw [zc]; exact hl)
  rw [zc, fz, Int.zero_add] at q3
  rw [fz, Int.zero_add] at e5
  have q3' : ems st3 (clP tx n T (s2.2 39) (-1) (tSz T - 1) 600 (tSz T - 1)) = prT tx n T := q3
  have hc3 := hc2.fr f3
  have A := c_153 ht hc3 (st := st3) (p := -1) (w := tSz T - 1) (by decide) (by omega) (by omega)
  rw [f3.1 39 (by decide)] at A
  obtain ⟨s4, e6, f4, o4⟩ := A o3 (by rw [q3']; exact hl)
  rw [q3'] at o4
  refine ⟨s4, ?_, o4, fun a a1 a2 a3 => ?_, fun j j1 j2 j3 => ?_⟩
  · rw [e1, e2, e3, e4, e5, cE_143_99, cF_143_99]
    simp only [hc3.tn, if_pos hc3.1.cl, hc3.1.2.2.1]
    rw [if_neg (by omega), cm_w_id (by omega) (by omega), e6, cm_bv_o]
  · rw [f4.1 a a1, f3.1 a a1, f2.2.1 a a2 a3, f1.2.1 a a2 a3, fr0.1 a]
  · rw [f4.2 j j2 j3, f3.2 j j2 j3, f2.1, f1.1, fr0.2 j j1 j2 j3]
end TXa0
