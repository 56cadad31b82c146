/-! ===== the class's printer: headings and brackets, all nodes ===== -/
def qF (s s' : cm_S) (k k' : Int) : Prop := s'.1 = s.1 ∧ (∀ a : Nat, a ≠ 39 → a ≠ 40 → s'.2 a = s.2 a) ∧ ∀ i, ¬ (k ≤ i ∧ i < k') → s'.2 39 i = s.2 39 i ∧ s'.2 40 i = s.2 40 i
theorem qF_rf (s : cm_S) (k k' : Int) : qF s s k k' := ⟨rfl, fun _ _ _ => rfl, fun _ _ => ⟨rfl, rfl⟩⟩
theorem qF.tr {s s' s'' : cm_S} {a b c d : Int} (h : qF s s' a b) (h' : qF s' s'' c d) {k k' : Int} (h1 : k ≤ a) (h2 : b ≤ k') (h3 : k ≤ c) (h4 : d ≤ k') : qF s s'' k k' := ⟨h'.1.trans h.1, fun a b c => (h'.2.1 a b c).trans (h.2.1 a b c), fun i hi => ⟨(h'.2.2 i (by omega)).1.trans (h.2.2 i (by omega)).1, (h'.2.2 i (by omega)).2.trans (h.2.2 i (by omega)).2⟩⟩
section TX98
variable {tx : Int → Int} {n : Int}
theorem cP.fq {s s' : cm_S} {t : Nat} {T : tT} (h : cP tx n s t T) (hf : s'.1 = s.1) (hr : ∀ a : Nat, a ≠ 39 → a ≠ 40 → s'.2 a = s.2 a) : cP tx n s' t T := by
  obtain ⟨⟨h1, h2, h3, h4, h5, h6, h7⟩, h8⟩ := h
  have tt : t ≤ 27 ∧ 18 ≤ t := by rcases h1 with rfl | rfl <;> omega
  exact ⟨⟨h1, by rw [hf]; exact h2, by rw [hf]; exact h3, h4, ⟨by rw [hf]; exact h5.1, fun j a b => by rw [hr 2 (by decide) (by decide)]; exact h5.2 j a b⟩, cFl_fr _ _ _ _ (fun a i a1 a2 _ _ => by rw [hr a (by omega) (by omega)]) h6, h7⟩, by rw [hf]; exact h8⟩
/-- one node's heading and brackets -/
theorem p1_one {s : cm_S} {t : Nat} {T : tT} (h : cP tx n s t T) {k : Int} (k0 : 0 ≤ k) (k1 : k < tSz T) {hp bp : Bool} (hq : 0 ≤ nPa (nT T k) → s.2 40 (nPa (nT T k)) = cm_n hp ∧ s.2 39 (nPa (nT T k)) = cm_n bp) (hn : nPa (nT T k) < 0 → hp = false) (o1 : Option cm_V) : ∃ s', cm_lp cm_sem cm_k143 12 [some (.inr (.inl 37)), o1, some (.inl k)] [] s = cm_lp cm_sem cm_k143 12 [some (.inr (.inl 37)), o1, some (.inl (k + 1))] [] s' ∧ qF s s' k (k + 1) ∧ s'.2 40 k = cm_n (hdF (pL T k).1 (nRk (nT T k)) hp bp) ∧ s'.2 39 k = cm_n (br1 (pL T k) (nRk (nT T k)) (nLb (nT T k)) (nCh (nT T k)) (hdF (pL T k).1 (nRk (nT T k)) hp bp)) := by
  have t9 := h.1.2.2.2.1
  obtain ⟨z, e1, hz⟩ := c_144 h k0 k1 hq hn
  have z1 : z = cm_n (hdF (pL T k).1 (nRk (nT T k)) hp bp) := by
    rcases hz with ⟨rfl, q⟩ | ⟨rfl, q⟩
    · rw [Bool.not_eq_true] at q; rw [q]; rfl
    · rw [q]; rfl
  subst z1
  generalize hdF (pL T k).1 (nRk (nT T k)) hp bp = hd at *
  have h2 : cP tx n (cm_q s 40 k (cm_n hd)) t T := h.fq rfl fun a a1 a2 => cm_q_ne a2
  have e40 : (cm_q s 40 k (cm_n hd)).2 40 k = cm_n hd := by rw [cm_q_at, if_pos rfl]
  have A := c_146 h2 k0 k1
  have B := c_148 h2 k0 k1 e40
  have fin : ∀ b : Bool, ∃ s', cm_lp cm_sem cm_k143 12 [some (.inr (.inl 37)), o1, some (.inl (k + 1))] [] (cm_q (cm_q s 40 k (cm_n hd)) 39 k (cm_n b)) = cm_lp cm_sem cm_k143 12 [some (.inr (.inl 37)), o1, some (.inl (k + 1))] [] s' ∧ qF s s' k (k + 1) ∧ s'.2 40 k = cm_n hd ∧ s'.2 39 k = cm_n b := fun b => by
    refine ⟨_, rfl, ⟨rfl, fun a a1 a2 => by rw [cm_q_ne a1, cm_q_ne a2], fun i hi => ⟨?_, ?_⟩⟩, ?_, ?_⟩
    · rw [cm_q_at, if_neg (by omega), cm_q_ne (by omega)]
    · rw [cm_q_ne (by omega), cm_q_at, if_neg (by omega)]
    · rw [cm_q_ne (by omega)]; exact e40
    · rw [cm_q_at, if_pos rfl]
  rw [cE_143_12, cF_143_12]
  simp only [h.tn, if_pos h.1.cl, h.1.2.2.1]
  rw [if_pos k1, if_pos (by omega), e1, cm_bi_i, if_pos (by omega), if_pos cm_n01, cm_w_id (by omega) (by omega)]
  unfold br1
  by_cases ha : tB (nLb (nT T k)) < tWn (pL T k).1 (lbC (pL T k)) (nRk (nT T k))
  · rw [decide_eq_true (Or.inl ha)]
    obtain ⟨za, ea, ⟨rfl, q⟩ | ⟨rfl, q⟩⟩ := A
    · exact absurd ha q
    · rw [ea, cm_bi_i, if_neg (by decide), if_pos (by omega)]
      exact fin true
  · obtain ⟨za, ea, ⟨rfl, q⟩ | ⟨rfl, q⟩⟩ := A
    · rw [ea, cm_bi_i, if_pos rfl]
      obtain ⟨zb, eb, ⟨rfl, q2⟩ | ⟨rfl, q2⟩⟩ := B
      · rw [eb, cm_bi_i, if_pos rfl, if_pos (by omega), decide_eq_false (fun z => z.elim ha q2)]
        exact fin false
      · unfold misF at q2
        rw [eb, cm_bi_i, if_neg (by decide), if_pos (by omega), decide_eq_true (Or.inr q2)]
        exact fin true
    · exact absurd q ha
theorem p1_lp {t : Nat} {T : tT} (o1 : Option cm_V) : ∀ (f : tF) (s : cm_S) (k r : Int) (pl : tLb) (hp bp : Bool), cP tx n s t T → fAt T k f → 0 ≤ k → k + fSz f ≤ tSz T → (f ≠ .leaf → pL T k = pl ∧ nRk (nT T k) = r ∧ (0 ≤ nPa (nT T k) → s.2 40 (nPa (nT T k)) = cm_n hp ∧ s.2 39 (nPa (nT T k)) = cm_n bp) ∧ (nPa (nT T k) < 0 → hp = false)) → ∃ s', cm_lp cm_sem cm_k143 12 [some (.inr (.inl 37)), o1, some (.inl k)] [] s = cm_lp cm_sem cm_k143 12 [some (.inr (.inl 37)), o1, some (.inl (k + fSz f))] [] s' ∧ qF s s' k (k + fSz f) ∧ hbOk (s'.2 39) (s'.2 40) pl r hp bp k f := by
  intro f
  induction f with
  | leaf =>
    intro s k r pl hp bp h _ k0 k9 _
    exact ⟨s, by show _ = cm_lp cm_sem cm_k143 12 [_, o1, some (.inl (k + 0))] [] s; rw [Int.add_zero], qF_rf s _ _, trivial⟩
  | inner x l u ch re i1 i2 =>
    intro s k r pl hp bp h hA k0 k9 hR
    have e : fSz (.inner x l u ch re) = 1 + fSz ch + fSz re := rfl
    have c0 := fSz_0 ch
    have r0 := fSz_0 re
    obtain ⟨hl, hch, hre⟩ := hA
    obtain ⟨hpl, hr, hq, hn⟩ := hR (by intro z; cases z)
    have k1 : k < tSz T := by omega
    obtain ⟨s1, e1, f1, a1, a2⟩ := p1_one h k0 k1 hq hn o1
    rw [hpl, hr] at a1
    rw [hpl, hr, hl, hch] at a2
    have h1 := h.fq f1.1 f1.2.1
    have fc := fAt_ch (T := T) k0 k1
    rw [hch] at fc
    have pp := (nT_p (T := T) k0 k1).2
    obtain ⟨s2, e2, f2, b2⟩ := i1 s1 (k + 1) 0 l (hdF pl.1 r hp bp) (br1 pl r l ch (hdF pl.1 r hp bp)) h1 fc (by omega) (by omega) (fun hne => by
      have n1 := nT_1 k0 k1 (by rw [hch]; exact hne)
      have r1 := nT_r1 k0 k1 (by rw [hch]; exact hne)
      refine ⟨by rw [pL_ne (by omega), n1.2.2]; exact hl, r1, fun _ => ?_, fun z => by omega⟩
      rw [n1.2.2]
      exact ⟨a1, a2⟩)
    have h2 := h1.fq f2.1 f2.2.1
    have fr := fAt_re (T := T) k0 k1
    rw [hch, hre] at fr
    obtain ⟨s3, e3, f3, b3⟩ := i2 s2 (k + 1 + fSz ch) (r + 1) pl hp bp h2 fr (by omega) (by omega) (fun hne => by
      have n2 := nT_2 k0 k1 (by rw [hre]; exact hne)
      have r2 := nT_r2 k0 k1 (by rw [hre]; exact hne)
      rw [hch] at n2 r2
      refine ⟨?_, by rw [r2, hr], fun q => ?_, fun q => hn (by rw [← n2.2.1]; exact q)⟩
      · unfold pL at hpl ⊢
        rw [n2.2.1]
        exact hpl
      · rw [n2.2.1] at q ⊢
        rw [(f2.2.2 _ (by omega)).2, (f2.2.2 _ (by omega)).1, (f1.2.2 _ (by omega)).2, (f1.2.2 _ (by omega)).1]
        exact hq q)
    refine ⟨s3, by rw [e1, e2, e3, e, show k + 1 + fSz ch + fSz re = k + (1 + fSz ch + fSz re) by omega], (f1.tr f2 (k := k) (k' := k + 1 + fSz ch) (by omega) (by omega) (by omega) (by omega)).tr f3 (by omega) (by omega) (by omega) (by omega), ?_, ?_, ?_, b3⟩
    · rw [(f3.2.2 k (by omega)).2, (f2.2.2 k (by omega)).2]
      exact a1
    · rw [(f3.2.2 k (by omega)).1, (f2.2.2 k (by omega)).1]
      exact a2
    · exact hbOk_fr _ _ _ _ _ _ (fun i i0 i9 => f3.2.2 i (by omega)) b2
/-! the first thing of a statement -/
theorem cl_150 {s : cm_S} {t : Nat} {T : tT} (h : cP tx n s t T) (o1 : Option cm_V) : ∀ (f : tF) (k : Int) (pl : tLb) (bp : Bool), fAt T k f → f ≠ .leaf → 0 ≤ k → k < tSz T → hbOk (s.2 39) (s.2 40) pl 0 false bp k f → pl.1 ≠ 9 → pl.1 ≠ 10 → RB (cm_lp cm_sem cm_k150 3 [some (.inr (.inl 37)), o1, some (.inl k)] [] s) s (sbF pl f = true) := by
  have t9 := h.1.2.2.2.1
  intro f
  induction f with
  | leaf => intro k pl bp _ hne; exact absurd rfl hne
  | inner x l u ch re i1 i2 =>
    intro k pl bp hA _ k0 k1 hb p9 p10
    obtain ⟨hl, hch, hre⟩ := hA
    have hdf : hdF pl.1 0 false bp = false := by simp [hdF, p9, p10]
    obtain ⟨b1, b2, b3, b4⟩ := hb
    rw [hdf] at b2 b3
    have es : sbF pl (.inner x l u ch re) = if br1 pl 0 l ch false = true then false else if l.1 = 37 ∨ l.1 = 39 then true else if isSb l.1 then sbF l ch else false := rfl
    rw [cE_150_3, cF_150_3]
    simp only [h.tn, if_pos h.1.cl, h.1.2.2.1]
    rw [if_pos k1]
    refine RB_if (c_151 (s := s) k0 (by omega)) (fun p => ?_) (fun p => ?_)
    · rw [es]
      have : br1 pl 0 l ch false = true := by
        cases hbr : br1 pl 0 l ch false with
        | true => rfl
        | false =>
          rw [hbr] at b2
          exact absurd b2 p
      rw [if_pos this]
      exact RB_0 (by decide)
    · have nb : ¬ br1 pl 0 l ch false = true := fun z => p (by rw [b2, z]; decide)
      rw [es, if_neg nb]
      simp only [h.tn, if_pos h.1.cl, h.1.kd k0 k1, hl, cm_bi_i]
      have go : isSb l.1 → RB (cm_lp cm_sem cm_k150 3 [some (.inr (.inl 37)), o1, some (.inl (cm_w (k + 1)))] [] s) s (sbF l ch = true) := fun hk => by
        have gc := (h.1.g k0 k1).2.1
        rw [hl, hch] at gc
        have hc : ch ≠ .leaf := by
          by_cases q : l.1 = 44 ∨ l.1 = 48
          · exact gC_ne gc (by omega)
          · exact gC_n2 gc (by omega)
        have n1 := nT_1 k0 k1 (by rw [hch]; exact hc)
        have fc := fAt_ch (T := T) k0 k1
        rw [hch] at fc
        rw [cm_w_id (by omega) (by omega)]
        exact i1 (k + 1) l _ fc hc (by omega) n1.1 b3 (by omega) (by omega)
      by_cases c37 : l.1 = 37
      · rw [if_pos c37, if_pos (Or.inl c37)]; exact RB_1 rfl
      rw [if_neg c37]
      by_cases c39 : l.1 = 39
      · rw [if_pos c39, if_pos (Or.inr c39)]; exact RB_1 rfl
      rw [if_neg c39, if_neg (show ¬ (l.1 = 37 ∨ l.1 = 39) by omega)]
      by_cases c40 : l.1 = 40
      · rw [if_pos c40, if_pos (show isSb l.1 by omega)]; exact go (by omega)
      rw [if_neg c40]
      by_cases c41 : l.1 = 41
      · rw [if_pos c41, if_pos (show isSb l.1 by omega)]; exact go (by omega)
      rw [if_neg c41]
      by_cases c43 : l.1 = 43
      · rw [if_pos c43, if_pos (show isSb l.1 by omega)]; exact go (by omega)
      rw [if_neg c43]
      by_cases c44 : l.1 = 44
      · rw [if_pos c44, if_pos (show isSb l.1 by omega)]; exact go (by omega)
      rw [if_neg c44]
      by_cases c46 : l.1 = 46
      · rw [if_pos c46, if_pos (show isSb l.1 by omega)]; exact go (by omega)
      rw [if_neg c46]
      by_cases c47 : l.1 = 47
      · rw [if_pos c47, if_pos (show isSb l.1 by omega)]; exact go (by omega)
      rw [if_neg c47]
      by_cases c48 : l.1 = 48
      · rw [if_pos c48, if_pos (show isSb l.1 by omega)]; exact go (by omega)
      rw [if_neg c48]
      by_cases c49 : l.1 = 49
      · rw [if_pos c49, if_pos (show isSb l.1 by omega)]; exact go (by omega)
      rw [if_neg c49, if_neg (show ¬ isSb l.1 by omega)]
      exact RB_0 (by decide)
theorem c_152 {s : cm_S} {t : Nat} {T : tT} (h : cP tx n s t T) {i : Int} (h0 : 0 ≤ i) (h1 : i < tSz T) (hp : 0 ≤ nPa (nT T i)) : RB (cm_sem 152 [.inr (.inl 37), .inl i] s) s ((nLb (nT T i)).1 = 34 ∧ lbP (nLb (nT T i)) ≠ lbP (pL T i)) := by
  have pp := (nT_p (T := T) h0 h1).2
  rw [cS_152, cF_152_0]
  simp only [h.tn, if_pos h.1.cl, h.1.kd h0 h1, h.1.pl h0 h1, h.1.pa h0 h1, h.1.pl hp (show nPa (nT T i) < tSz T by omega), cm_bi_i]
  rw [pL_ne hp]
  split
  · next e =>
    split
    · next e2 => exact RB_0 fun q => q.2 e2
    · next e2 => exact RB_1 ⟨e, e2⟩
  · next e => exact RB_0 fun q => e q.1
/-- all brackets; roots: those of the roots are known already, the others as they were at first -/
def hb2 (B H : Int → Int) : tLb → Int → Bool → Bool → Int → tF → Prop
  | _, _, _, _, _, .leaf => True
  | pl, r, hp, bp, k, .inner _ l _ ch re => H k = cm_n (hdF pl.1 r hp bp) ∧ B k = cm_n (brF pl r l ch (hdF pl.1 r hp bp)) ∧ hb2 B H l 0 (hdF pl.1 r hp bp) (br1 pl r l ch (hdF pl.1 r hp bp)) (k + 1) ch ∧ hb2 B H pl (r + 1) hp bp (k + 1 + fSz ch) re
def hbR (B H : Int → Int) : tLb → Int → Bool → Bool → Int → tF → Prop
  | _, _, _, _, _, .leaf => True
  | pl, r, hp, bp, k, .inner _ l _ ch re => H k = cm_n (hdF pl.1 r hp bp) ∧ B k = cm_n (brF pl r l ch (hdF pl.1 r hp bp)) ∧ hbOk B H l 0 (hdF pl.1 r hp bp) (br1 pl r l ch (hdF pl.1 r hp bp)) (k + 1) ch ∧ hbR B H pl (r + 1) hp bp (k + 1 + fSz ch) re
theorem hb2_fr {B H B' H' : Int → Int} : ∀ (f : tF) (pl : tLb) (r : Int) (hp bp : Bool) (k : Int), (∀ i, k ≤ i → i < k + fSz f → B' i = B i ∧ H' i = H i) → hb2 B H pl r hp bp k f → hb2 B' H' pl r hp bp k f := by
  intro f
  induction f with
  | leaf => intro pl r hp bp k _ _; trivial
  | inner x l u ch re i1 i2 =>
    intro pl r hp bp k hf h
    have e : fSz (.inner x l u ch re) = 1 + fSz ch + fSz re := rfl
    have c0 := fSz_0 ch
    have r0 := fSz_0 re
    obtain ⟨a1, a2, a3, a4⟩ := h
    have g := hf k (by omega) (by omega)
    exact ⟨g.2.trans a1, g.1.trans a2, i1 _ _ _ _ _ (fun i b1 b2 => hf i (by omega) (by omega)) a3, i2 _ _ _ _ _ (fun i b1 b2 => hf i (by omega) (by omega)) a4⟩
theorem hbR_fr {B H B' H' : Int → Int} : ∀ (f : tF) (pl : tLb) (r : Int) (hp bp : Bool) (k : Int), (∀ i, k ≤ i → i < k + fSz f → B' i = B i ∧ H' i = H i) → hbR B H pl r hp bp k f → hbR B' H' pl r hp bp k f := by
  intro f
  induction f with
  | leaf => intro pl r hp bp k _ _; trivial
  | inner x l u ch re i1 i2 =>
    intro pl r hp bp k hf h
    have e : fSz (.inner x l u ch re) = 1 + fSz ch + fSz re := rfl
    have c0 := fSz_0 ch
    have r0 := fSz_0 re
    obtain ⟨a1, a2, a3, a4⟩ := h
    have g := hf k (by omega) (by omega)
    exact ⟨g.2.trans a1, g.1.trans a2, hbOk_fr _ _ _ _ _ _ (fun i b1 b2 => hf i (by omega) (by omega)) a3, i2 _ _ _ _ _ (fun i b1 b2 => hf i (by omega) (by omega)) a4⟩
theorem hbR_of {B H : Int → Int} : ∀ (f : tF) (pl : tLb) (r : Int) (hp bp : Bool) (k : Int), pl.1 ≠ 5 → hbOk B H pl r hp bp k f → hbR B H pl r hp bp k f := by
  intro f
  induction f with
  | leaf => intro pl r hp bp k _ _; trivial
  | inner x l u ch re i1 i2 =>
    intro pl r hp bp k h5 h
    obtain ⟨a1, a2, a3, a4⟩ := h
    have eb : brF pl r l ch (hdF pl.1 r hp bp) = br1 pl r l ch (hdF pl.1 r hp bp) := by simp [brF, h5]
    exact ⟨a1, by rw [eb]; exact a2, a3, i2 _ _ _ _ _ h5 a4⟩
theorem p2_lp {t : Nat} {T : tT} (o1 : Option cm_V) : ∀ (f : tF) (s : cm_S) (k r : Int) (pl : tLb) (hp bp : Bool), cP tx n s t T → fAt T k f → 0 ≤ k → k + fSz f ≤ tSz T → hbR (s.2 39) (s.2 40) pl r hp bp k f → (hp = true → gC pl.1 (fK f) → True) → (∀ (x : Nat) (l : tLb) (u : Unit) (ch re : tF), f = .inner x l u ch re → True) → (∀ i, k ≤ i → i < k + fSz f → (nLb (nT T i)).1 = 5 → s.2 40 i = 0) → ∃ s', cm_lp cm_sem cm_k143 47 [some (.inr (.inl 37)), o1, some (.inl k)] [] s = cm_lp cm_sem cm_k143 47 [some (.inr (.inl 37)), o1, some (.inl (k + fSz f))] [] s' ∧ qF s s' (k + 1) (k + fSz f) ∧ s'.2 40 = s.2 40 ∧ hb2 (s'.2 39) (s'.2 40) pl r hp bp k f := by
  intro f
  induction f with
  | leaf =>
    intro s k r pl hp bp h _ k0 k9 _ _ _ _
    exact ⟨s, by show _ = cm_lp cm_sem cm_k143 47 [_, o1, some (.inl (k + 0))] [] s; rw [Int.add_zero], qF_rf s _ _, rfl, trivial⟩
  | inner x l u ch re i1 i2 =>
    intro s k r pl hp bp h hA k0 k9 hR _ _ hZ
    have t9 := h.1.2.2.2.1
    have e : fSz (.inner x l u ch re) = 1 + fSz ch + fSz re := rfl
    have c0 := fSz_0 ch
    have r0 := fSz_0 re
    obtain ⟨hl, hch, hre⟩ := hA
    obtain ⟨q1, q2, q3, q4⟩ := hR
    have k1 : k < tSz T := by omega
    have fc := fAt_ch (T := T) k0 k1
    rw [hch] at fc
    have fr := fAt_re (T := T) k0 k1
    rw [hch, hre] at fr
    -- the node itself
    have step : ∃ s1, cm_lp cm_sem cm_k143 47 [some (.inr (.inl 37)), o1, some (.inl k)] [] s = cm_lp cm_sem cm_k143 47 [some (.inr (.inl 37)), o1, some (.inl (k + 1))] [] s1 ∧ qF s s1 (k + 1) (k + 1 + fSz ch) ∧ s1.2 40 = s.2 40 ∧ hbR (s1.2 39) (s1.2 40) l 0 (hdF pl.1 r hp bp) (br1 pl r l ch (hdF pl.1 r hp bp)) (k + 1) ch := by
      rw [cE_143_47, cF_143_47]
      simp only [h.tn, if_pos h.1.cl, h.1.2.2.1, h.1.kd k0 k1, cm_bi_i]
      have w1 : cm_w (k + 1) = k + 1 := cm_w_id (by omega) (by omega)
      rw [if_pos k1, if_pos (by omega), hl, w1]
      by_cases h5 : l.1 = 5
      · rw [if_pos h5, if_pos (by omega), if_pos (by omega)]
        have hd0 : hdF pl.1 r hp bp = false := by
          have := hZ k (by omega) (by omega) (by rw [hl]; exact h5)
          rw [q1] at this
          cases hh : hdF pl.1 r hp bp with
          | false => rfl
          | true => rw [hh] at this; exact absurd this (by decide)
        rw [hd0] at q3 ⊢
        have g := h.1.g k0 k1
        rw [hl, hch] at g
        have hc : ch ≠ .leaf := gC_ne g.2.1 (by omega)
        have n1 := nT_1 k0 k1 (by rw [hch]; exact hc)
        rw [hch] at n1
        cases hcc : ch with
        | leaf => exact absurd hcc hc
        | inner x2 l2 u2 ch2 re2 =>
          rw [hcc] at q3 fc g c0 n1
          have re2l : re2 = .leaf := by
            have : ∃ a, fK (.inner x2 l2 u2 ch2 re2) = [a] ∧ isE a := by
              have := g.2.1
              rw [h5] at this
              exact this
            obtain ⟨a, ha, -⟩ := this
            have : l2.1 :: fK re2 = [a] := ha
            exact fK_nil (List.cons.inj this).2
          subst re2l
          have sb := cl_150 h (some (.inl (k + 1))) (.inner x2 l2 u2 ch2 .leaf) (k + 1) l _ fc (by intro z; cases z) (by omega) n1.1 q3 (by omega) (by omega)
          have hbk := c_152 h (i := k + 1) (by omega) n1.1 (by rw [n1.2.2]; exact k0)
          have pl1 : pL T (k + 1) = l := by rw [pL_ne (by rw [n1.2.2]; exact k0), n1.2.2]; exact hl
          rw [pl1, n1.2.1] at hbk
          have hbk' : RB (cm_sem 152 [.inr (.inl 37), .inl (k + 1)] s) s (l2.1 = 34 ∧ lbP l2 ≠ lbP l) := hbk
          have sb' : RB (cm_sem 150 [.inr (.inl 37), .inl (k + 1)] s) s (sbF l (tCo l2 ch2 .leaf) = true) := by
            rw [cS_150, cF_150_0]
            exact sb
          obtain ⟨z1, z2, z3, z4⟩ := q3
          have hdl : ∀ b, hdF l.1 0 false b = false := fun b => by simp [hdF, h5]
          rw [hdl] at z1 z2 z3
          have b0 : br1 l 0 l2 ch2 false = false := by
            have w0 : tWn l.1 (lbC l) 0 = 0 := by simp [tWn, h5]
            have tb := tB_0 l2
            unfold br1
            rw [decide_eq_false_iff_not, w0, h5]
            intro q
            rcases q with q | q | q | q
            · omega
            · omega
            · omega
            · exact absurd q.1 (by decide)
          rw [b0] at z2
          have zf : s.2 39 (k + 1) = 0 := z2
          rw [if_pos zf]
          have done : ∀ b : Bool, (b = decide (sbF l (tCo l2 ch2 .leaf) = true ∨ l2.1 = 34 ∧ lbP l2 ≠ lbP l)) → ∃ s1, cm_lp cm_sem cm_k143 47 [some (.inr (.inl 37)), o1, some (.inl (k + 1))] [] (cm_q s 39 (k + 1) (cm_n b)) = cm_lp cm_sem cm_k143 47 [some (.inr (.inl 37)), o1, some (.inl (k + 1))] [] s1 ∧ qF s s1 (k + 1) (k + 1 + fSz (.inner x2 l2 u2 ch2 .leaf)) ∧ s1.2 40 = s.2 40 ∧ hbR (s1.2 39) (s1.2 40) l 0 false (br1 pl r l (.inner x2 l2 u2 ch2 .leaf) false) (k + 1) (.inner x2 l2 u2 ch2 .leaf) := fun b hb => by
            have ez : fSz (.inner x2 l2 u2 ch2 .leaf) = 1 + fSz ch2 + 0 := rfl
            have c2 := fSz_0 ch2
            refine ⟨_, rfl, ⟨rfl, fun a a1 a2 => cm_q_ne a1, fun i hi => ⟨by rw [cm_q_at, if_neg (by omega)], by rw [cm_q_ne (by omega)]⟩⟩, cm_q_ne (by omega), ?_⟩
            refine ⟨?_, ?_, ?_, trivial⟩
            · rw [hdl, cm_q_ne (by omega)]
              exact z1
            · rw [hdl, cm_q_at, if_pos rfl, hb]
              unfold brF
              rw [b0]
              simp [h5]
            · rw [hdl]
              refine hbOk_fr _ _ _ _ _ _ (fun i i0 i9 => ⟨by rw [cm_q_at, if_neg (by omega)], by rw [cm_q_ne (by omega)]⟩) z3
          obtain ⟨zs, es, ⟨rfl, hs⟩ | ⟨rfl, hs⟩⟩ := sb'
          · rw [es, cm_bi_i, if_pos rfl]
            obtain ⟨zh, eh, ⟨rfl, hh⟩ | ⟨rfl, hh⟩⟩ := hbk'
            · rw [eh, cm_bi_i, if_pos rfl, if_pos (by omega)]
              exact done false (decide_eq_false (fun q => q.elim hs hh)).symm
            · rw [eh, cm_bi_i, if_neg (by decide), if_pos (by omega)]
              exact done true (decide_eq_true (Or.inr hh)).symm
          · rw [es, cm_bi_i, if_neg (by decide), if_pos (by omega)]
            exact done true (decide_eq_true (Or.inl hs)).symm
      · rw [if_neg h5]
        exact ⟨s, rfl, qF_rf s _ _, rfl, hbR_of _ _ _ _ _ _ h5 q3⟩
    obtain ⟨s1, e1, f1, g1, r1⟩ := step
    have h1 := h.fq f1.1 f1.2.1
    obtain ⟨s2, e2, f2, g2, r2⟩ := i1 s1 (k + 1) 0 l _ _ h1 fc (by omega) (by omega) r1 (fun _ _ => trivial) (fun _ _ _ _ _ _ => trivial) (fun i a b c => by rw [g1]; exact hZ i (by omega) (by omega) c)
    have h2 := h1.fq f2.1 f2.2.1
    have q4' : hbR (s2.2 39) (s2.2 40) pl (r + 1) hp bp (k + 1 + fSz ch) re := hbR_fr _ _ _ _ _ _ (fun i a b => ⟨(f2.2.2 i (by omega)).1.trans (f1.2.2 i (by omega)).1, (f2.2.2 i (by omega)).2.trans (f1.2.2 i (by omega)).2⟩) q4
    obtain ⟨s3, e3, f3, g3, r3⟩ := i2 s2 (k + 1 + fSz ch) (r + 1) pl hp bp h2 fr (by omega) (by omega) q4' (fun _ _ => trivial) (fun _ _ _ _ _ _ => trivial) (fun i a b c => by rw [g2, g1]; exact hZ i (by omega) (by omega) c)
    refine ⟨s3, by rw [e1, e2, e3, e, show k + 1 + fSz ch + fSz re = k + (1 + fSz ch + fSz re) by omega], (f1.tr f2 (k := k + 1) (k' := k + 1 + fSz ch) (by omega) (by omega) (by omega) (by omega)).tr f3 (by omega) (by omega) (by omega) (by omega), by rw [g3, g2, g1], ?_, ?_, ?_, r3⟩
    · rw [g3, g2, g1]; exact q1
    · rw [(f3.2.2 k (by omega)).1, (f2.2.2 k (by omega)).1, (f1.2.2 k (by omega)).1]; exact q2
    · exact hb2_fr _ _ _ _ _ _ (fun i i0 i9 => ⟨(f3.2.2 i (by omega)).1, (f3.2.2 i (by omega)).2⟩) r2
end TX98
