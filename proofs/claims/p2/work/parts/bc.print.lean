/-! ===== the class's printer: the walk ===== -/
def rootL : tLb := (-1, -1, 0, 0, false)
def nlF : tF → Bool
  | .leaf => false
  | .inner _ l _ _ re => match re with
    | .leaf => decide (l.1 = 21)
    | .inner x l2 u ch2 re2 => nlF (.inner x l2 u ch2 re2)
def clo (tx : Int → Int) (n : Int) (pk r : Int) (l : tLb) (ch : tF) (br : Bool) : List tok := if l.1 < 30 then clS pk r l (fLn ch) else clE tx n l (fLn ch) (nlF ch) ++ (if br = true then [kTok 1010] else [])
/-- what is printed of a forest -/
def prF (tx : Int → Int) (n : Int) : tLb → Int → Bool → Bool → tF → List tok
  | _, _, _, _, .leaf => []
  | pl, r, hp, bp, .inner _ l _ ch re => (ahd tx n pl r l.1 ++ ((if brF pl r l ch (hdF pl.1 r hp bp) = true then [kTok 1009] else []) ++ opn tx n l (fK0 ch))) ++ (prF tx n l 0 (hdF pl.1 r hp bp) (br1 pl r l ch (hdF pl.1 r hp bp)) ch ++ (clo tx n pl.1 r l ch (brF pl r l ch (hdF pl.1 r hp bp)) ++ prF tx n pl (r + 1) hp bp re))
theorem gC_hd {k : Int} {m : List Int} (h : gC k m) : (k = 2 → ∀ c ∈ m, c = 3) ∧ (k = 3 → ∀ c ∈ m, isE c) ∧ (40 ≤ k ∧ k ≤ 49 → ∀ c ∈ m, isE c) ∧ (k = 9 ∨ k = 10 → ∀ a r, m = a :: r → isE a ∨ a = 2 ∨ a = 21) ∧ (30 ≤ k ∧ k ≤ 35 → m = []) ∧ (k = 21 → m = []) := by
  refine ⟨?_, ?_, ?_, ?_, ?_, ?_⟩
  · rintro rfl
    exact h.2
  · rintro rfl c hc
    have h' : m = [] ∨ ∃ a, m = [a] ∧ isE a := h
    rcases h' with rfl | ⟨a, rfl, ha⟩
    · cases hc
    · have : c = a := by simpa using hc
      rw [this]; exact ha
  · intro hk c hc
    have one : (∃ a, m = [a] ∧ isE a) → isE c := fun ⟨a, e, ha⟩ => by
      subst e
      have : c = a := by simpa using hc
      rw [this]; exact ha
    have two : (∃ a b, m = [a, b] ∧ isE a ∧ isE b) → isE c := fun ⟨a, b, e, ha, hb⟩ => by
      subst e
      have : c = a ∨ c = b := by simpa using hc
      rcases this with rfl | rfl
      · exact ha
      · exact hb
    have lst : (∃ a r, m = a :: r ∧ isE a ∧ ∀ x ∈ r, isE x) → isE c := fun ⟨a, r, e, ha, hb⟩ => by
      subst e
      rcases List.mem_cons.mp hc with rfl | hc
      · exact ha
      · exact hb c hc
    have ks : k = 40 ∨ k = 41 ∨ k = 42 ∨ k = 43 ∨ k = 44 ∨ k = 45 ∨ k = 46 ∨ k = 47 ∨ k = 48 ∨ k = 49 := by omega
    rcases ks with rfl | rfl | rfl | rfl | rfl | rfl | rfl | rfl | rfl | rfl
    · exact two h
    · exact one h
    · exact lst h
    · exact lst h
    · exact one h
    · exact one h
    · exact two h
    · obtain ⟨a, b, d, e, ha, hb, hd⟩ := (h : ∃ a b c, m = [a, b, c] ∧ isE a ∧ isE b ∧ isE c)
      subst e
      have : c = a ∨ c = b ∨ c = d := by simpa using hc
      rcases this with rfl | rfl | rfl
      · exact ha
      · exact hb
      · exact hd
    · exact two h
    · exact (h : 2 ≤ m.length ∧ ∀ x ∈ m, isE x).2 c hc
  · rintro (rfl | rfl) a r e
    · obtain ⟨a', b, c, d, e', ha, -⟩ := (h : ∃ a b c d, m = [a, b, c, d] ∧ (isE a ∨ a = 2 ∨ a = 21) ∧ (isE b ∨ b = 21) ∧ (isE c ∨ c = 21) ∧ isS d)
      rw [e'] at e
      have := (List.cons.inj e).1
      subst this
      exact ha
    · obtain ⟨a', b, c, e', ha, -⟩ := (h : ∃ a b c, m = [a, b, c] ∧ (isE a ∨ a = 2) ∧ isE b ∧ isS c)
      rw [e'] at e
      have := (List.cons.inj e).1
      subst this
      exact ha.imp id Or.inl
  · intro hk
    have ks : k = 30 ∨ k = 31 ∨ k = 32 ∨ k = 33 ∨ k = 34 ∨ k = 35 := by omega
    rcases ks with rfl | rfl | rfl | rfl | rfl | rfl <;> exact h
  · rintro rfl
    exact h
/-- what stands in a heading -/
def hdK (k : Int) : Prop := isE k ∨ k = 2 ∨ k = 3
section TX99
variable {tx : Int → Int} {n : Int}
theorem hdF_k {pl : tLb} {r : Int} {hp bp : Bool} {m : List Int} {a : Int} {w : List Int} (hg : gC pl.1 m) (hw : ∃ v, m = v ++ (a :: w) ∧ (v.length : Int) = r) (hh : hp = true → hdK pl.1) (h : hdF pl.1 r hp bp = true) : isE a ∨ a = 2 ∨ a = 3 ∨ a = 21 := by
  obtain ⟨v, hv, hr⟩ := hw
  obtain ⟨g2, g3, g4, g9, g30, g21⟩ := gC_hd hg
  have am : a ∈ m := by rw [hv]; exact List.mem_append_right _ (List.mem_cons_self ..)
  unfold hdF at h
  by_cases h9 : pl.1 = 9 ∨ pl.1 = 10
  · rw [if_pos h9, decide_eq_true_iff] at h
    have : v = [] := by
      cases v with
      | nil => rfl
      | cons x v => rw [List.length_cons] at hr; omega
    subst this
    have := g9 h9 a w hv
    rcases this with q | q | q
    · exact Or.inl q
    · exact Or.inr (Or.inl q)
    · exact Or.inr (Or.inr (Or.inr q))
  · rw [if_neg h9] at h
    by_cases hb : hp = false ∨ bp = true
    · rw [if_pos hb] at h
      cases h
    · rw [if_neg hb] at h
      have hpt : hp = true := by
        cases hp with
        | true => rfl
        | false => exact absurd (Or.inl rfl) hb
      rcases hh hpt with q | q | q
      · by_cases h36 : pl.1 = 36 ∨ pl.1 = 37 ∨ pl.1 = 39
        · rw [if_pos h36] at h
          cases h
        · unfold isE at q
          by_cases h40 : 40 ≤ pl.1
          · exact Or.inl (g4 (by omega) a am)
          · have := g30 (by omega)
            rw [this] at am
            cases am
      · exact Or.inr (Or.inr (Or.inl (g2 q a am)))
      · exact Or.inl (g3 q a am)
/-- no statement is in a heading -/
theorem hd5 {B H : Int → Int} {T : tT} : ∀ (f : tF) (pl : tLb) (r : Int) (hp bp : Bool) (k : Int) (m : List Int), hbOk B H pl r hp bp k f → gF tx n f → fAt T k f → 0 ≤ k → k + fSz f ≤ tSz T → gC pl.1 m → (∃ v, m = v ++ fK f ∧ (v.length : Int) = r) → (hp = true → hdK pl.1) → ∀ i, k ≤ i → i < k + fSz f → (nLb (nT T i)).1 = 5 → H i = 0 := by
  intro f
  induction f with
  | leaf =>
    intro pl r hp bp k m _ _ _ _ _ _ _ _ i a b
    have z0 : fSz (.leaf : tF) = 0 := rfl
    omega
  | inner x l u ch re i1 i2 =>
    intro pl r hp bp k m hb hF hA k0 k9 hg hw hh i a b c
    have e : fSz (.inner x l u ch re) = 1 + fSz ch + fSz re := rfl
    have c0 := fSz_0 ch
    have r0 := fSz_0 re
    obtain ⟨hl, hch, hre⟩ := hA
    obtain ⟨b1, b2, b3, b4⟩ := hb
    obtain ⟨f1, f2, f3, f4, f5⟩ := hF
    have ek : fK (.inner x l u ch re) = l.1 :: fK re := rfl
    rw [ek] at hw
    have k1 : k < tSz T := by omega
    have kind : hdF pl.1 r hp bp = true → isE l.1 ∨ l.1 = 2 ∨ l.1 = 3 ∨ l.1 = 21 := fun q => hdF_k hg hw hh q
    by_cases hi : i = k
    · subst hi
      rw [hl] at c
      cases hd : hdF pl.1 r hp bp with
      | false => rw [b1, hd]; rfl
      | true =>
        have := kind hd
        unfold isE at this
        omega
    · by_cases hc : i < k + 1 + fSz ch
      · have fc := fAt_ch (T := T) k0 k1
        rw [hch] at fc
        refine i1 l 0 _ _ (k + 1) (fK ch) b3 f4 fc (by omega) (by omega) f2 ⟨[], rfl, rfl⟩ (fun q => ?_) i (by omega) (by omega) c
        rcases kind q with z | z | z | z
        · exact Or.inl z
        · exact Or.inr (Or.inl z)
        · exact Or.inr (Or.inr z)
        · exfalso
          have : ch = .leaf := fK_nil ((gC_hd f2).2.2.2.2.2 z)
          have : fSz ch = 0 := by rw [this]; rfl
          omega
      · have fr := fAt_re (T := T) k0 k1
        rw [hch, hre] at fr
        obtain ⟨v, hv, hr⟩ := hw
        exact i2 pl (r + 1) hp bp (k + 1 + fSz ch) m b4 f5 fr (by omega) (by omega) hg ⟨v ++ [l.1], by rw [hv, List.append_assoc]; rfl, by rw [List.length_append]; simp; omega⟩ hh i (by omega) (by omega) c
/-- the last node of a part -/
theorem nl_eq {T : tT} (hF0 : gF tx n (fo [T])) {p : Int} : ∀ (f : tF) (k : Int), f ≠ .leaf → fAt T k f → 0 ≤ k → k + fSz f ≤ tSz T → nPa (nT T k) = p → p < k → gF tx n f → ((nLb (nT T (k + fSz f - 1))).1 = 21 ∧ nPa (nT T (k + fSz f - 1)) = p ↔ nlF f = true) := by
  intro f
  induction f with
  | leaf => intro k hne; exact absurd rfl hne
  | inner x l u ch re i1 i2 =>
    intro k _ hA k0 k9 hp pk hF
    have e : fSz (.inner x l u ch re) = 1 + fSz ch + fSz re := rfl
    have c0 := fSz_0 ch
    have r0 := fSz_0 re
    obtain ⟨hl, hch, hre⟩ := hA
    obtain ⟨f1, f2, f3, f4, f5⟩ := hF
    have k1 : k < tSz T := by omega
    cases hr : re with
    | leaf =>
      have z0 : fSz re = 0 := by rw [hr]; rfl
      have en : nlF (.inner x l u ch .leaf) = decide (l.1 = 21) := rfl
      rw [en, decide_eq_true_iff, ← hr, e, z0, show k + (1 + fSz ch + 0) - 1 = k + fSz ch by omega]
      by_cases hc : ch = .leaf
      · have zc : fSz ch = 0 := by rw [hc]; rfl
        rw [zc, Int.add_zero, hl, hp]
        exact ⟨fun q => q.1, fun q => ⟨q, rfl⟩⟩
      · have zc := fSz_ne hc
        have := nT_in (T := T) (i := k) (j := k + fSz ch) k0 k1 (by omega) (by rw [hch]; omega)
        constructor
        · intro q; omega
        · intro q
          exfalso
          exact hc (fK_nil ((gC_hd f2).2.2.2.2.2 q))
    | inner x2 l2 u2 ch2 re2 =>
      have en : nlF (.inner x l u ch (.inner x2 l2 u2 ch2 re2)) = nlF (.inner x2 l2 u2 ch2 re2) := rfl
      rw [en, ← hr]
      have fr := fAt_re (T := T) k0 k1
      rw [hch, hre] at fr
      have hne : re ≠ .leaf := by rw [hr]; intro z; cases z
      have n2 := nT_2 k0 k1 (by rw [hre]; exact hne)
      rw [hch] at n2
      have := i2 (k + 1 + fSz ch) hne fr (by omega) (by omega) (n2.2.1.trans hp) (by omega) f5
      rw [e, show k + (1 + fSz ch + fSz re) - 1 = k + 1 + fSz ch + fSz re - 1 by omega]
      exact this
/-! closings -/
def clT (tx : Int → Int) (n : Int) (T : tT) (B : Int → Int) (w j : Int) : List tok := if (nLb (nT T j)).1 < 30 then clS (pL T j).1 (nRk (nT T j)) (nLb (nT T j)) (fLn (nCh (nT T j))) else clE tx n (nLb (nT T j)) (fLn (nCh (nT T j))) (decide ((nLb (nT T w)).1 = 21 ∧ nPa (nT T w) = j)) ++ (if B j ≠ 0 then [kTok 1010] else [])
def clP (tx : Int → Int) (n : Int) (T : tT) (B : Int → Int) (p w : Int) : Nat → Int → List tok
  | 0, _ => []
  | m + 1, j => if p < j then clT tx n T B w j ++ clP tx n T B p w m (nPa (nT T j)) else []
theorem cl_153 (ht : tOk tx n) {t : Nat} {T : tT} {p w : Int} (p0 : -1 ≤ p) (w0 : 0 ≤ w) (w1 : w < tSz T) {B : Int → Int} : ∀ (m : Nat) (j c : Int) (s : cm_S) (st : oS), cP tx n s t T → s.2 39 = B → j < m → -1 ≤ j → j < tSz T → 0 ≤ c → c + j < 511 → PM s (cm_lp cm_sem cm_k153 5 [some (.inr (.inl 37)), some (.inl p), some (.inl w), some (.inl j), some (.inl c)] [] s) st (clP tx n T B p w m j) := by
  intro m
  induction m with
  | zero =>
    intro j c s st h hB jm j0 j1 c0 cj
    rw [cE_153_5, cF_153_5, if_pos (by omega), if_neg (by omega)]
    exact PM_ret
  | succ m ih =>
    intro j c s st h hB jm j0 j1 c0 cj
    rw [cE_153_5, cF_153_5, if_pos (by omega)]
    unfold clP
    refine PM_ite (fun hp => ?_) (fun _ => PM_ret)
    have pp := (nT_p (T := T) (i := j) (by omega) j1).2
    simp only [h.tn, if_pos h.1.cl, h.1.kd (i := j) (by omega) j1, cm_bi_i]
    rw [cm_w_id (by omega) (by omega)]
    have go : ∀ {s1 : cm_S} {st1 : oS}, pF s s1 → PM s1 (if cm_cl ((s1.1 3704).toNat) = 6 then cm_bi (cm_sem 117 [.inr (.inl ((s1.1 3704).toNat)), .inl j] s1) fun z3 s3 => cm_lp cm_sem cm_k153 5 [some (.inr (.inl 37)), some (.inl p), some (.inl w), some (.inl z3), some (.inl (c + 1))] [] s3 else none) st1 (clP tx n T B p w m (nPa (nT T j))) := fun {s1 st1} f1 => by
      have h1 := h.fr f1
      simp only [h1.tn, if_pos h1.1.cl, h1.1.pa (i := j) (by omega) j1, cm_bi_i]
      exact ih _ _ _ _ h1 (by rw [f1.1 39 (by decide)]; exact hB) (by omega) (by omega) (by omega) (by omega) (by omega)
    unfold clT
    by_cases h30 : (nLb (nT T j)).1 < 30
    · rw [if_pos h30, if_pos h30]
      exact PM_bv (c_160 h (by omega) j1) fun s1 f1 => go f1
    · rw [if_neg h30, if_neg h30]
      have c154 := c_154 ht h (st := st) (i := j) (by omega) j1 w0 w1
      rw [hB] at c154
      exact PM_bv c154 fun s1 f1 => go f1
theorem c_153 (ht : tOk tx n) {s : cm_S} {t : Nat} {T : tT} (h : cP tx n s t T) {p w : Int} (p0 : -1 ≤ p) (w0 : -1 ≤ w) (w1 : w < tSz T) {st : oS} : PM s (cm_sem 153 [.inr (.inl 37), .inl p, .inl w] s) st (clP tx n T (s.2 39) p w 600 w) := by
  have t9 := h.1.2.2.2.1
  rw [cS_153, cF_153_0]
  by_cases hw : 0 ≤ w
  · exact cl_153 ht p0 hw w1 600 w 0 s st h rfl (by omega) (by omega) w1 (by omega) (by omega)
  · have hw2 : ¬ p < w := by omega
    rw [cE_153_5, cF_153_5, if_pos (by decide), if_neg hw2]
    have : clP tx n T (s.2 39) p w 600 w = [] := if_neg hw2
    rw [this]
    exact PM_ret
theorem clP_z {T : tT} {B : Int → Int} {p w j : Int} (m : Nat) (h : ¬ p < j) : clP tx n T B p w m j = [] := by
  cases m with
  | zero => rfl
  | succ m => exact if_neg h
/-- the closings up to p are those up to k, then that of k -/
theorem clP_c {T : tT} {B : Int → Int} {k w : Int} (k0 : 0 ≤ k) (k1 : k < tSz T) : ∀ (m : Nat) (j : Int), k ≤ j → j < k + 1 + fSz (nCh (nT T k)) → j < m → clP tx n T B (nPa (nT T k)) w m j = clP tx n T B k w m j ++ clT tx n T B w k := by
  have pp := (nT_p (T := T) k0 k1)
  intro m
  induction m with
  | zero => intro j a b c; omega
  | succ m ih =>
    intro j a b c
    unfold clP
    rw [if_pos (by omega)]
    by_cases hj : j = k
    · subst hj
      rw [if_neg (by omega), clP_z m (by omega), List.append_nil]
      rfl
    · have hin := nT_in k0 k1 (j := j) (by omega) b
      have pj := (nT_p (T := T) (i := j) (by omega) (by omega)).2
      rw [if_pos (by omega), ih (nPa (nT T j)) hin (by omega) (by omega), List.append_assoc]
end TX99
