/-! ===== printing: children's tokens, in the reference's words ===== -/
def bB (pk c i : Int) (l : tLb) (ch : tF) : Int := if tB l < tWn pk c i ∨ pk = 42 ∧ i = 0 ∧ tCa (l, ch) = true then 2 else 0
theorem bB_0 (pk c i : Int) (l : tLb) (ch : tF) : 0 ≤ bB pk c i l ch := by
  unfold bB
  split <;> omega
theorem fWt_in (pk c i : Int) (x : Nat) (l : tLb) (u : Unit) (ch re : tF) : fWt pk c i (.inner x l u ch re) = tWt (l, ch) + bB pk c i l ch + fWt pk c (i + 1) re := rfl
theorem fWt_lf (pk c i : Int) : fWt pk c i .leaf = 0 := rfl
theorem orW {w : Int} (h0 : 0 ≤ w) (h1 : w < 16) (ni : Bool) : cm_or w (if ni = true then 256 else 0) = asW w ni false := by
  obtain ⟨w', rfl⟩ := Int.eq_ofNat_of_zero_le h0
  exact (asW_f w' (by omega) ni false).2.2.2.2.2
theorem fK_cons {f : tF} {a : Int} {m : List Int} (h : fK f = a :: m) : ∃ x l u c r, f = .inner x l u c r ∧ l.1 = a ∧ fK r = m := by
  cases f with
  | leaf => cases h
  | inner x l u c r =>
    have e : fK (.inner x l u c r) = l.1 :: fK r := rfl
    rw [e] at h
    obtain ⟨e1, e2⟩ := List.cons.inj h
    exact ⟨x, l, u, c, r, rfl, e1, e2⟩
theorem tWn_15 (k c i : Int) : tWn k c i ≤ 15 := by
  have := stC_b c
  unfold tWn
  repeat' split
  all_goals omega
theorem tWn_nn (k c i : Int) : 0 ≤ tWn k c i := by
  have := stC_b c
  unfold tWn
  repeat' split
  all_goals omega
theorem sb_ch {l : tLb} {x : Nat} {l1 : tLb} {u : Unit} {c1 r1 : tF} (h : isSb l.1) (hs : sbN l (.inner x l1 u c1 r1) = true) : sbN l1 c1 = true ∧ 1 ≤ slF l1 c1 := by
  have a : sbN l1 c1 = true := by
    unfold sbN at hs
    rw [if_neg (by omega), if_pos h] at hs
    have e : sbF l (.inner x l1 u c1 r1) = if br1 l 0 l1 c1 false = true then false else if l1.1 = 37 ∨ l1.1 = 39 then true else if isSb l1.1 then sbF l1 c1 else false := rfl
    rw [e] at hs
    split at hs
    · cases hs
    · exact hs
  refine ⟨a, ?_⟩
  unfold slF
  rw [if_pos a]
  split
  · decide
  · split <;> decide
/-- no brackets about what is no expression -/
theorem nbr {pl : tLb} {r : Int} {l : tLb} {ch : tF} {hd : Bool} (hk : l.1 < 30 ∨ l.1 = 38) (p5 : pl.1 ≠ 5) : br1 pl r l ch hd = false ∧ brF pl r l ch hd = false := by
  have e : br1 pl r l ch hd = false := by
    unfold br1
    rw [decide_eq_false]
    have t := tWn_15 pl.1 (lbC pl) r
    have b : tB l = 15 := by
      unfold tB
      rw [if_neg (by omega), if_neg (by omega), if_neg (by omega), if_neg (by omega), if_neg (by omega), if_neg (by omega)]
    have c : tCa (l, ch) = false := by
      unfold tCa
      rw [if_neg (show ¬ (l.1 = 40 ∨ l.1 = 41) by omega)]
      exact decide_eq_false (show ¬ l.1 = 43 by omega)
    rintro (z | z | z | z)
    · omega
    · omega
    · rw [c] at z
      exact absurd z.2.2 (by decide)
    · omega
  refine ⟨e, ?_⟩
  unfold brF
  rw [e, decide_eq_false (fun z => p5 z.1)]
  rfl
section TXa8
variable {tx : Int → Int} {n : Int}
theorem VLx {T : tT} {o1 : Option cm_V} {k : Int} {l : tLb} {ch : tF} (v : VL tx n T o1 k l ch) {K : List pE} {pk c i w : Int} {ni fc : Bool} (hw : w = tWn pk c i) (w1 : w < 16) (hf : fc = true → l.1 = 33 ∨ (pk = 42 ∧ i = 0 ∧ tCa (l, ch) = true)) (hr : (K.length : Int) + tWt (l, ch) + bB pk c i l ch ≤ 1000) : PT tx n T o1 ((3, nO T k, asW w ni fc) :: K) (vT tx n l ch ni (vBr l w ni fc)) K := by
  have bt := bt_le (l := l) (ch := ch) (ni := ni) (fc := fc) hw hf
  have e : bB pk c i l ch = (if tB l < tWn pk c i ∨ pk = 42 ∧ i = 0 ∧ tCa (l, ch) = true then 2 else 0) := rfl
  exact v K w ni fc (by rw [hw]; exact tWn_nn ..) w1 (by omega)
theorem PT_tk (ht : tOk tx n) {T : tT} {o1 : Option cm_V} {K : List pE} {k c : Int} {l : tLb} (k0 : 0 ≤ k) (k1 : k < tSz T) (hl : nLb (nT T k) = l) (hn : 0 < lbN l) (h38 : l.1 ≠ 33 ∧ l.1 ≠ 35 ∧ l.1 ≠ 38) (hK : K.length < 1000) : PT tx n T o1 ((8, nO T k, c) :: K) (xTk tx n l false) K := by
  have := PT_8 (o1 := o1) (c := c) hK (QM_tok (b := false) ht k0 k1 (by rw [hl]; exact hn) (by rw [hl]; exact h38.2.2) (by rw [hl]; exact (decide_eq_false (by omega)).symm))
  rw [hl] at this
  exact this
theorem prF_v {pl : tLb} {r : Int} {hp bp : Bool} {x : Nat} {l : tLb} {u : Unit} {ch re : tF} {ni fc : Bool} {w : Int} (hE : isE l.1) (p5 : pl.1 ≠ 5) (hw : w = tWn pl.1 (lbC pl) r) (hf : fc = true ↔ (pl.1 = 41 ∧ l.1 = 33 ∨ pl.1 = 42 ∧ r = 0 ∧ tCa (l, ch) = true)) (hn : hdF pl.1 r hp bp = ni ∨ ni = false ∧ 13 ≤ w) (gc : gC l.1 (fK ch)) (gf : gF tx n ch) : prF tx n pl r hp bp (.inner x l u ch re) = ahd tx n pl r l.1 ++ (vT tx n l ch ni (vBr l w ni fc) ++ prF tx n pl (r + 1) hp bp re) := by
  rw [prF_in, bd_eq hE p5 hw hf hn gc gf]
theorem nofc {pl l : tLb} {r : Int} {ch : tF} (h : pl.1 ≠ 41 ∨ l.1 ≠ 33) (h' : pl.1 ≠ 42 ∨ r ≠ 0) : false = true ↔ (pl.1 = 41 ∧ l.1 = 33 ∨ pl.1 = 42 ∧ r = 0 ∧ tCa (l, ch) = true) := by
  constructor
  · intro z; cases z
  · rintro (z | z)
    · omega
    · omega
/-- a statement's tokens -/
theorem bdS {pl : tLb} {r : Int} {l : tLb} {ch : tF} {hd : Bool} (hk : l.1 < 30) (p5 : pl.1 ≠ 5) (hd0 : hd = false) (hp : ¬ ((pl.1 = 9 ∨ pl.1 = 10) ∧ r = 0)) : bdT tx n pl.1 r l ch hd (br1 pl r l ch hd) (brF pl r l ch hd) = acB tx n l ch := by
  obtain ⟨a, b⟩ := nbr (pl := pl) (r := r) (l := l) (ch := ch) (hd := hd) (Or.inl hk) p5
  rw [a, b, hd0]
  unfold bdT acB clo
  rw [if_neg (by decide), if_pos hk, List.nil_append]
  have : clS pl.1 r l (fLn ch) = clS 0 0 l (fLn ch) := by
    unfold clS
    rw [if_neg hp, if_neg (show ¬ (((0 : Int) = 9 ∨ (0 : Int) = 10) ∧ (0 : Int) = 0) by omega)]
  rw [this]
theorem bd_21 {pl : tLb} {r : Int} {l : tLb} {ch : tF} {hd : Bool} (hk : l.1 = 21) (p5 : pl.1 ≠ 5) (gc : gC l.1 (fK ch)) : bdT tx n pl.1 r l ch hd (br1 pl r l ch hd) (brF pl r l ch hd) = [] := by
  obtain ⟨a, b⟩ := nbr (pl := pl) (r := r) (l := l) (ch := ch) (hd := hd) (Or.inl (by omega)) p5
  have : ch = .leaf := fK_nil ((gC_hd gc).2.2.2.2.2 hk)
  rw [a, b, this]
  unfold bdT clo
  rw [if_neg (by decide), if_pos (by omega)]
  have e1 : opn tx n l (fK0 .leaf) = [] := by simp [opn, opS, opH, hk]
  have e2 : clS pl.1 r l (fLn .leaf) = [] := by simp [clS, hk]
  rw [e1, e2]
  rfl
theorem ac_pr {pl : tLb} (p5 : pl.1 = 0 ∨ pl.1 = 1 ∨ pl.1 = 23 ∨ pl.1 = 15) : ∀ (f : tF) (r : Int) (bp : Bool), (pl.1 = 15 → 1 < r) → (∀ x ∈ fK f, isS x ∨ x = 20) → prF tx n pl r false bp f = acT tx n f := by
  intro f
  induction f with
  | leaf => intro r bp _ _; rfl
  | inner x l u ch re i1 i2 =>
    intro r bp hr hk
    have h30 : l.1 < 30 := by
      have := hk l.1 (List.mem_cons_self ..)
      unfold isS at this
      omega
    have hd : hdF pl.1 r false bp = false := by
      unfold hdF
      rw [if_neg (by omega), if_pos (Or.inl rfl)]
    have a : ahd tx n pl r l.1 = [] := by
      rcases p5 with e | e | e | e
      · simp [ahd, ahH, e]
      · simp [ahd, ahH, e]
      · simp [ahd, ahH, e]
      · have := hr e
        have q : ¬ r = 1 := by omega
        simp [ahd, e, q]
    rw [prF_in, bdS h30 (by omega) hd (by omega), a, i2 (r + 1) bp (fun e => by have := hr e; omega) (fun y hy => hk y (List.mem_cons_of_mem _ hy))]
    rfl
theorem ho_pr {l : tLb} (e : l.1 = 36) : ∀ (f : tF) (r : Int) (hp bp : Bool), 0 ≤ r → (∀ x ∈ fK f, isE x ∨ x = 21) → gF tx n f → prF tx n l r hp bp f ++ (if nlF f = true then [kTok 1005] else []) = hoT tx n (decide (0 < r)) f := by
  intro f
  induction f with
  | leaf => intro r hp bp _ _ _; rfl
  | inner x l1 u ch re i1 i2 =>
    intro r hp bp h0 hk hF
    obtain ⟨f1, f2, f3, f4, f5⟩ := hF
    have hd : hdF l.1 r hp bp = false := by
      unfold hdF
      rw [if_neg (by omega), if_pos (Or.inl e)]
      split <;> rfl
    have a : ahd tx n l r l1.1 = if decide (0 < r) = true then [kTok 1005] else [] := by
      simp [ahd, e]
    have ih := i2 (r + 1) hp bp (by omega) (fun y hy => hk y (List.mem_cons_of_mem _ hy)) f5
    rw [decide_eq_true (show 0 < r + 1 by omega)] at ih
    have et : hoT tx n (decide (0 < r)) (.inner x l1 u ch re) = (if decide (0 < r) = true then [kTok 1005] else []) ++ (hoB tx n l1 ch re ++ hoT tx n true re) := rfl
    rw [et, ← ih]
    have key : prF tx n l r hp bp (.inner x l1 u ch re) = (if decide (0 < r) = true then [kTok 1005] else []) ++ ((if l1.1 = 21 then [] else vT tx n l1 ch false (vBr l1 1 false false)) ++ prF tx n l (r + 1) hp bp re) := by
      by_cases h21 : l1.1 = 21
      · rw [prF_in, bd_21 h21 (by omega) f2, a, if_pos h21]
      · have lE := (hk l1.1 (List.mem_cons_self ..)).resolve_right h21
        rw [prF_v (ni := false) (fc := false) (w := 1) lE (by omega) (by simp [tWn, e]) (nofc (by omega) (by omega)) (Or.inl hd) f2 f4, a, if_neg h21]
    rw [key]
    unfold hoB
    cases re with
    | leaf =>
      have nl : nlF (.inner x l1 u ch .leaf) = decide (l1.1 = 21) := rfl
      rw [nl]
      by_cases h21 : l1.1 = 21
      · simp [h21, prF, nlF, fLf]
      · simp [h21, prF, nlF]
    | inner x2 l2 u2 ch2 re2 =>
      have nl : nlF (.inner x l1 u ch (.inner x2 l2 u2 ch2 re2)) = nlF (.inner x2 l2 u2 ch2 re2) := rfl
      rw [nl]
      have lf : fLf (.inner x2 l2 u2 ch2 re2) = false := rfl
      rw [lf, if_neg (show ¬ false = true by decide)]
      simp only [List.append_assoc]
theorem pa_pr {l : tLb} (e : l.1 = 37) : ∀ (f : tF) (r : Int) (hp bp : Bool), 0 ≤ r → (∀ x ∈ fK f, x = 38) → gF tx n f → prF tx n l r hp bp f = paT tx n (decide (0 < r)) f := by
  intro f
  induction f with
  | leaf => intro r hp bp _ _ _; rfl
  | inner x l1 u ch re i1 i2 =>
    intro r hp bp h0 hk hF
    obtain ⟨f1, f2, f3, f4, f5⟩ := hF
    have h38 : l1.1 = 38 := hk l1.1 (List.mem_cons_self ..)
    have hd : hdF l.1 r hp bp = false := by
      unfold hdF
      rw [if_neg (by omega), if_pos (Or.inr (Or.inl e))]
      split <;> rfl
    have a : ahd tx n l r l1.1 = if decide (0 < r) = true then [kTok 1005] else [] := by
      simp [ahd, e]
    have ih := i2 (r + 1) hp bp (by omega) (fun y hy => hk y (List.mem_cons_of_mem _ hy)) f5
    rw [decide_eq_true (show 0 < r + 1 by omega)] at ih
    have f2' : ∃ a, fK ch = [a] ∧ isE a := by
      unfold gC at f2
      rw [h38] at f2
      exact f2
    obtain ⟨a', ea, iE⟩ := f2'
    obtain ⟨x1, l2, u1, c2, r2, rfl, e2, e3⟩ := fK_cons ea
    have := fK_nil e3
    subst this
    obtain ⟨g1, g2, g3, g4, g5⟩ := f4
    obtain ⟨n1, n2⟩ := nbr (pl := l) (r := r) (l := l1) (ch := .inner x1 l2 u1 c2 .leaf) (hd := false) (Or.inr h38) (by omega)
    have hd2 : hdF l1.1 0 false false = false := by
      unfold hdF
      rw [if_neg (by omega), if_pos (Or.inl rfl)]
    rw [prF_in, a, hd, n1, n2, ih]
    unfold bdT clo
    rw [if_neg (show ¬ false = true by decide), if_neg (show ¬ l1.1 < 30 by omega), if_neg (show ¬ false = true by decide), prF_v (ni := false) (fc := false) (w := 1) (by rw [e2]; exact iE) (by omega) (by simp [tWn, h38]) (nofc (by omega) (by omega)) (Or.inl hd2) g2 g4]
    have o1 : opn tx n l1 (fK0 (.inner x1 l2 u1 c2 .leaf)) = xTk tx n l1 false ++ [kTok 1012] := by simp [opn, opE, h38]
    have o2 : ahd tx n l1 0 l2.1 = [] := by simp [ahd, ahH, h38]
    have o3 : clE tx n l1 (fLn (.inner x1 l2 u1 c2 .leaf)) (nlF (.inner x1 l2 u1 c2 .leaf)) = [] := by simp [clE, h38]
    rw [o1, o2, o3]
    show _ = (if decide (0 < r) = true then [kTok 1005] else []) ++ (xTk tx n l1 false ++ (kTok 1012 :: (vT tx n l2 c2 false (vBr l2 1 false false) ++ paT tx n true re)))
    simp only [List.append_assoc, List.nil_append, prF, List.append_nil, List.cons_append]
/-- a function's code -/
def fbT (tx : Int → Int) (n : Int) : tF → List tok
  | .leaf => []
  | .inner _ l _ ch re => if l.1 = 23 then kTok 1010 :: kTok 1011 :: (acT tx n ch ++ [kTok 1007]) else fbT tx n re
theorem fn_pr {l : tLb} (e : l.1 = 20 ∨ l.1 = 39) : ∀ (f : tF) (r : Int) (hp bp : Bool), 0 ≤ r → (l.1 = 20 → hp = false) → (∃ m, fK f = m ++ [23] ∧ ∀ x ∈ m, x = 22) → gF tx n f → prF tx n l r hp bp f = pmT tx n (decide (0 < r)) f ++ fbT tx n f := by
  intro f
  induction f with
  | leaf => intro r hp bp _ _ _ _; rfl
  | inner x l1 u ch re i1 i2 =>
    intro r hp bp h0 hp0 hk hF
    obtain ⟨f1, f2, f3, f4, f5⟩ := hF
    have hd : hdF l.1 r hp bp = false := by
      unfold hdF
      rw [if_neg (by omega)]
      rcases e with e | e
      · rw [if_pos (Or.inl (hp0 e))]
      · rw [if_pos (show l.1 = 36 ∨ l.1 = 37 ∨ l.1 = 39 by omega)]
        split <;> rfl
    obtain ⟨m, em, hm⟩ := hk
    have ek : fK (.inner x l1 u ch re) = l1.1 :: fK re := rfl
    rw [ek] at em
    have h30 : l1.1 = 22 ∨ l1.1 = 23 := by
      cases m with
      | nil =>
        obtain ⟨e1, -⟩ := List.cons.inj em
        exact Or.inr e1
      | cons y m =>
        obtain ⟨e1, -⟩ := List.cons.inj em
        exact Or.inl (e1.trans (hm y (List.mem_cons_self ..)))
    rw [prF_in, bdS (by omega) (by omega) hd (by omega)]
    by_cases h23 : l1.1 = 23
    · have el : fK re = [] := by
        cases m with
        | nil => exact (List.cons.inj em).2
        | cons y m =>
          exfalso
          obtain ⟨e1, -⟩ := List.cons.inj em
          have := hm y (List.mem_cons_self ..)
          omega
      have := fK_nil el
      subst this
      have a : ahd tx n l r l1.1 = [kTok 1010] := by
        rcases e with e | e <;> simp [ahd, e, h23]
      have k23 : ∀ y ∈ fK ch, isS y ∨ y = 20 := by
        rw [h23] at f2
        exact f2
      rw [a, show pmT tx n (decide (0 < r)) (.inner x l1 u ch .leaf) = [] from if_pos h23, show fbT tx n (.inner x l1 u ch .leaf) = kTok 1010 :: kTok 1011 :: (acT tx n ch ++ [kTok 1007]) from if_pos h23]
      unfold acB
      rw [ac_pr (Or.inr (Or.inr (Or.inl h23))) ch 0 false (by omega) k23]
      have o1 : opn tx n l1 (fK0 ch) = [kTok 1011] := by simp [opn, opS, h23]
      have o2 : clS 0 0 l1 (fLn ch) = [kTok 1007] := by simp [clS, h23]
      rw [o1, o2]
      simp [prF]
    · have h22 : l1.1 = 22 := by omega
      have cl : ch = .leaf := fK_nil (by
        unfold gC at f2
        rw [h22] at f2
        exact f2)
      subst cl
      obtain ⟨m', em', hm'⟩ : ∃ m, fK re = m ++ [23] ∧ ∀ x ∈ m, x = 22 := by
        cases m with
        | nil => exact absurd (List.cons.inj em).1 h23
        | cons y m => exact ⟨m, (List.cons.inj em).2, fun z hz => hm z (List.mem_cons_of_mem _ hz)⟩
      have ih := i2 (r + 1) hp bp (by omega) hp0 ⟨m', em', hm'⟩ f5
      rw [decide_eq_true (show 0 < r + 1 by omega)] at ih
      have a : ahd tx n l r l1.1 = if decide (0 < r) = true then [kTok 1005] else [] := by
        rcases e with e | e <;> simp [ahd, e, h22]
      have o1 : acB tx n l1 .leaf = xTk tx n l1 false := by
        have q1 : opn tx n l1 (fK0 .leaf) = xTk tx n l1 false := by simp [opn, opS, h22]
        have q2 : clS 0 0 l1 (fLn .leaf) = [] := by simp [clS, h22]
        unfold acB
        rw [q1, q2]
        simp [prF]
      rw [ih, a, o1, show pmT tx n (decide (0 < r)) (.inner x l1 u .leaf re) = (if decide (0 < r) = true then [kTok 1005] else []) ++ (xTk tx n l1 false ++ pmT tx n true re) from if_neg h23, show fbT tx n (.inner x l1 u .leaf re) = fbT tx n re from if_neg h23]
      simp only [List.append_assoc]
/-- .. where it stands -/
theorem fn_last {T : tT} {o1 : Option cm_V} {pk cc : Int} : ∀ (f : tF) (k i : Int), 0 ≤ k → k + fSz f ≤ tSz T → fAt T k f → SVd tx n T o1 k f → gF tx n f → (∃ m, fK f = m ++ [23] ∧ ∀ x ∈ m, x = 22) → ∃ x l u c, l.1 = 23 ∧ fAt T (k + fLn f - 1) (.inner x l u c .leaf) ∧ SVd tx n T o1 (k + fLn f) c ∧ gF tx n c ∧ (∀ y ∈ fK c, isS y ∨ y = 20) ∧ fbT tx n f = kTok 1010 :: kTok 1011 :: (acT tx n c ++ [kTok 1007]) ∧ fWt 23 (lbC l) 0 c + 3 ≤ fWt pk cc i f ∧ fLn f + fSz c = fSz f := by
  intro f
  induction f with
  | leaf =>
    intro k i _ _ _ _ _ h
    obtain ⟨m, em, -⟩ := h
    exfalso
    cases m <;> cases em
  | inner x l u ch re i1 i2 =>
    intro k i k0 k9 hA hS hF hk
    have e : fSz (.inner x l u ch re) = 1 + fSz ch + fSz re := rfl
    have c0 := fSz_0 ch
    have r0 := fSz_0 re
    have k1 : k < tSz T := by omega
    have hA' := hA
    obtain ⟨hl, hch, hre⟩ := fAt_in hA
    obtain ⟨f1, f2, f3, f4, f5⟩ := hF
    obtain ⟨s1, s2, s3, s4⟩ := hS
    have fr := fAt_re (T := T) k0 k1
    rw [hch, hre] at fr
    have fl : fLn (.inner x l u ch re) = 1 + fLn re := rfl
    obtain ⟨m, em, hm⟩ := hk
    have ek : fK (.inner x l u ch re) = l.1 :: fK re := rfl
    rw [ek] at em
    have f0 := fWt_0 re pk cc (i + 1) f5
    have b0 := bB_0 pk cc i l ch
    have w0 := tWt_0 f1 f2 f4
    rw [fWt_in]
    by_cases h23 : l.1 = 23
    · have el : fK re = [] := by
        cases m with
        | nil => exact (List.cons.inj em).2
        | cons y m =>
          exfalso
          obtain ⟨e1, -⟩ := List.cons.inj em
          have := hm y (List.mem_cons_self ..)
          omega
      have := fK_nil el
      subst this
      have fl0 : fLn (.leaf : tF) = 0 := rfl
      have fz0 : fSz (.leaf : tF) = 0 := rfl
      refine ⟨x, l, u, ch, h23, ?_, ?_, f4, ?_, if_pos h23, ?_, by omega⟩
      · rw [fl, fl0, show k + (1 + 0) - 1 = k by omega]
        exact hA'
      · rw [fl, fl0]
        exact s3
      · rw [h23] at f2
        exact f2
      · have wt : tWt (l, ch) = tOw l (fLn ch) + fWt l.1 (lbC l) 0 ch := rfl
        have ow : tOw l (fLn ch) = 3 := by simp [tOw, h23]
        rw [wt, ow, h23]
        omega
    · have h22 : l.1 = 22 ∧ ∃ m, fK re = m ++ [23] ∧ ∀ x ∈ m, x = 22 := by
        cases m with
        | nil => exact absurd (List.cons.inj em).1 h23
        | cons y m => exact ⟨(List.cons.inj em).1.trans (hm y (List.mem_cons_self ..)), m, (List.cons.inj em).2, fun z hz => hm z (List.mem_cons_of_mem _ hz)⟩
      have cl : ch = .leaf := fK_nil (by
        unfold gC at f2
        rw [h22.1] at f2
        exact f2)
      subst cl
      have fz0 : fSz (.leaf : tF) = 0 := rfl
      obtain ⟨x', l', u', c', q1, q2, q3, q4, q5, q6, q7, q8⟩ := i2 (k + 1 + fSz .leaf) (i + 1) (by omega) (by omega) fr s4 f5 h22.2
      refine ⟨x', l', u', c', q1, ?_, ?_, q4, q5, (if_neg h23).trans q6, by omega, by omega⟩
      · rw [fl, show k + (1 + fLn re) - 1 = k + 1 + fSz .leaf + fLn re - 1 by omega]
        exact q2
      · rw [fl, show k + (1 + fLn re) = k + 1 + fSz .leaf + fLn re by omega]
        exact q3
end TXa8
