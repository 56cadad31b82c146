/-! ===== what is printed is no longer than the tree's weight (2) ===== -/
def hdK2 (l : tLb) (hd : Bool) : Prop := l.1 < 30 → l.1 ≠ 2 → l.1 ≠ 3 → l.1 ≠ 21 → hd = false
def x41 (pl : tLb) (f : tF) : Int := if pl.1 = 41 ∧ fK0 f = 33 then 2 else 0
theorem hdK2_ch {pl : tLb} {r : Int} {hp bp : Bool} {l : tLb} {v w m : List Int} (hg : gC pl.1 m) (hm : m = v ++ l.1 :: w) (hr : (v.length : Int) = r) (hk : hdK2 pl hp) : hdK2 l (hdF pl.1 r hp bp) := by
  intro h30 n2 n3 n21
  have lm : l.1 ∈ m := by rw [hm]; exact List.mem_append_right _ (List.mem_cons_self ..)
  obtain ⟨k1, k2, k3, k4, k5⟩ := gC_kn hg lm
  have h1 := gC_hd hg
  unfold hdF
  by_cases c9 : pl.1 = 9 ∨ pl.1 = 10
  · rw [if_pos c9]
    refine decide_eq_false fun r0 => ?_
    have : v = [] := by
      cases v with
      | nil => rfl
      | cons a v => simp at hr; omega
    rw [this] at hm
    have := h1.2.2.2.1 c9 _ _ hm
    unfold isE at this
    omega
  rw [if_neg c9]
  by_cases c1 : hp = false ∨ bp = true
  · rw [if_pos c1]
  rw [if_neg c1]
  by_cases c36 : pl.1 = 36 ∨ pl.1 = 37 ∨ pl.1 = 39
  · rw [if_pos c36]
  exfalso
  have hp1 : hp ≠ false := fun z => c1 (Or.inl z)
  by_cases p30 : 30 ≤ pl.1
  · have := k2 ⟨p30, by omega, by omega, by omega⟩
    unfold isE at this
    omega
  · by_cases p2 : pl.1 = 2
    · have := k5 p2
      omega
    · by_cases p3 : pl.1 = 3
      · have := k4 p3
        unfold isE at this
        omega
      · by_cases p21 : pl.1 = 21
        · have := h1.2.2.2.2.2 p21
          rw [this] at lm
          cases lm
        · exact hp1 (hk (by omega) p2 p3 p21)
section TXb8
variable {tx : Int → Int} {n : Int}
theorem c1009 (X : List tok) (fr : Bool) : cst fr ([kTok 1009] ++ X) = 1 + cst true X := by
  cases fr <;> rfl
theorem c1010 : cst false [kTok 1010] = 1 := by decide
theorem ahd_sb {pl : tLb} (h : isSb pl.1) (k : Int) : ahd tx n pl 0 k = [] := by
  rcases h with e | e | e | e | e | e | e | e <;> simp [ahd, ahH, e]
theorem opn_sb {l : tLb} (h : isSb l.1) (k : Int) : opn tx n l k = [] := by
  rcases h with e | e | e | e | e | e | e | e <;> simp [opn, opE, e]
theorem gC_sb {l : tLb} {ch : tF} (h : isSb l.1) (g2 : gC l.1 (fK ch)) : ch ≠ .leaf := by
  by_cases q : l.1 = 44 ∨ l.1 = 48
  · exact gC_ne g2 (by omega)
  · exact gC_n2 g2 (by omega)
theorem LB (ht : tOk tx n) : ∀ f : tF, gF tx n f →
    (∀ (pl : tLb) (r : Int) (hp bp : Bool) (m v : List Int), gC pl.1 m → m = v ++ fK f → (v.length : Int) = r → hdK2 pl hp → cst false (prF tx n pl r hp bp f) ≤ aS tx n pl r (fK f) + fWt pl.1 (lbC pl) r f + x41 pl f) ∧
    (∀ (pl : tLb) (bp : Bool), gC pl.1 (fK f) → isSb pl.1 → f ≠ .leaf → cst true (prF tx n pl 0 false bp f) + 1 + (if sbF pl f = true then 1 else 0) ≤ aS tx n pl 0 (fK f) + fWt pl.1 (lbC pl) 0 f + x41 pl f) := by
  intro f
  induction f with
  | leaf =>
    intro _
    refine ⟨fun pl r hp bp m v _ _ _ _ => ?_, fun pl bp _ _ h => absurd rfl h⟩
    have : x41 pl .leaf = 0 := by
      unfold x41
      rw [if_neg]
      intro z
      exact absurd z.2 (by decide)
    rw [this]
    exact Int.le_refl _
  | inner x l u ch re i1 i2 =>
    intro hF
    obtain ⟨f1, f2, f3, f4, f5⟩ := hF
    obtain ⟨F1, F2⟩ := i1 f4
    obtain ⟨G1, -⟩ := i2 f5
    have wt : tWt (l, ch) = tOw l (fLn ch) + fWt l.1 (lbC l) 0 ch := rfl
    -- a node, without brackets
    have N1 : (0 ≤ l.1 ∧ l.1 ≤ 23 ∨ 30 ≤ l.1 ∧ l.1 ≤ 49) → ∀ (hd b1 : Bool) (pk r : Int), hdK2 l hd → cst false (opn tx n l (fK0 ch)) + cst false (prF tx n l 0 hd b1 ch) + cst false (if l.1 < 30 then clS pk r l (fLn ch) else clE tx n l (fLn ch) (nlF ch)) ≤ tWt (l, ch) := by
      intro kn hd b1 pk r hk
      have a := F1 l 0 hd b1 (fK ch) [] f2 rfl rfl hk
      have b := OW_all ht f1 f2 kn pk r
      have c : 0 ≤ (if l.1 = 46 ∧ lbC l = 14 then (1 : Int) else 0) := by split <;> omega
      unfold x41 at a
      omega
    have E2 : isE l.1 → ∀ b1 : Bool, cst true (opn tx n l (fK0 ch) ++ (prF tx n l 0 false b1 ch ++ clE tx n l (fLn ch) (nlF ch))) + 1 + gSv l ch ≤ tWt (l, ch) := by
      intro hE b1
      have h30 : ¬ l.1 < 30 := by unfold isE at hE; omega
      by_cases hs : isSb l.1
      · have a := F2 l b1 f2 hs (gC_sb hs f2)
        have b := OW_all ht f1 f2 (by unfold isE at hE; omega) 0 0
        rw [opn_sb hs] at b ⊢
        rw [if_neg h30] at b
        have c := cst_at (prF tx n l 0 false b1 ch) (clE tx n l (fLn ch) (nlF ch))
        have z : cst false [] = 0 := rfl
        have d : gSv l ch ≤ (if l.1 = 46 ∧ lbC l = 14 then (1 : Int) else 0) + (if sbF l ch = true then 1 else 0) := by
          unfold gSv
          by_cases q : l.1 = 46 ∧ lbC l = 14
          · rw [if_pos (Or.inl q), if_pos q]
            split <;> omega
          · rw [if_neg q]
            by_cases q2 : sbF l ch = true
            · rw [if_pos q2]
              split <;> omega
            · rw [if_neg q2, if_neg]
              · decide
              · rintro (y | y | y)
                · exact q y
                · omega
                · unfold sbN at y
                  rw [if_neg (by omega), if_pos hs] at y
                  exact q2 y
        unfold x41 at a
        rw [List.nil_append]
        omega
      · have a := F1 l 0 false b1 (fK ch) [] f2 rfl rfl (fun _ _ _ _ => rfl)
        have b := OW2 ht f1 f2 hE hs
        have c := cst_at (opn tx n l (fK0 ch)) (prF tx n l 0 false b1 ch ++ clE tx n l (fLn ch) (nlF ch))
        have d := cst_af (prF tx n l 0 false b1 ch) (clE tx n l (fLn ch) (nlF ch))
        have e : x41 l ch = 0 := if_neg (fun z => hs (by omega))
        omega
    -- brackets about it
    have BR : isE l.1 → ∀ (hd b1 fr : Bool), (hd && !b1) = false → ∀ pk r : Int, cst fr (bdT tx n pk r l ch hd b1 true) + gSv l ch ≤ tWt (l, ch) + 1 := by
      intro hE hd b1 fr hb pk r
      have h30 : ¬ l.1 < 30 := by unfold isE at hE; omega
      unfold bdT clo
      rw [if_pos rfl, if_neg h30, c1009, if_pos rfl, prF_hb, hb]
      have e := E2 hE false
      have a := cst_at (opn tx n l (fK0 ch) ++ (prF tx n l 0 false false ch ++ clE tx n l (fLn ch) (nlF ch))) [kTok 1010]
      rw [c1010] at a
      have c : opn tx n l (fK0 ch) ++ (prF tx n l 0 false false ch ++ (clE tx n l (fLn ch) (nlF ch) ++ [kTok 1010])) = (opn tx n l (fK0 ch) ++ (prF tx n l 0 false false ch ++ clE tx n l (fLn ch) (nlF ch))) ++ [kTok 1010] := by simp only [List.append_assoc]
      rw [c]
      omega
    have NB : (0 ≤ l.1 ∧ l.1 ≤ 23 ∨ 30 ≤ l.1 ∧ l.1 ≤ 49) → ∀ (hd b1 : Bool) (pk r : Int), hdK2 l hd → cst false (bdT tx n pk r l ch hd b1 false) ≤ tWt (l, ch) := by
      intro kn hd b1 pk r hk
      have a := N1 kn hd b1 pk r hk
      unfold bdT clo
      rw [if_neg (show ¬ false = true by decide), if_neg (show ¬ false = true by decide), List.nil_append, List.append_nil]
      have b := cst_af (opn tx n l (fK0 ch)) (prF tx n l 0 hd b1 ch ++ (if l.1 < 30 then clS pk r l (fLn ch) else clE tx n l (fLn ch) (nlF ch)))
      have c := cst_af (prF tx n l 0 hd b1 ch) (if l.1 < 30 then clS pk r l (fLn ch) else clE tx n l (fLn ch) (nlF ch))
      omega
    constructor
    · intro pl r hp bp m v hg hm hr hk
      have ek : fK (.inner x l u ch re) = l.1 :: fK re := rfl
      rw [ek] at hm
      have lm : l.1 ∈ m := by rw [hm]; exact List.mem_append_right _ (List.mem_cons_self ..)
      have kk := gC_kn hg lm
      have hkl := hdK2_ch (bp := bp) hg hm hr hk
      have kn : 0 ≤ l.1 ∧ l.1 ≤ 23 ∨ 30 ≤ l.1 ∧ l.1 ≤ 49 := by
        have := kk.1
        omega
      have g := G1 pl (r + 1) hp bp m (v ++ [l.1]) hg (by rw [hm, List.append_assoc]; rfl) (by rw [List.length_append]; simp; omega) hk
      rw [prF_in, ek]
      have ea : aS tx n pl r (l.1 :: fK re) = cst false (ahd tx n pl r l.1) + aS tx n pl (r + 1) (fK re) := rfl
      rw [ea, fWt_in]
      have b0 := bB_0 pl.1 (lbC pl) r l ch
      have x0 : x41 pl re + (if pl.1 = 41 ∧ l.1 = 33 then 2 else 0) ≤ x41 pl (.inner x l u ch re) := by
        have e1 : x41 pl (.inner x l u ch re) = if pl.1 = 41 ∧ l.1 = 33 then 2 else 0 := rfl
        rw [e1]
        by_cases q : pl.1 = 41
        · have hg' : ∃ a, m = [a] ∧ isE a := by
            unfold gC at hg
            rw [q] at hg
            exact hg
          obtain ⟨a, em, -⟩ := hg'
          have : fK re = [] := by
            rw [em] at hm
            cases v with
            | nil => exact (List.cons.inj hm).2.symm
            | cons b v =>
              have := congrArg List.length hm
              simp at this
          rw [fK_nil this]
          have : x41 pl .leaf = 0 := if_neg (fun z => absurd z.2 (by decide))
          rw [this]
          omega
        · have : x41 pl re = 0 := if_neg (fun z => q z.1)
          rw [this]
          omega
      have key : cst false (bdT tx n pl.1 r l ch (hdF pl.1 r hp bp) (br1 pl r l ch (hdF pl.1 r hp bp)) (brF pl r l ch (hdF pl.1 r hp bp))) ≤ tWt (l, ch) + bB pl.1 (lbC pl) r l ch + (if pl.1 = 41 ∧ l.1 = 33 then 2 else 0) := by
        have x00 : 0 ≤ (if pl.1 = 41 ∧ l.1 = 33 then (2 : Int) else 0) := by split <;> omega
        by_cases hE : isE l.1
        · cases hb : brF pl r l ch (hdF pl.1 r hp bp) with
          | false =>
            have := NB kn (hdF pl.1 r hp bp) (br1 pl r l ch (hdF pl.1 r hp bp)) pl.1 r hkl
            omega
          | true =>
            have gs := gSv_01 l ch
            unfold brF at hb
            rw [Bool.or_eq_true, decide_eq_true_iff] at hb
            by_cases h1 : br1 pl r l ch (hdF pl.1 r hp bp) = true
            · have := BR hE (hdF pl.1 r hp bp) true false (by simp) pl.1 r
              rw [h1]
              have q := h1
              unfold br1 at q
              rw [decide_eq_true_iff] at q
              rcases q with q | q | q | q
              · have : bB pl.1 (lbC pl) r l ch = 2 := if_pos (Or.inl q)
                omega
              · rw [if_pos q] at x00 ⊢
                omega
              · have : bB pl.1 (lbC pl) r l ch = 2 := if_pos (Or.inr q)
                omega
              · have : gSv l ch = 1 := if_pos (Or.inl ⟨q.2.2, q.2.1⟩)
                omega
            · have h1f : br1 pl r l ch (hdF pl.1 r hp bp) = false := by simpa using h1
              have hc := hb.resolve_left h1
              have hd0 : hdF pl.1 r hp bp = false := by
                unfold hdF
                have := hk (by omega) (by omega) (by omega) (by omega)
                rw [if_neg (by omega), if_pos (Or.inl this)]
              have := BR hE (hdF pl.1 r hp bp) false false (by rw [hd0]; rfl) pl.1 r
              rw [h1f]
              have gg : gSv l ch = 1 := by
                rcases hc.2 with q | q
                · refine if_pos (Or.inr (Or.inr ?_))
                  have e : sbF pl (tCo l ch .leaf) = if br1 pl 0 l ch false = true then false else sbN l ch := rfl
                  rw [e] at q
                  split at q
                  · cases q
                  · exact q
                · exact if_pos (Or.inr (Or.inl q.1))
              omega
        · have h38 : l.1 < 30 ∨ l.1 = 38 := by
            unfold isE at hE
            omega
          obtain ⟨n1, n2⟩ := nbr (pl := pl) (r := r) (l := l) (ch := ch) (hd := hdF pl.1 r hp bp) h38 (fun z => hE (kk.2.2.1 z))
          rw [n1, n2]
          have := NB kn (hdF pl.1 r hp bp) false pl.1 r hkl
          omega
      have c1 := cst_af (ahd tx n pl r l.1) (bdT tx n pl.1 r l ch (hdF pl.1 r hp bp) (br1 pl r l ch (hdF pl.1 r hp bp)) (brF pl r l ch (hdF pl.1 r hp bp)) ++ prF tx n pl (r + 1) hp bp re)
      have c2 := cst_af (bdT tx n pl.1 r l ch (hdF pl.1 r hp bp) (br1 pl r l ch (hdF pl.1 r hp bp)) (brF pl r l ch (hdF pl.1 r hp bp))) (prF tx n pl (r + 1) hp bp re)
      omega
    · intro pl bp hg hs _
      have ek : fK (.inner x l u ch re) = l.1 :: fK re := rfl
      rw [ek] at hg
      have lm : l.1 ∈ (l.1 :: fK re) := List.mem_cons_self ..
      have kk := gC_kn hg lm
      have hE : isE l.1 := kk.2.1 ⟨by omega, by omega, by omega, by omega⟩
      have g := G1 pl (0 + 1) false bp (l.1 :: fK re) [l.1] hg rfl rfl (fun _ _ _ _ => rfl)
      have hd0 : hdF pl.1 0 false bp = false := by
        unfold hdF
        rw [if_neg (by omega), if_pos (Or.inl rfl)]
      have eb : brF pl 0 l ch false = br1 pl 0 l ch false := by
        unfold brF
        rw [decide_eq_false (fun z => by omega), Bool.or_false]
      rw [prF_in, ek, ahd_sb hs, hd0, eb, List.nil_append]
      have ea : aS tx n pl 0 (l.1 :: fK re) = cst false (ahd tx n pl 0 l.1) + aS tx n pl (0 + 1) (fK re) := rfl
      rw [ahd_sb hs] at ea
      have z0 : cst false [] = 0 := rfl
      rw [ea, fWt_in]
      have b0 := bB_0 pl.1 (lbC pl) 0 l ch
      have x0 : x41 pl re + (if pl.1 = 41 ∧ l.1 = 33 then 2 else 0) ≤ x41 pl (.inner x l u ch re) := by
        have e1 : x41 pl (.inner x l u ch re) = if pl.1 = 41 ∧ l.1 = 33 then 2 else 0 := rfl
        rw [e1]
        by_cases q : pl.1 = 41
        · have hg' : ∃ a, (l.1 :: fK re) = [a] ∧ isE a := by
            unfold gC at hg
            rw [q] at hg
            exact hg
          obtain ⟨a, em, -⟩ := hg'
          have : fK re = [] := (List.cons.inj em).2
          rw [fK_nil this]
          have : x41 pl .leaf = 0 := if_neg (fun z => absurd z.2 (by decide))
          rw [this]
          omega
        · have : x41 pl re = 0 := if_neg (fun z => q z.1)
          rw [this]
          omega
      have es : sbF pl (.inner x l u ch re) = if br1 pl 0 l ch false = true then false else sbN l ch := rfl
      rw [es]
      have gs := gSv_01 l ch
      have c2 := cst_at (bdT tx n pl.1 0 l ch false (br1 pl 0 l ch false) (br1 pl 0 l ch false)) (prF tx n pl (0 + 1) false bp re)
      have key : cst true (bdT tx n pl.1 0 l ch false (br1 pl 0 l ch false) (br1 pl 0 l ch false)) + 1 + (if (if br1 pl 0 l ch false = true then false else sbN l ch) = true then 1 else 0) ≤ tWt (l, ch) + bB pl.1 (lbC pl) 0 l ch + (if pl.1 = 41 ∧ l.1 = 33 then 2 else 0) := by
        have x00 : 0 ≤ (if pl.1 = 41 ∧ l.1 = 33 then (2 : Int) else 0) := by split <;> omega
        cases h1 : br1 pl 0 l ch false with
        | true =>
          rw [if_pos rfl, if_neg (by decide)]
          have := BR hE false true true rfl pl.1 0
          have q := h1
          unfold br1 at q
          rw [decide_eq_true_iff] at q
          rcases q with q | q | q | q
          · have : bB pl.1 (lbC pl) 0 l ch = 2 := if_pos (Or.inl q)
            omega
          · rw [if_pos q]
            omega
          · have : bB pl.1 (lbC pl) 0 l ch = 2 := if_pos (Or.inr q)
            omega
          · exact absurd q.1 (by decide)
        | false =>
          rw [if_neg (show ¬ false = true by decide)]
          have e := E2 hE false
          have h30 : ¬ l.1 < 30 := by unfold isE at hE; omega
          unfold bdT clo
          rw [if_neg (show ¬ false = true by decide), if_neg (show ¬ false = true by decide), if_neg h30, List.nil_append, List.append_nil]
          have : (if sbN l ch = true then (1 : Int) else 0) ≤ gSv l ch := by
            by_cases q : sbN l ch = true
            · have : gSv l ch = 1 := if_pos (Or.inr (Or.inr q))
              rw [if_pos q]
              omega
            · rw [if_neg q]
              omega
          omega
      omega
/-- what is printed of a tree is no longer than its weight -/
theorem prT_len (ht : tOk tx n) {T : tT} (hT : T.1.1 = 0) (g : gF tx n (fo [T])) : ((prT tx n T).1.length : Int) ≤ tWt T := by
  rw [prT_eq hT g]
  obtain ⟨g1, g2, g3, g4, g5⟩ := g
  have k' : ∀ x ∈ fK T.2, isS x ∨ x = 20 := by
    unfold gC at g2
    rw [hT] at g2
    exact g2
  rw [← ac_pr (tx := tx) (n := n) (Or.inl hT) T.2 0 false (by omega) k']
  have a := ems_cst (prF tx n T.1 0 false false T.2) ([], false) false (fun z => by cases z)
  have b := (LB ht T.2 g4).1 T.1 0 false false (fK T.2) [] g2 rfl rfl (fun _ _ _ _ => rfl)
  have c := aS_0 (tx := tx) (n := n) (l := T.1) (fun r k _ => by simp [ahd, ahH, hT]) (fK T.2) 0 (by decide)
  have d : x41 T.1 T.2 = 0 := if_neg (fun z => by omega)
  have e : tWt T = tOw T.1 (fLn T.2) + fWt T.1.1 (lbC T.1) 0 T.2 := rfl
  have o : tOw T.1 (fLn T.2) = 0 := by simp [tOw, hT]
  have s : ((((([], false) : oS).1).length : Nat) : Int) = 0 := rfl
  omega
end TXb8
