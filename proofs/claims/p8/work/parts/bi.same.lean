/-! ===== printing: what does not depend on a heading; a value's tokens ===== -/
theorem hdF_hb (pk r : Int) (hp bp : Bool) : hdF pk r hp bp = hdF pk r (hp && !bp) false := by
  unfold hdF
  cases hp <;> cases bp <;> simp
theorem cN_cm {a b : Bool} (h : a = b) : cm_n a = cm_n b := by rw [h]
/-- the tokens of a node, without what stands ahead of it -/
def bdT (tx : Int → Int) (n : Int) (pk r : Int) (l : tLb) (ch : tF) (hd b1 br : Bool) : List tok := (if br = true then [kTok 1009] else []) ++ (opn tx n l (fK0 ch) ++ (prF tx n l 0 hd b1 ch ++ clo tx n pk r l ch br))
def vT (tx : Int → Int) (n : Int) (l : tLb) (ch : tF) (ni br : Bool) : List tok := (if br = true then [kTok 1009] else []) ++ (opn tx n l (fK0 ch) ++ (prF tx n l 0 (ni && !br) false ch ++ (clE tx n l (fLn ch) (nlF ch) ++ (if br = true then [kTok 1010] else []))))
def vBr (l : tLb) (w : Int) (ni fc : Bool) : Bool := fc || (decide (tB l < w) || (ni && decide (lbC l = 14 ∧ l.1 = 46)))
section TXa4
variable {tx : Int → Int} {n : Int}
theorem prF_in (pl : tLb) (r : Int) (hp bp : Bool) (x : Nat) (l : tLb) (u : Unit) (ch re : tF) : prF tx n pl r hp bp (.inner x l u ch re) = ahd tx n pl r l.1 ++ (bdT tx n pl.1 r l ch (hdF pl.1 r hp bp) (br1 pl r l ch (hdF pl.1 r hp bp)) (brF pl r l ch (hdF pl.1 r hp bp)) ++ prF tx n pl (r + 1) hp bp re) := by
  show (ahd tx n pl r l.1 ++ ((if brF pl r l ch (hdF pl.1 r hp bp) = true then [kTok 1009] else []) ++ opn tx n l (fK0 ch))) ++ (prF tx n l 0 (hdF pl.1 r hp bp) (br1 pl r l ch (hdF pl.1 r hp bp)) ch ++ (clo tx n pl.1 r l ch (brF pl r l ch (hdF pl.1 r hp bp)) ++ prF tx n pl (r + 1) hp bp re)) = _
  unfold bdT
  simp only [List.append_assoc]
theorem prF_hb : ∀ (f : tF) (pl : tLb) (r : Int) (hp bp : Bool), prF tx n pl r hp bp f = prF tx n pl r (hp && !bp) false f := by
  intro f
  induction f with
  | leaf => intro pl r hp bp; rfl
  | inner x l u ch re i1 i2 =>
    intro pl r hp bp
    rw [prF_in, prF_in, hdF_hb pl.1 r hp bp, i2 pl (r + 1) hp bp]
/-- where the parent binds as much as a sign ahead does, a heading changes nothing -/
theorem hdI : ∀ (f : tF) (pl : tLb) (r : Int) (h b h' b' : Bool) (m : List Int), 13 ≤ tB pl → isE pl.1 → gC pl.1 m → (∃ v, m = v ++ fK f ∧ (v.length : Int) = r) → gF tx n f → prF tx n pl r h b f = prF tx n pl r h' b' f := by
  intro f
  induction f with
  | leaf => intro pl r h b h' b' m _ _ _ _ _; rfl
  | inner x l u ch re i1 i2 =>
    intro pl r h b h' b' m hB hE hg hw hF
    obtain ⟨f1, f2, f3, f4, f5⟩ := hF
    obtain ⟨v, hv, hr⟩ := hw
    have ek : fK (.inner x l u ch re) = l.1 :: fK re := rfl
    rw [ek] at hv
    have lm : l.1 ∈ m := by rw [hv]; exact List.mem_append_right _ (List.mem_cons_self ..)
    obtain ⟨g2, g3, g4, g9, g30, g21⟩ := gC_hd hg
    have p5 : pl.1 ≠ 5 := by unfold isE at hE; omega
    rw [prF_in, prF_in, i2 pl (r + 1) h b h' b' m hB hE hg ⟨v ++ [l.1], by rw [hv, List.append_assoc]; rfl, by rw [List.length_append]; simp; omega⟩ f5]
    have key : bdT tx n pl.1 r l ch (hdF pl.1 r h b) (br1 pl r l ch (hdF pl.1 r h b)) (brF pl r l ch (hdF pl.1 r h b)) = bdT tx n pl.1 r l ch (hdF pl.1 r h' b') (br1 pl r l ch (hdF pl.1 r h' b')) (brF pl r l ch (hdF pl.1 r h' b')) := by
      by_cases hd : hdF pl.1 r h b = hdF pl.1 r h' b'
      · rw [hd]
      · -- the place asks for 13 at least
        have kk : 40 ≤ pl.1 ∧ pl.1 ≤ 45 ∧ (pl.1 = 40 ∨ pl.1 = 42 ∨ pl.1 = 43 → r = 0) := by
          unfold hdF at hd
          unfold isE at hE
          have h9 : ¬ (pl.1 = 9 ∨ pl.1 = 10) := by omega
          rw [if_neg h9, if_neg h9] at hd
          by_cases h36 : pl.1 = 36 ∨ pl.1 = 37 ∨ pl.1 = 39
          · rw [if_pos h36] at hd
            exfalso
            apply hd
            split <;> split <;> rfl
          · rw [if_neg h36] at hd
            have lo : 40 ≤ pl.1 := by
              by_cases q : 40 ≤ pl.1
              · exact q
              · exfalso
                have := g30 (by omega)
                rw [this] at lm
                cases lm
            have hi : pl.1 ≤ 45 := by
              by_cases q : pl.1 ≤ 45
              · exact q
              · exfalso
                have b := stC_b (lbC pl)
                unfold tB at hB
                repeat' split at hB
                all_goals omega
            refine ⟨lo, hi, fun q => ?_⟩
            rw [if_pos q] at hd
            by_cases hr0 : r = 0
            · exact hr0
            · exfalso
              apply hd
              rw [decide_eq_false hr0]
              split <;> split <;> rfl
        have w13 : 13 ≤ tWn pl.1 (lbC pl) r := by
          have ks : pl.1 = 40 ∨ pl.1 = 41 ∨ pl.1 = 42 ∨ pl.1 = 43 ∨ pl.1 = 44 ∨ pl.1 = 45 := by omega
          rcases ks with e | e | e | e | e | e
          · have := kk.2.2 (by omega); simp [tWn, e, this]
          · simp [tWn, e]
          · have := kk.2.2 (by omega); simp [tWn, e, this]
          · have := kk.2.2 (by omega); simp [tWn, e, this]
          · simp [tWn, e]
          · simp [tWn, e]
        have in9 : l.1 = 46 → tB l < 13 := fun e => by
          have b := stC_b (lbC l)
          have : tB l = 2 + stC (lbC l) := by simp [tB, e]
          omega
        have bs : ∀ d d' : Bool, br1 pl r l ch d = br1 pl r l ch d' := fun d d' => by
          unfold br1
          by_cases q : tB l < tWn pl.1 (lbC pl) r
          · rw [decide_eq_true (Or.inl q), decide_eq_true (Or.inl q)]
          · have n46 : l.1 ≠ 46 := fun e => q (by have := in9 e; omega)
            congr 1
            apply propext
            constructor
            · rintro (z | z | z | z)
              · exact Or.inl z
              · exact Or.inr (Or.inl z)
              · exact Or.inr (Or.inr (Or.inl z))
              · exact absurd z.2.2 n46
            · rintro (z | z | z | z)
              · exact Or.inl z
              · exact Or.inr (Or.inl z)
              · exact Or.inr (Or.inr (Or.inl z))
              · exact absurd z.2.2 n46
        have eb : ∀ d, brF pl r l ch d = br1 pl r l ch d := fun d => by simp [brF, p5]
        rw [eb, eb, bs (hdF pl.1 r h b) (hdF pl.1 r h' b')]
        have isl : isE l.1 := g4 (by omega) l.1 lm
        have pp : prF tx n l 0 (hdF pl.1 r h b) (br1 pl r l ch (hdF pl.1 r h' b')) ch = prF tx n l 0 (hdF pl.1 r h' b') (br1 pl r l ch (hdF pl.1 r h' b')) ch := by
          cases hb1 : br1 pl r l ch (hdF pl.1 r h' b') with
          | true => rw [prF_hb ch l 0 (hdF pl.1 r h b) true, prF_hb ch l 0 (hdF pl.1 r h' b') true]; simp
          | false =>
            have tb : 13 ≤ tB l := by
              have : ¬ tB l < tWn pl.1 (lbC pl) r := fun q => by
                unfold br1 at hb1
                rw [decide_eq_true (Or.inl q)] at hb1
                cases hb1
              omega
            exact i1 l 0 _ _ _ _ (fK ch) tb isl f2 ⟨[], rfl, rfl⟩ f4
        unfold bdT
        rw [pp]
    rw [key]
/-- a node's tokens are those of the reference's value -/
theorem bd_eq {pl : tLb} {r : Int} {l : tLb} {ch : tF} {hd ni fc : Bool} {w : Int} (hE : isE l.1) (p5 : pl.1 ≠ 5) (hw : w = tWn pl.1 (lbC pl) r) (hf : fc = true ↔ (pl.1 = 41 ∧ l.1 = 33 ∨ pl.1 = 42 ∧ r = 0 ∧ tCa (l, ch) = true)) (hn : hd = ni ∨ ni = false ∧ 13 ≤ w) (gc : gC l.1 (fK ch)) (gf : gF tx n ch) : bdT tx n pl.1 r l ch hd (br1 pl r l ch hd) (brF pl r l ch hd) = vT tx n l ch ni (vBr l w ni fc) := by
  have in9 : l.1 = 46 → tB l < 13 := fun e => by
    have b := stC_b (lbC l)
    have : tB l = 2 + stC (lbC l) := by simp [tB, e]
    omega
  have eb : brF pl r l ch hd = br1 pl r l ch hd := by simp [brF, p5]
  have ev : br1 pl r l ch hd = vBr l w ni fc := by
    have q1 : br1 pl r l ch hd = true ↔ vBr l w ni fc = true := by
      unfold br1 vBr
      rw [decide_eq_true_iff, Bool.or_eq_true, Bool.or_eq_true, Bool.and_eq_true, decide_eq_true_iff, decide_eq_true_iff, hf, ← hw]
      constructor
      · rintro (z | z | z | z)
        · exact Or.inr (Or.inl z)
        · exact Or.inl (Or.inl z)
        · exact Or.inl (Or.inr z)
        · rcases hn with q | q
          · exact Or.inr (Or.inr ⟨by rw [← q]; exact z.1, z.2.1, z.2.2⟩)
          · exact Or.inr (Or.inl (by have := in9 z.2.2; omega))
      · rintro (z | z | z)
        · rcases z with z | z
          · exact Or.inr (Or.inl z)
          · exact Or.inr (Or.inr (Or.inl z))
        · exact Or.inl z
        · rcases hn with q | q
          · exact Or.inr (Or.inr (Or.inr ⟨by rw [q]; exact z.1, z.2.1, z.2.2⟩))
          · rw [q.1] at z
            exact absurd z.1 (by decide)
    cases ha : br1 pl r l ch hd <;> cases hb : vBr l w ni fc <;> simp_all
  rw [eb, ev]
  have pp : prF tx n l 0 hd (vBr l w ni fc) ch = prF tx n l 0 (ni && !(vBr l w ni fc)) false ch := by
    rw [prF_hb]
    rcases hn with q | q
    · rw [q]
    · cases hb : vBr l w ni fc with
      | true => simp
      | false =>
        have tb : 13 ≤ tB l := by
          have : ¬ tB l < w := fun z => by
            unfold vBr at hb
            rw [decide_eq_true z] at hb
            simp at hb
          omega
        exact hdI ch l 0 _ _ _ _ (fK ch) tb hE gc ⟨[], rfl, rfl⟩ gf
  unfold bdT vT clo
  rw [pp, if_neg (show ¬ l.1 < 30 by unfold isE at hE; omega)]
end TXa4
/-! how a value is to be printed, packed -/
def asW (w : Int) (ni fc : Bool) : Int := w + (if ni = true then 256 else 0) + (if fc = true then 512 else 0)
theorem asW_f (w : Nat) (hw : w < 16) (ni fc : Bool) : (0 < cm_and (asW w ni fc) 256 ↔ ni = true) ∧ (0 < cm_and (asW w ni fc) 512 ↔ fc = true) ∧ cm_and (asW w ni fc) 255 = w ∧ cm_and (asW w ni fc) 256 = (if ni = true then 256 else 0) ∧ cm_or (asW w ni fc) 512 = asW w ni true ∧ cm_or (w : Int) (if ni = true then 256 else 0) = asW w ni false := by
  have : ∀ w : Nat, w < 16 → ∀ ni fc : Bool, (0 < cm_and (asW w ni fc) 256 ↔ ni = true) ∧ (0 < cm_and (asW w ni fc) 512 ↔ fc = true) ∧ cm_and (asW w ni fc) 255 = w ∧ cm_and (asW w ni fc) 256 = (if ni = true then 256 else 0) ∧ cm_or (asW w ni fc) 512 = asW w ni true ∧ cm_or (w : Int) (if ni = true then 256 else 0) = asW w ni false := by decide
  exact this w hw ni fc
