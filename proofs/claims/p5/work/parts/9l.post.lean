/-! ===== what a reading gives ===== -/
section TX41
variable {tx : Int → Int} {n : Int}
/-- a token in numbers -/
theorem tk_num {t : tTk} (h : tkOk t) : t.1 = 2 ∧ rNo t = 999 + t.2.1 ∧ 1 ≤ t.2.1 ∧ t.2.1 ≤ 27 ∨ t.1 = 6 ∧ rNo t = t.2.1 ∧ 33 ≤ t.2.1 ∧ (t.2.1 < 1000 ∨ 1026 < t.2.1) ∨ t.1 = 0 ∧ t.2.1 = 0 ∧ rNo t = 0 ∨ t.1 = 1 ∧ t.2.1 = 0 ∧ rNo t = 1 ∨ t.1 = 3 ∧ t.2.1 = 0 ∧ rNo t = 2 ∨ t.1 = 4 ∧ t.2.1 = 0 ∧ rNo t = 3 ∨ t.1 = 5 ∧ t.2.1 = 0 ∧ rNo t = 4 := by
  unfold rNo
  rcases h with ⟨h1, h2⟩ | ⟨h1, h2, h3⟩ | ⟨h1, h2⟩
  · rw [if_neg (by omega), if_neg (by omega)]
    rcases h1 with z | z | z | z | z <;> rw [z] <;> simp [h2]
  · rw [if_pos h1]; omega
  · have := sg_pos _ h2
    have := sg_gap _ h2
    rw [if_neg (by omega), if_pos h1]; omega
theorem lxG_num (ht : tOk tx n) {g : Bool} {e : Int} (h0 : 0 ≤ e) (h1 : e ≤ n) {t : tTk} (h : lxG tx n g e = some t) : e ≤ t.2.2.1 ∧ t.2.2.1 ≤ t.2.2.2.1 ∧ t.2.2.2.1 ≤ n ∧ n ≤ 480 ∧ (t.1 ≠ 0 → t.2.2.1 < t.2.2.2.1) ∧ (t.1 = 0 → t.2.2.1 = n) := by
  have ok := lxG_ok ht h0 h1 h
  obtain ⟨t1, t2, -⟩ := id ht
  exact ⟨ok.2.1, ok.2.2.1, ok.2.2.2.1, t2, ok.2.2.2.2.1, ok.2.2.2.2.2⟩
theorem lxG_r4 (ht : tOk tx n) {g : Bool} {e : Int} (h0 : 0 ≤ e) (h1 : e ≤ n) {t : tTk} (h : lxG tx n g e = some t) : e ≤ t.2.2.1 ∧ t.2.2.1 ≤ t.2.2.2.1 ∧ t.2.2.2.1 ≤ n ∧ n ≤ 480 := by
  have a := lxG_num ht h0 h1 h
  exact ⟨a.1, a.2.1, a.2.2.1, a.2.2.2.1⟩
/-- a sign, a word, a kind on both sides -/
theorem tok_s (ht : tOk tx n) {g : Bool} {e : Int} (h0 : 0 ≤ e) (h1 : e ≤ n) {t : tTk} (h : lxG tx n g e = some t) {c : Int} (hc : 33 ≤ c) (hg : c < 1000 ∨ 1026 < c) : (t.2.1 = c → rNo t = c ∧ t.2.2.1 < t.2.2.2.1) ∧ (t.2.1 ≠ c → rNo t ≠ c) := by
  have a := lxG_num ht h0 h1 h
  have tn := tk_num (lxG_ok ht h0 h1 h).1
  constructor
  · intro z; omega
  · intro z; omega
theorem tok_w (ht : tOk tx n) {g : Bool} {e : Int} (h0 : 0 ≤ e) (h1 : e ≤ n) {t : tTk} (h : lxG tx n g e = some t) {w : Int} (hc : 1 ≤ w) (hg : w ≤ 27) : (t.2.1 = w → rNo t = 999 + w ∧ t.1 = 2 ∧ t.2.2.1 < t.2.2.2.1) ∧ (t.2.1 ≠ w → rNo t ≠ 999 + w) := by
  have a := lxG_num ht h0 h1 h
  have tn := tk_num (lxG_ok ht h0 h1 h).1
  constructor
  · intro z; omega
  · intro z; omega
theorem tok_k (ht : tOk tx n) {g : Bool} {e : Int} (h0 : 0 ≤ e) (h1 : e ≤ n) {t : tTk} (h : lxG tx n g e = some t) : (t.1 = 1 → rNo t = 1 ∧ t.2.2.1 < t.2.2.2.1) ∧ (t.1 ≠ 1 → rNo t ≠ 1) ∧ (t.1 = 0 → rNo t = 0) ∧ (t.1 ≠ 0 → rNo t ≠ 0 ∧ t.2.2.1 < t.2.2.2.1) ∧ (t.1 = 2 → 1000 ≤ rNo t ∧ rNo t ≤ 1026) ∧ (t.1 ≠ 2 → ¬ (1000 ≤ rNo t ∧ rNo t ≤ 1026)) := by
  have a := lxG_num ht h0 h1 h
  have tn := tk_num (lxG_ok ht h0 h1 h).1
  refine ⟨?_, ?_, ?_, ?_, ?_, ?_⟩ <;> intro z <;> omega
/-- a token begins at the same place for both goals -/
theorem lxG_beg {g g' : Bool} {e : Int} {t t' : tTk} (h : lxG tx n g e = some t) (h' : lxG tx n g' e = some t') : t'.2.2.1 = t.2.2.1 ∧ t'.2.2.2.2 = t.2.2.2.2 := by
  have a := lxG_start h
  have b := lxG_start h'
  exact ⟨by rw [a.1, b.1], by rw [a.2.2, b.2.2]⟩
theorem blE_line (ht : tOk tx n) : ∀ (k : Nat) (p : Int) (b : Bool), 0 ≤ p → p ≤ n → (blE tx n k p b).2.1 = true → b = true ∨ p < (blE tx n k p b).1 := by
  intro k
  induction k with
  | zero => intro p b _ _ h; exact Or.inl h
  | succ k ih =>
    intro p b h0 h1 h
    rw [blE] at h ⊢
    split at h
    · next hp =>
      rw [if_pos hp]
      split at h
      · next hl =>
        rw [if_pos hl]
        right
        have := blE_le ht k (p + 1) true (by omega) (by omega)
        omega
      · next hl =>
        rw [if_neg hl]
        split at h
        · next hw =>
          rw [if_pos hw]
          rcases ih (p + 1) b (by omega) (by omega) h with z | z
          · exact Or.inl z
          · exact Or.inr (by omega)
        · next hw =>
          rw [if_neg hw]
          split at h
          · next hc =>
            rw [if_pos hc]
            have h2 := lnE_le (tx := tx) (n := n) (p := p) (n - p).toNat (by omega) (by omega)
            rcases ih (lnE tx n p) b (by omega) (by omega) h with z | z
            · exact Or.inl z
            · exact Or.inr (by omega)
          · next hc =>
            rw [if_neg hc]
            split at h
            · next hd =>
              rw [if_pos hd]
              split at h
              · next q hq =>
                right
                have := cmE_le (k := (n - (p + 2)).toNat) (by omega) hq
                have := blE_le ht k q.1 q.2 (by omega) (by omega)
                omega
              · exact Or.inl h
            · exact Or.inl h
    · exact Or.inl h
/-- a line end ahead of a token lies between it and the one before -/
theorem lxG_line (ht : tOk tx n) {g : Bool} {e : Int} (h0 : 0 ≤ e) (h1 : e ≤ n) {t : tTk} (h : lxG tx n g e = some t) (hl : t.2.2.2.2 = true) : e < t.2.2.1 := by
  have a := lxG_start h
  rw [a.2.2] at hl
  rw [a.1]
  rcases blE_line ht 481 e false h0 h1 hl with z | z
  · cases z
  · exact z
/-! nodes of each kind -/
theorem gT_no {l : tLb} (hk : l.1 = 0 ∨ l.1 = 1 ∨ l.1 = 2 ∨ l.1 = 4 ∨ l.1 = 5 ∨ l.1 = 6 ∨ l.1 = 7 ∨ l.1 = 8 ∨ l.1 = 9 ∨ l.1 = 10 ∨ l.1 = 13 ∨ l.1 = 14 ∨ l.1 = 15 ∨ l.1 = 17 ∨ l.1 = 18 ∨ l.1 = 21 ∨ l.1 = 23 ∨ l.1 = 30 ∨ l.1 = 36 ∨ l.1 = 37 ∨ l.1 = 40 ∨ l.1 = 42 ∨ l.1 = 43 ∨ l.1 = 47 ∨ l.1 = 49) (h0 : 0 ≤ lbP l) (h1 : lbP l ≤ n) (h2 : lbN l = 0) : gT tx n l := by
  refine ⟨h0, by omega, by omega, ?_⟩
  rw [if_neg (by omega), if_neg (by omega), if_neg (by omega), if_neg (by omega), if_neg (by omega), if_neg (by omega), if_neg (by omega), if_neg (by omega), if_neg (by omega), if_neg (by omega), if_neg (by omega), if_neg (by omega)]
  exact h2
/-- the token t, read behind e -/
theorem tkA_of (ht : tOk tx n) {g : Bool} {e : Int} (h0 : 0 ≤ e) (h1 : e ≤ n) {t : tTk} (h : lxG tx n g e = some t) {k kd : Int} (hk : t.1 = kd) (w : Bool) : tkA tx n (k, t.2.2.1, t.2.2.2.1 - t.2.2.1, t.2.1, w) kd := by
  refine ⟨g, e, t.2.2.2.2, h0, h1, ?_⟩
  rw [h, ← hk]
  show some t = some (t.1, t.2.1, t.2.2.1, t.2.2.1 + (t.2.2.2.1 - t.2.2.1), t.2.2.2.2)
  rw [show t.2.2.1 + (t.2.2.2.1 - t.2.2.1) = t.2.2.2.1 by omega]
theorem gT_nm (ht : tOk tx n) {g : Bool} {e : Int} (h0 : 0 ≤ e) (h1 : e ≤ n) {t : tTk} (h : lxG tx n g e = some t) {k : Int} (hk : k = 3 ∨ k = 16 ∨ k = 19 ∨ k = 20 ∨ k = 22 ∨ k = 31) (ht1 : t.1 = 1) (w : Bool) : gT tx n (k, t.2.2.1, t.2.2.2.1 - t.2.2.1, t.2.1, w) := by
  have rg := lxG_num ht h0 h1 h
  refine ⟨by show 0 ≤ t.2.2.1; omega, by show 0 ≤ t.2.2.2.1 - t.2.2.1; omega, by show t.2.2.1 + (t.2.2.2.1 - t.2.2.1) ≤ n; omega, ?_⟩
  rw [if_pos hk]
  exact tkA_of ht h0 h1 h ht1 w
theorem gT_tk (ht : tOk tx n) {g : Bool} {e : Int} (h0 : 0 ≤ e) (h1 : e ≤ n) {t : tTk} (h : lxG tx n g e = some t) {k : Int} (w : Bool) (hk : (if k = 3 ∨ k = 16 ∨ k = 19 ∨ k = 20 ∨ k = 22 ∨ k = 31 then t.1 = 1
  else if k = 11 ∨ k = 12 ∨ k = 39 then t.1 = 1
  else if k = 32 then t.1 = 2 ∧ (t.2.1 = 9 ∨ t.2.1 = 17 ∨ t.2.1 = 22)
  else if k = 33 then t.1 = 3
  else if k = 34 then t.1 = 4
  else if k = 35 then t.1 = 5
  else if k = 38 then t.1 = 1 ∨ t.1 = 2 ∨ t.1 = 3 ∨ t.1 = 4
  else if k = 41 then t.1 = 1 ∨ t.1 = 2
  else if k = 44 then t.1 = 6 ∧ (t.2.1 = 11051 ∨ t.2.1 = 11565)
  else if k = 45 then t.1 = 6 ∧ (t.2.1 = 33 ∨ t.2.1 = 43 ∨ t.2.1 = 45 ∨ t.2.1 = 126 ∨ t.2.1 = 11051 ∨ t.2.1 = 11565) ∨ t.1 = 2 ∧ (t.2.1 = 6 ∨ t.2.1 = 24 ∨ t.2.1 = 26)
  else if k = 46 then (t.1 = 6 ∨ t.1 = 2) ∧ 1 ≤ stC t.2.1
  else if k = 48 then t.1 = 6 else False)) : gT tx n (k, t.2.2.1, t.2.2.2.1 - t.2.2.1, t.2.1, w) := by
  have rg := lxG_num ht h0 h1 h
  have A : ∀ kd, t.1 = kd → tkA tx n (k, t.2.2.1, t.2.2.2.1 - t.2.2.1, t.2.1, w) kd := fun kd hh => tkA_of ht h0 h1 h hh w
  refine ⟨by show 0 ≤ t.2.2.1; omega, by show 0 ≤ t.2.2.2.1 - t.2.2.1; omega, by show t.2.2.1 + (t.2.2.2.1 - t.2.2.1) ≤ n; omega, ?_⟩
  show (if k = 3 ∨ k = 16 ∨ k = 19 ∨ k = 20 ∨ k = 22 ∨ k = 31 then _ else _)
  by_cases c1 : k = 3 ∨ k = 16 ∨ k = 19 ∨ k = 20 ∨ k = 22 ∨ k = 31
  · rw [if_pos c1] at hk ⊢; exact A 1 hk
  rw [if_neg c1] at hk ⊢
  by_cases c2 : k = 11 ∨ k = 12 ∨ k = 39
  · rw [if_pos c2] at hk ⊢; exact Or.inr (A 1 hk)
  rw [if_neg c2] at hk ⊢
  by_cases c3 : k = 32
  · rw [if_pos c3] at hk ⊢; exact ⟨A 2 hk.1, hk.2⟩
  rw [if_neg c3] at hk ⊢
  by_cases c4 : k = 33
  · rw [if_pos c4] at hk ⊢; exact A 3 hk
  rw [if_neg c4] at hk ⊢
  by_cases c5 : k = 34
  · rw [if_pos c5] at hk ⊢; exact A 4 hk
  rw [if_neg c5] at hk ⊢
  by_cases c6 : k = 35
  · rw [if_pos c6] at hk ⊢; exact A 5 hk
  rw [if_neg c6] at hk ⊢
  by_cases c7 : k = 38
  · rw [if_pos c7] at hk ⊢
    rcases hk with z | z | z | z
    · exact Or.inl (A 1 z)
    · exact Or.inr (Or.inl (A 2 z))
    · exact Or.inr (Or.inr (Or.inl (A 3 z)))
    · exact Or.inr (Or.inr (Or.inr (A 4 z)))
  rw [if_neg c7] at hk ⊢
  by_cases c8 : k = 41
  · rw [if_pos c8] at hk ⊢
    rcases hk with z | z
    · exact Or.inl (A 1 z)
    · exact Or.inr (A 2 z)
  rw [if_neg c8] at hk ⊢
  by_cases c9 : k = 44
  · rw [if_pos c9] at hk ⊢; exact ⟨A 6 hk.1, hk.2⟩
  rw [if_neg c9] at hk ⊢
  by_cases c10 : k = 45
  · rw [if_pos c10] at hk ⊢
    rcases hk with z | z
    · exact Or.inl ⟨A 6 z.1, z.2⟩
    · exact Or.inr ⟨A 2 z.1, z.2⟩
  rw [if_neg c10] at hk ⊢
  by_cases c11 : k = 46
  · rw [if_pos c11] at hk ⊢
    rcases hk.1 with z | z
    · exact ⟨Or.inl (A 6 z), hk.2⟩
    · exact ⟨Or.inr (A 2 z), hk.2⟩
  rw [if_neg c11] at hk ⊢
  by_cases c12 : k = 48
  · rw [if_pos c12] at hk ⊢; exact A 6 hk
  rw [if_neg c12] at hk
  exact hk.elim
/-- a tree out of a label and children -/
theorem gG_mk {l : tLb} {L : List tT} (h1 : gT tx n l) (h2 : gC l.1 (L.map (·.1.1))) (h3 : gW l (fo L)) (h4 : ∀ t ∈ L, gG tx n t) : gG tx n (l, fo L) := ⟨h1, by show gC l.1 (fK (fo L)); rw [fK_fo]; exact h2, h3, (gF_fo tx n L).mpr h4⟩
theorem gW_no {l : tLb} {f : tF} (h : l.1 ≠ 5) : gW l f := fun z => absurd z h
theorem gG_w {t : tT} (h : gG tx n t) (w : Bool) : gG tx n ((t.1.1, t.1.2.1, t.1.2.2.1, t.1.2.2.2.1, w), t.2) := by
  obtain ⟨h1, h2, h3, h4⟩ := h
  exact ⟨h1, h2, h3, h4⟩
theorem tSz_1 (t : tT) : 1 ≤ tSz t := by
  have := fSz_0 t.2
  unfold tSz
  omega
/-! what is left behind a reading -/
/-- a string alone: in brackets or not -/
def stO (b : Int) (t : tT) : Prop := t.1.1 = 34 → b ≤ lbP t.1 ∧ (lbW t.1 = true ↔ lbP t.1 ≠ b)
def Po (tx : Int → Int) (n : Int) (b cn rn d : Int) (V : List tT) (K : List rTs) (S : List rSg) (W : List (Int × Int)) (X : cm_S → Int → tTk → Bool → tT → Prop) (v : Int) (s' : cm_S) (c' : rC) : Prop := ∃ (e' : Int) (t' : tTk) (sc' : Int) (lf' : Bool) (T : tT), cSt tx n s' e' false t' (cn + tSz T) sc' W ∧ c' = (e', d, rn + tSz T, sc', lf', T :: V, K, S) ∧ cTr s' cn (cn + tSz T) v T ∧ s'.2 11 v = -1 ∧ b + tSz T ≤ e' ∧ gG tx n T ∧ X s' e' t' lf' T
/-- of an expression, where level w is asked for -/
def xE (b w : Int) (s' : cm_S) (e' : Int) (_ : tTk) (lf' : Bool) (T : tT) : Prop := isE T.1.1 ∧ stO b T ∧ tWb w T ≤ 2 * (e' - b) ∧ s'.1 1406 = cm_n lf' ∧ (lf' = true → tWb 15 T ≤ 2 * (e' - b))
/-- numbers at a beginning -/
def Nu (b cn rn d ka k : Int) (K : List rTs) (S : List rSg) (W : List (Int × Int)) : Prop := 0 ≤ d ∧ d ≤ 20 ∧ (K.length : Int) ≤ 20 * d + k ∧ (S.length : Int) = W.length ∧ (S.length : Int) ≤ 10 * d ∧ 0 ≤ cn ∧ cn ≤ b + ka ∧ 0 ≤ rn ∧ rn + red K ≤ cn
theorem red_co (a b c x y : Int) (K : List rTs) : red ((a, b, c, x, y) :: K) = (if a = 3 then 1 else 0) + red K := rfl
end TX41
