/-! ===== the reference's print() ===== -/
section TXb5
variable {tx : Int → Int} {n : Int}
theorem prT_eq {T : tT} (hT : T.1.1 = 0) (g : gF tx n (fo [T])) : prT tx n T = ems ([], false) (acT tx n T.2) := by
  obtain ⟨g1, g2, g3, g4, g5⟩ := g
  have k' : ∀ x ∈ fK T.2, isS x ∨ x = 20 := by
    unfold gC at g2
    rw [hT] at g2
    exact g2
  unfold prT
  rw [show fo [T] = .inner 0 T.1 () T.2 .leaf from rfl, prF_s (by omega) (by decide) (by decide)]
  have a : ahd tx n rootL 0 T.1.1 = [] := by simp [ahd, ahH, rootL]
  have o1 : opn tx n T.1 (fK0 T.2) = [] := by simp [opn, opS, opH, hT]
  have o2 : clS 0 0 T.1 (fLn T.2) = [] := by simp [clS, hT]
  unfold acB
  rw [a, o1, o2, ac_pr (Or.inl hT) T.2 0 false (by omega) k']
  simp [prF]
theorem r_270 (ht : tOk tx n) {r : cm_S} {T : tT} (h : rJ tx n r T) (hT : T.1.1 = 0) (hw : tWt T ≤ 998) (hl : (prT tx n T).1.length ≤ 1024) : ∃ r', cm_sem 270 [.inr (.inl 41), .inl (nO T 0)] r = some (.inl none, r') ∧ gFm r r' ∧ rOut r' (prT tx n T) := by
  have tz := tSz_1 T
  have g := h.2.2.2.2
  have g' := g
  obtain ⟨g1, g2, g3, g4, g5⟩ := g
  have k' : ∀ x ∈ fK T.2, isS x ∨ x = 20 := by
    unfold gC at g2
    rw [hT] at g2
    exact g2
  have n0 := nT_0 T
  have fa := fAt_ch (T := T) (i := 0) (Int.le_refl _) (by omega)
  rw [n0] at fa
  have e1 : r.2 50 (nO T 0) = nNum T 1 T.2 := by
    rw [h.fn (Int.le_refl _) (by omega), n0]
    rfl
  rw [cS_270, cF_270_0, if_pos (h.no (Int.le_refl _) (by omega)), e1]
  have gf : gFm r (cm_p (cm_p (cm_p (cm_p r 4148 0) 4153 0) 4154 0) 4149 0) := ⟨fun _ _ => rfl, fun j a b c d => by rw [cm_p_ne b, cm_p_ne d, cm_p_ne c, cm_p_ne a]⟩
  have ps : rPs tx n T (cm_p (cm_p (cm_p (cm_p r 4148 0) 4153 0) 4154 0) 4149 0) ([], false) [] := ⟨h.fg gf, ⟨by rw [cm_p_ne (by decide), cm_p_ne (by decide), cm_p_ne (by decide), cm_p_at]; rfl, by rw [cm_p_ne (by decide), cm_p_ne (by decide), cm_p_at]; rfl, by rw [cm_p_ne (by decide), cm_p_at]; decide, trivial⟩, cm_p_at, trivial⟩
  generalize cm_p (cm_p (cm_p (cm_p r 4148 0) 4153 0) 4154 0) 4149 0 = r0 at gf ps
  obtain ⟨r1, q1, f1, p1⟩ := QM_plan (K := []) (by decide) 5 (nNum T 1 T.2) 0 r0 ([], false) ps (by decide)
  have q1' : cm_sem 271 [.inr (.inl 41), .inl 5, .inl (nNum T 1 T.2), .inl 0] r0 = some (.inl none, r1) := q1
  rw [q1', cm_bv_o]
  have wt : tWt T = tOw T.1 (fLn T.2) + fWt T.1.1 (lbC T.1) 0 T.2 := rfl
  have ow : tOw T.1 (fLn T.2) = 0 := by simp [tOw, hT]
  have sz : tSz T = 1 + fSz T.2 := rfl
  have pt := PT_5f (tx := tx) (n := n) (o1 := some (.inl (nO T 0))) (pk := T.1.1) (c := lbC T.1) T.2 1 0 [] fa (SV_all ht T.2 1 (by decide) (by omega) fa g4) g4 k' (by decide) (by omega) (by simp only [List.length_nil]; omega)
  rw [prT_eq hT g'] at hl ⊢
  obtain ⟨r2, p2, p3, p4, q2, f2, p2'⟩ := pt ([], false) r1 none none none p1 hl
  refine ⟨r2, ?_, (gf.tr f1).tr f2, p2'.2.1⟩
  show pLp (some (.inl (nO T 0))) none none none r1 = _
  rw [q2]
  unfold pLp
  rw [cE_270_21, cF_270_21, if_neg]
  have := p2'.2.2.1
  rw [this]
  decide
/-! how long it is -/
theorem st_len (ht : tOk tx n) {g : Bool} {e : Int} (h0 : 0 ≤ e) (h1 : e ≤ n) {t : tTk} (h : lxG tx n g e = some t) (h4 : t.1 = 4) : t.2.2.1 + 2 ≤ t.2.2.2.1 := by
  have hle := blE_le ht 481 e false h0 h1
  unfold lxG lxT at h
  generalize blE tx n 481 e false = r at h hle
  obtain ⟨p, b, bad⟩ := r
  simp only at h hle
  split at h
  · split at h
    · cases h
    · cases h
      exact absurd (show (5 : Int) = 4 from h4) (by decide)
  · split at h
    · cases h
    · split at h
      · next hp =>
        split at h
        · split at h
          · cases h
          · cases h
            exact absurd (show (3 : Int) = 4 from h4) (by decide)
        · split at h
          · cases h
            simp only at h4
            split at h4 <;> exact absurd h4 (by decide)
          · split at h
            · split at h
              · cases h
              · next hm =>
                cases h
                have := stE_le (tx := tx) (n := n) (q := tA tx n p) (n - (p + 1)).toNat (p + 1) (by omega) (by omega)
                show p + 2 ≤ stE tx n (tA tx n p) (p + 1)
                omega
            · split at h
              · cases h
              · cases h
                exact absurd (show (6 : Int) = 4 from h4) (by decide)
      · cases h
        exact absurd (show (0 : Int) = 4 from h4) (by decide)
end TXb5
/-- may a token's begin be joined to what stands ahead -/
def jn (w : tok) : Bool := decide (cN (w.1.headD 0) ∨ w.1.headD 0 = 43 ∨ w.1.headD 0 = 45 ∨ w.1.headD 0 = 47)
/-- nothing is joined to what stands behind it -/
def fsh : tok → Bool
  | ([c], false) => decide (¬ (cN c ∨ c = 43 ∨ c = 45 ∨ c = 47))
  | _ => false
def cst : Bool → List tok → Int
  | _, [] => 0
  | fr, w :: ws => w.1.length + (if fr = true then 0 else if jn w = true then 1 else 0) + cst (fsh w) ws
def frs (st : oS) : Prop := st.2 = false ∧ ¬ (cN (st.1.headD (-1)) ∨ st.1.headD (-1) = 43 ∨ st.1.headD (-1) = 45 ∨ st.1.headD (-1) = 47)
theorem ems_cst : ∀ (ws : List tok) (st : oS) (fr : Bool), (fr = true → frs st) → ((ems st ws).1.length : Int) ≤ st.1.length + cst fr ws := by
  intro ws
  induction ws with
  | nil =>
    intro st fr _
    show ((st.1.length : Nat) : Int) ≤ st.1.length + 0
    omega
  | cons w ws ih =>
    intro st fr hf
    have h1 : ((emT st w).1.length : Int) ≤ st.1.length + w.1.length + (if fr = true then 0 else if jn w = true then 1 else 0) := by
      show (((pushL (sepR st (w.1.headD 0)) w.1).length : Nat) : Int) ≤ _
      rw [pushL_len]
      unfold sepR
      by_cases hj : joins st (w.1.headD 0)
      · rw [if_pos hj, List.length_cons]
        have hfr : ¬ fr = true := fun z => by
          obtain ⟨f1, f2⟩ := hf z
          unfold joins at hj
          rw [f1] at hj
          rcases hj with q | q
          · rcases q.2 with y | y
            · cases y
            · exact f2 (Or.inl y)
          · rw [q.2.1] at q
            exact f2 (Or.inr q.2.2)
        have hjn : jn w = true := by
          unfold jn
          rw [decide_eq_true_iff]
          unfold joins at hj
          rcases hj with q | q
          · exact Or.inl q.1
          · exact Or.inr q.2.2
        rw [if_neg hfr, if_pos hjn]
        omega
      · rw [if_neg hj]
        split
        · omega
        · split <;> omega
    have h2 := ih (emT st w) (fsh w) (fun z => by
      unfold fsh at z
      split at z
      · next c =>
        rw [decide_eq_true_iff] at z
        exact ⟨rfl, z⟩
      · cases z)
    show (((ems (emT st w) ws).1.length : Nat) : Int) ≤ st.1.length + (w.1.length + (if fr = true then 0 else if jn w = true then 1 else 0) + cst (fsh w) ws)
    omega
theorem cst_mn (fr : Bool) (ws : List tok) : cst fr ws ≤ cst false ws ∧ cst true ws ≤ cst fr ws := by
  cases ws with
  | nil => exact ⟨Int.le_refl _, Int.le_refl _⟩
  | cons w ws =>
    show _ + _ + _ ≤ _ + _ + _ ∧ _ + _ + _ ≤ _ + _ + _
    rw [if_neg (show ¬ false = true by decide), if_pos (show true = true from rfl)]
    have : 0 ≤ (if jn w = true then (1 : Int) else 0) ∧ (if jn w = true then (1 : Int) else 0) ≤ 1 := by split <;> omega
    cases fr with
    | true => rw [if_pos rfl]; omega
    | false => rw [if_neg (by decide)]; omega
theorem cst_ap : ∀ (a b : List tok) (fr : Bool), a ≠ [] ∨ fr = false → cst fr (a ++ b) ≤ cst fr a + cst false b := by
  intro a
  induction a with
  | nil =>
    intro b fr h
    rcases h with h | h
    · exact absurd rfl h
    · rw [h]
      show cst false b ≤ 0 + cst false b
      omega
  | cons w a ih =>
    intro b fr _
    show _ + _ + cst (fsh w) (a ++ b) ≤ _ + _ + cst (fsh w) a + cst false b
    by_cases ha : a = []
    · subst ha
      have := (cst_mn (fsh w) b).1
      show _ + _ + cst (fsh w) b ≤ _ + _ + 0 + cst false b
      omega
    · have := ih b (fsh w) (Or.inl ha)
      omega
/-- .. whatever stands ahead -/
theorem cst_af (a b : List tok) : cst false (a ++ b) ≤ cst false a + cst false b := cst_ap a b false (Or.inr rfl)
theorem cst_at (a b : List tok) : cst true (a ++ b) ≤ cst true a + cst false b := by
  cases a with
  | nil =>
    have := (cst_mn true b).1
    show cst true b ≤ 0 + cst false b
    omega
  | cons w a => exact cst_ap (w :: a) b true (Or.inl (by intro z; cases z))
theorem cst_0 : ∀ (ws : List tok) (fr : Bool), 0 ≤ cst fr ws := by
  intro ws
  induction ws with
  | nil => intro fr; exact Int.le_refl _
  | cons w ws ih =>
    intro fr
    have := ih (fsh w)
    show 0 ≤ ((w.1.length : Nat) : Int) + (if fr = true then 0 else if jn w = true then 1 else 0) + cst (fsh w) ws
    split
    · omega
    · split <;> omega
