/-! ===== printing: tokens, what is written; the class's put(), putText() ===== -/
/-- a token: its characters, and whether it is a number or a pattern -/
abbrev tok : Type := List Int × Bool
/-- what is written, the last character first; whether the last token is a number or a pattern -/
abbrev oS : Type := List Int × Bool
abbrev joins (st : oS) (c : Int) : Prop := cN c ∧ (st.2 = true ∨ cN (st.1.headD (-1))) ∨ ¬ cN c ∧ c = st.1.headD (-1) ∧ (c = 43 ∨ c = 45 ∨ c = 47)
def pushL : List Int → List Int → List Int
  | R, [] => R
  | R, c :: w => pushL (c :: R) w
def sepR (st : oS) (c : Int) : List Int := if joins st c then 32 :: st.1 else st.1
def emT (st : oS) (w : tok) : oS := (pushL (sepR st (w.1.headD 0)) w.1, w.2)
def ems : oS → List tok → oS
  | st, [] => st
  | st, w :: ws => ems (emT st w) ws
theorem ems_ap : ∀ (a b : List tok) (st : oS), ems st (a ++ b) = ems (ems st a) b
  | [], _, _ => rfl
  | w :: a, b, st => ems_ap a b (emT st w)
theorem pushL_len : ∀ (w R : List Int), (pushL R w).length = R.length + w.length
  | [], _ => rfl
  | c :: w, R => by
    show (pushL (c :: R) w).length = _
    rw [pushL_len w, List.length_cons, List.length_cons]
    omega
theorem sepR_len (st : oS) (c : Int) : st.1.length ≤ (sepR st c).length ∧ (sepR st c).length ≤ st.1.length + 1 := by
  unfold sepR
  split
  · rw [List.length_cons]; omega
  · omega
theorem emT_len (st : oS) (w : tok) : st.1.length + w.1.length ≤ (emT st w).1.length := by
  have := sepR_len st (w.1.headD 0)
  show _ ≤ (pushL _ w.1).length
  rw [pushL_len]
  omega
theorem ems_len : ∀ (ws : List tok) (st : oS), st.1.length ≤ (ems st ws).1.length
  | [], _ => Nat.le_refl _
  | w :: ws, st => by
    have := emT_len st w
    have := ems_len ws (emT st w)
    show _ ≤ (ems (emT st w) ws).1.length
    omega
def cOutA (s : cm_S) : List Int → Prop
  | [] => True
  | c :: R => s.2 38 R.length = c ∧ cOutA s R
def cOut (s : cm_S) (st : oS) : Prop := s.1 3706 = st.1.length ∧ s.1 3705 = cm_n st.2 ∧ cOutA s st.1
/-- nothing but what is written has changed -/
def pF (s s' : cm_S) : Prop := (∀ a : Nat, a ≠ 38 → s'.2 a = s.2 a) ∧ ∀ j : Nat, j ≠ 3705 → j ≠ 3706 → s'.1 j = s.1 j
theorem pF_rf (s : cm_S) : pF s s := ⟨fun _ _ => rfl, fun _ _ _ => rfl⟩
theorem pF.tr {s s' s'' : cm_S} (h : pF s s') (h' : pF s' s'') : pF s s'' := ⟨fun a ha => (h'.1 a ha).trans (h.1 a ha), fun j a b => (h'.2 j a b).trans (h.2 j a b)⟩
theorem cOutA_fr {s s' : cm_S} : ∀ (R : List Int), (∀ i, i < (R.length : Int) → s'.2 38 i = s.2 38 i) → cOutA s R → cOutA s' R
  | [], _, _ => trivial
  | c :: R, h, ⟨h1, h2⟩ => by
    have hl : ((R.length : Nat) : Int) < ((c :: R).length : Nat) := by rw [List.length_cons]; omega
    exact ⟨(h _ hl).trans h1, cOutA_fr R (fun i hi => h i (by omega)) h2⟩
theorem c_158 {s : cm_S} {st : oS} (h : cOut s st) (h9 : st.1.length < 1024) {c : Int} (hc : 0 ≤ c ∧ c < 65536) : ∃ s', cm_sem 158 [.inr (.inl 37), .inl c] s = some (.inl none, s') ∧ pF s s' ∧ cOut s' (c :: st.1, st.2) := by
  obtain ⟨h1, h2, h3⟩ := h
  rw [cS_158, cF_158_0, if_neg (by omega), if_pos (by omega), if_pos hc, if_pos (by omega), if_pos hc, cm_w_id (by omega) (by omega)]
  refine ⟨_, rfl, ⟨fun a ha => by rw [cm_p_row, cm_q_ne ha], fun j a b => by rw [cm_p_ne b]; rfl⟩, ?_, ?_, ?_, ?_⟩
  · rw [cm_p_at, List.length_cons, h1]
    omega
  · rw [cm_p_ne (by decide)]; exact h2
  · show (cm_p (cm_q s 38 (s.1 3706) c) 3706 (s.1 3706 + 1)).2 38 st.1.length = c
    rw [cm_p_row, cm_q_at, if_pos h1.symm]
  · refine cOutA_fr (s := s) _ (fun i hi => ?_) h3
    rw [cm_p_row, cm_q_at, if_neg (by omega)]
theorem c_18 {s : cm_S} {st : oS} (h : cOut s st) (h9 : st.1.length ≤ 1024) : cm_sem 18 [.inr (.inl 37), .inl (cm_w (s.1 3706 - 1))] s = some (.inl (some (.inl (st.1.headD (-1)))), s) := by
  obtain ⟨h1, h2, h3⟩ := h
  rw [cm_w_id (by omega) (by omega), cS_18, cF_18_0]
  cases hR : st.1 with
  | nil =>
    rw [hR] at h1
    have h1' : s.1 3706 = 0 := h1
    rw [if_pos (by omega)]
    rfl
  | cons c R =>
    rw [hR] at h1 h3 h9
    rw [List.length_cons] at h1 h9
    rw [if_neg (by omega), if_pos (by omega), if_pos (by omega), if_pos (by omega), show s.1 3706 - 1 = (R.length : Int) by omega, h3.1]
    rfl
theorem cOut_l {s : cm_S} {st : oS} (h : cOut s st) (b : Bool) : cOut (cm_p s 3705 (cm_n b)) (st.1, b) := ⟨by rw [cm_p_ne (by decide)]; exact h.1, cm_p_at, cOutA_fr (s := s) _ (fun _ _ => rfl) h.2.2⟩
theorem pF_l {s s' : cm_S} (h : pF s s') (z : Int) : pF s (cm_p s' 3705 z) := ⟨h.1, fun j a b => by rw [cm_p_ne a]; exact h.2 j a b⟩
theorem c_157 {s : cm_S} {st : oS} (h : cOut s st) {c : Int} (h9 : (sepR st c).length < 1024) : ∃ s', cm_sem 157 [.inr (.inl 37), .inl c] s = some (.inl none, s') ∧ pF s s' ∧ cOut s' (sepR st c, false) := by
  have hl := sepR_len st c
  have sp : joins st c → ∃ s', (cm_bv (cm_sem 158 [.inr (.inl 37), .inl 32] s) fun s3 => some (.inl none, cm_p s3 3705 0)) = some (.inl none, s') ∧ pF s s' ∧ cOut s' (sepR st c, false) := fun hj => by
    obtain ⟨s', e1, e2, e3⟩ := c_158 h (by omega) (c := 32) (by decide)
    rw [e1, cm_bv_o]
    refine ⟨_, rfl, pF_l e2 0, ?_⟩
    unfold sepR
    rw [if_pos hj]
    exact cOut_l e3 false
  have ns : ¬ joins st c → ∃ s', (some (.inl none, cm_p s 3705 0) : Option cm_R) = some (.inl none, s') ∧ pF s s' ∧ cOut s' (sepR st c, false) := fun hj => by
    refine ⟨_, rfl, pF_l (pF_rf s) 0, ?_⟩
    unfold sepR
    rw [if_neg hj]
    exact cOut_l h false
  have h5 := h.2.1
  rw [cS_157, cF_157_0, c_18 h (by omega), cm_bi_i, cs_37, cm_bi_i]
  simp only [cm_b0]
  unfold joins at sp ns
  by_cases hc : cN c
  · rw [if_neg (fun z => z hc), h5]
    cases h2 : st.2 with
    | false =>
      rw [if_pos (by decide), cs_37, cm_bi_i]
      simp only [cm_b0]
      by_cases hd : cN (st.1.headD (-1))
      · rw [if_neg (fun z => z hd)]
        exact sp (Or.inl ⟨hc, Or.inr hd⟩)
      · rw [if_pos hd]
        exact ns fun q => by
          rcases q with q | q
          · rcases q.2 with q | q
            · rw [h2] at q; cases q
            · exact hd q
          · exact q.1 hc
    | true =>
      rw [if_neg (by decide)]
      exact sp (Or.inl ⟨hc, Or.inl h2⟩)
  · rw [if_pos hc]
    have n2 : ¬ (c = st.1.headD (-1) ∧ (c = 43 ∨ c = 45 ∨ c = 47)) → ¬ (cN c ∧ (st.2 = true ∨ cN (st.1.headD (-1))) ∨ ¬ cN c ∧ c = st.1.headD (-1) ∧ (c = 43 ∨ c = 45 ∨ c = 47)) := fun a q => by
      rcases q with q | q
      · exact hc q.1
      · exact a q.2
    by_cases he : c = st.1.headD (-1)
    · rw [if_pos he]
      by_cases h43 : c = 43
      · rw [if_pos h43]
        exact sp (Or.inr ⟨hc, he, Or.inl h43⟩)
      rw [if_neg h43]
      by_cases h45 : c = 45
      · rw [if_pos h45]
        exact sp (Or.inr ⟨hc, he, Or.inr (Or.inl h45)⟩)
      rw [if_neg h45]
      by_cases h47 : c = 47
      · rw [if_pos h47]
        exact sp (Or.inr ⟨hc, he, Or.inr (Or.inr h47)⟩)
      rw [if_neg h47]
      exact ns (n2 fun q => by omega)
    · rw [if_neg he]
      exact ns (n2 fun q => he q.1)
/-- the run x writes the tokens ws -/
def PM (s : cm_S) (x : Option cm_R) (st : oS) (ws : List tok) : Prop := cOut s st → (ems st ws).1.length ≤ 1024 → ∃ s', x = some (.inl none, s') ∧ pF s s' ∧ cOut s' (ems st ws)
theorem PM_ret {s : cm_S} {st : oS} : PM s (some (.inl none, s)) st [] := fun h _ => ⟨s, rfl, pF_rf s, h⟩
theorem PM_bv {s : cm_S} {x : Option cm_R} {st : oS} {a b : List tok} {f : cm_S → Option cm_R} (h1 : PM s x st a) (h2 : ∀ s', pF s s' → PM s' (f s') (ems st a) b) : PM s (cm_bv x f) st (a ++ b) := fun hc hl => by
  rw [ems_ap] at hl ⊢
  have := ems_len b (ems st a)
  obtain ⟨s1, e1, f1, c1⟩ := h1 hc (by omega)
  obtain ⟨s2, e2, f2, c2⟩ := h2 s1 f1 c1 hl
  exact ⟨s2, by rw [e1, cm_bv_o, e2], f1.tr f2, c2⟩
theorem PM_tl {s : cm_S} {x : Option cm_R} {st : oS} {a : List tok} (h1 : PM s x st a) : PM s (cm_bv x fun s1 => some (.inl none, s1)) st a := by
  have := PM_bv h1 (b := []) (f := fun s1 => some (.inl none, s1)) fun s' _ => PM_ret
  rw [List.append_nil] at this
  exact this
theorem PM_ite {s : cm_S} {c : Prop} [Decidable c] {A B : Option cm_R} {st : oS} {a b : List tok} (h1 : c → PM s A st a) (h2 : ¬ c → PM s B st b) : PM s (if c then A else B) st (if c then a else b) := by
  by_cases h : c
  · rw [if_pos h, if_pos h]; exact h1 h
  · rw [if_neg h, if_neg h]; exact h2 h
/-- a token of the class's own -/
def kTok (p : Nat) : tok := (cm_kT.getD (p - 1000) [], false)
theorem getD_in {l : List Int} {j : Nat} (h : j < l.length) : l.getD j 0 ∈ l := by
  rw [List.getD_eq_getElem?_getD, List.getElem?_eq_getElem h]
  exact List.getElem_mem h
theorem cl_156 {p : Nat} (hp : ∀ c ∈ cm_kT.getD (p - 1000) [], 0 ≤ c ∧ c < 65536) (hl : (cm_kT.getD (p - 1000) []).length ≤ 100) : ∀ (w : List Int) (j : Nat) (s : cm_S) (st : oS), (cm_kT.getD (p - 1000) []).drop j = w → cOut s st → (pushL st.1 w).length ≤ 1024 → ∃ s', cm_lp cm_sem cm_k156 12 [some (.inr (.inl 37)), some (.inr (.inl p)), some (.inl j)] [] s = some (.inl none, s') ∧ pF s s' ∧ cOut s' (pushL st.1 w, st.2) := by
  intro w
  induction w with
  | nil =>
    intro j s st hd hc _
    have : (cm_kT.getD (p - 1000) []).length ≤ j := List.drop_eq_nil_iff.mp hd
    rw [cE_156_12, cF_156_12, if_neg (by unfold cm_kn; omega)]
    exact ⟨s, rfl, pF_rf s, hc⟩
  | cons c w ih =>
    intro j s st hd hc hl9
    have hj : j < (cm_kT.getD (p - 1000) []).length := by
      have : (cm_kT.getD (p - 1000) []).drop j ≠ [] := by rw [hd]; intro z; cases z
      exact Nat.lt_of_not_le fun z => this (List.drop_eq_nil_iff.mpr z)
    have hd2 := cm_drop hj
    rw [hd] at hd2
    obtain ⟨hc1, hw⟩ := List.cons.inj hd2
    have pl := pushL_len w (c :: st.1)
    rw [List.length_cons] at pl
    have hl' : (pushL (c :: st.1) w).length ≤ 1024 := hl9
    have ka : cm_ka p (j : Int) = c := by
      unfold cm_ka
      rw [hc1]
      rfl
    have cb := hp c (by rw [hc1]; exact getD_in hj)
    rw [cE_156_12, cF_156_12, if_pos (by unfold cm_kn; omega), if_pos (by unfold cm_kn; omega), ka, cm_w_id (by omega) (by omega)]
    obtain ⟨s1, e1, f1, c1⟩ := c_158 hc (by omega) cb
    rw [e1, cm_bv_o]
    obtain ⟨s2, e2, f2, c2⟩ := ih (j + 1) s1 (c :: st.1, st.2) hw.symm c1 hl'
    exact ⟨s2, e2, f1.tr f2, c2⟩
theorem PM_put {s : cm_S} {st : oS} {p : Nat} (hp : 1005 ≤ p ∧ p ≤ 1036) : PM s (cm_sem 156 [.inr (.inl 37), .inr (.inl p)] s) st [kTok p] := fun hc hl => by
  have T : ∀ q : Nat, q < 32 → cm_kn (q + 1005) ≠ 0 ∧ (∀ c ∈ cm_kT.getD (q + 1005 - 1000) [], 0 ≤ c ∧ c < 65536) ∧ (cm_kT.getD (q + 1005 - 1000) []).length ≤ 100 ∧ cm_ka (q + 1005) 0 = (cm_kT.getD (q + 1005 - 1000) []).headD 0 := by decide
  obtain ⟨q, rfl⟩ : ∃ q, p = q + 1005 := ⟨p - 1005, by omega⟩
  obtain ⟨t1, t2, t3, t4⟩ := T q (by omega)
  clear T
  unfold kTok at hl ⊢
  have k1 : cm_kn (q + 1005) = ((cm_kT.getD (q + 1005 - 1000) []).length : Nat) := rfl
  have C := fun W s st h => cl_156 (p := q + 1005) t2 t3 W 0 s st h
  generalize cm_kT.getD (q + 1005 - 1000) [] = W at *
  have hl' : (pushL (sepR st (W.headD 0)) W).length ≤ 1024 := hl
  have pl := pushL_len W (sepR st (W.headD 0))
  have k0 : 0 < W.length := by omega
  rw [cS_156, cF_156_0, if_neg t1, if_pos rfl, if_pos (by omega), t4]
  obtain ⟨s1, e1, f1, c1⟩ := c_157 hc (c := W.headD 0) (by omega)
  rw [e1, cm_bv_o]
  obtain ⟨s2, e2, f2, c2⟩ := C W s1 _ rfl c1 hl'
  exact ⟨s2, e2, f1.tr f2, c2⟩
theorem PM_p1 {s : cm_S} {st : oS} {p : Nat} (hp : 1005 ≤ p ∧ p ≤ 1036) : PM s (cm_sem 155 [.inr (.inl 37), .inl 1, .inr (.inl p)] s) st [kTok p] := by
  rw [cS_155, cF_155_0, if_neg (by decide)]
  exact PM_tl (PM_put hp)
theorem PM_p0 {s : cm_S} {st : oS} {p : Nat} : PM s (cm_sem 155 [.inr (.inl 37), .inl 0, .inr (.inl p)] s) st [] := by
  rw [cS_155, cF_155_0, if_pos rfl]
  exact PM_ret
