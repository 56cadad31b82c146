/-! ===== the reference's printer: what it writes ===== -/
def rOutA (r : cm_S) : List Int → Prop
  | [] => True
  | c :: R => r.2 68 R.length = c ∧ rOutA r R
def rOut (r : cm_S) (st : oS) : Prop := r.1 4148 = st.1.length ∧ r.1 4153 = st.1.headD 0 ∧ (r.1 4154 = 2 ∨ r.1 4154 = 4 ↔ st.2 = true) ∧ rOutA r st.1
/-- .. but for the last token's kind -/
def rOu0 (r : cm_S) (R : List Int) : Prop := r.1 4148 = R.length ∧ r.1 4153 = R.headD 0 ∧ rOutA r R
def eF (r r' : cm_S) : Prop := (∀ a : Nat, a ≠ 68 → r'.2 a = r.2 a) ∧ ∀ j : Nat, j ≠ 4148 → j ≠ 4153 → j ≠ 4154 → r'.1 j = r.1 j
theorem eF_rf (r : cm_S) : eF r r := ⟨fun _ _ => rfl, fun _ _ _ _ => rfl⟩
theorem eF.tr {r r' r'' : cm_S} (h : eF r r') (h' : eF r' r'') : eF r r'' := ⟨fun a ha => (h'.1 a ha).trans (h.1 a ha), fun j a b c => (h'.2 j a b c).trans (h.2 j a b c)⟩
theorem rOutA_fr {s s' : cm_S} : ∀ (R : List Int), (∀ i, i < (R.length : Int) → s'.2 68 i = s.2 68 i) → rOutA s R → rOutA s' R
  | [], _, _ => trivial
  | c :: R, h, ⟨h1, h2⟩ => by
    have hl : ((R.length : Nat) : Int) < ((c :: R).length : Nat) := by rw [List.length_cons]; omega
    exact ⟨(h _ hl).trans h1, rOutA_fr R (fun i hi => h i (by omega)) h2⟩
theorem r_274 {r : cm_S} {R : List Int} (h : rOu0 r R) (h9 : R.length < 1024) {c : Int} (hc : 0 ≤ c ∧ c < 128) : ∃ r', cm_sem 274 [.inr (.inl 41), .inl c] r = some (.inl none, r') ∧ eF r r' ∧ r'.1 4154 = r.1 4154 ∧ rOu0 r' (c :: R) := by
  obtain ⟨h1, h2, h3⟩ := h
  rw [cS_274, cF_274_0, if_pos (by omega), if_pos (by omega), if_pos (by omega), cm_w_id (by omega) (by omega)]
  refine ⟨_, rfl, ⟨fun a ha => by rw [cm_p_row, cm_p_row, cm_q_ne ha], fun j a b c => by rw [cm_p_ne b, cm_p_ne a]; rfl⟩, by rw [cm_p_ne (by decide), cm_p_ne (by decide)]; rfl, ?_, cm_p_at, ?_, ?_⟩
  · rw [cm_p_ne (by decide), cm_p_at, List.length_cons, h1]
    omega
  · show (cm_p (cm_p (cm_q r 68 (r.1 4148) c) 4148 (r.1 4148 + 1)) 4153 c).2 68 R.length = c
    rw [cm_p_row, cm_p_row, cm_q_at, if_pos h1.symm]
  · refine rOutA_fr (s := r) _ (fun i hi => ?_) h3
    rw [cm_p_row, cm_p_row, cm_q_at, if_neg (by omega)]
theorem r_273 {r : cm_S} {st : oS} (h : rOut r st) {c : Int} (h9 : (sepR st c).length ≤ 1024) : ∃ r', cm_sem 273 [.inr (.inl 41), .inl c] r = some (.inl none, r') ∧ eF r r' ∧ rOu0 r' (sepR st c) := by
  obtain ⟨h1, h2, h3, h4⟩ := h
  have hl := sepR_len st c
  have hd : ∀ d : Int, cN d ∨ d = 43 ∨ d = 45 ∨ d = 47 → (st.1.headD 0 = d ↔ st.1.headD (-1) = d) := fun d q => by
    cases hR : st.1 with
    | nil =>
      have a : ([] : List Int).headD 0 = 0 := rfl
      have b : ([] : List Int).headD (-1) = -1 := rfl
      rw [a, b]
      constructor <;> (intro z; omega)
    | cons x R => exact Iff.rfl
  have hN : cN (st.1.headD 0) ↔ cN (st.1.headD (-1)) := by
    cases hR : st.1 with
    | nil =>
      have a : ([] : List Int).headD 0 = 0 := rfl
      have b : ([] : List Int).headD (-1) = -1 := rfl
      rw [a, b]
      constructor <;> (intro z; omega)
    | cons x R => exact Iff.rfl
  have sp : joins st c → ∃ r', (cm_bv (cm_sem 274 [.inr (.inl 41), .inl 32] r) fun s3 => some (.inl none, s3)) = some (.inl none, r') ∧ eF r r' ∧ rOu0 r' (sepR st c) := fun hj => by
    have e : sepR st c = 32 :: st.1 := if_pos hj
    have l2 : (sepR st c).length = st.1.length + 1 := by rw [e, List.length_cons]
    obtain ⟨r', e1, e2, e3, e4⟩ := r_274 (r := r) ⟨h1, h2, h4⟩ (by omega) (c := 32) (by decide)
    rw [e1, cm_bv_o]
    exact ⟨_, rfl, e2, by rw [e]; exact e4⟩
  have ns : ¬ joins st c → ∃ r', (some (.inl none, r) : Option cm_R) = some (.inl none, r') ∧ eF r r' ∧ rOu0 r' (sepR st c) := fun hj => by
    have e : sepR st c = st.1 := if_neg hj
    exact ⟨_, rfl, eF_rf r, by rw [e]; exact ⟨h1, h2, h4⟩⟩
  rw [cS_273, cF_273_0, cs_187, cm_bi_i]
  simp only [cm_b0]
  unfold joins at sp ns
  by_cases hc : cN c
  · rw [if_neg (fun z => z hc), cs_187, cm_bi_i]
    simp only [cm_b0, h2]
    by_cases hn : cN (st.1.headD 0)
    · rw [if_neg (fun z => z hn)]
      exact sp (Or.inl ⟨hc, Or.inr (hN.mp hn)⟩)
    · rw [if_pos hn]
      by_cases t2 : r.1 4154 = 2
      · rw [if_pos t2]
        exact sp (Or.inl ⟨hc, Or.inl (h3.mp (Or.inl t2))⟩)
      rw [if_neg t2]
      by_cases t4 : r.1 4154 = 4
      · rw [if_pos t4]
        exact sp (Or.inl ⟨hc, Or.inl (h3.mp (Or.inr t4))⟩)
      rw [if_neg t4]
      have no : ¬ (cN c ∧ (st.2 = true ∨ cN (st.1.headD (-1))) ∨ ¬ cN c ∧ c = st.1.headD (-1) ∧ (c = 43 ∨ c = 45 ∨ c = 47)) := fun q => by
        rcases q with q | q
        · rcases q.2 with q | q
          · rcases h3.mpr q with z | z
            · exact t2 z
            · exact t4 z
          · exact hn (hN.mpr q)
        · exact q.1 hc
      have z43 : ¬ c = 43 := by omega
      have z45 : ¬ c = 45 := by omega
      have z47 : ¬ c = 47 := by omega
      simp only [if_neg z43, if_neg z45, if_neg z47]
      by_cases he : st.1.headD 0 = c
      · rw [if_pos he]
        exact ns no
      · rw [if_neg he]
        exact ns no
  · rw [if_pos hc, h2]
    by_cases he : st.1.headD 0 = c
    · rw [if_pos he]
      by_cases h43 : c = 43
      · rw [if_pos h43]
        exact sp (Or.inr ⟨hc, ((hd c (by omega)).mp he).symm, Or.inl h43⟩)
      rw [if_neg h43]
      by_cases h45 : c = 45
      · rw [if_pos h45]
        exact sp (Or.inr ⟨hc, ((hd c (by omega)).mp he).symm, Or.inr (Or.inl h45)⟩)
      rw [if_neg h45]
      by_cases h47 : c = 47
      · rw [if_pos h47]
        exact sp (Or.inr ⟨hc, ((hd c (by omega)).mp he).symm, Or.inr (Or.inr h47)⟩)
      rw [if_neg h47]
      exact ns fun q => by
        rcases q with q | q
        · exact hc q.1
        · omega
    · rw [if_neg he]
      exact ns fun q => by
        rcases q with q | q
        · exact hc q.1
        · exact he ((hd c (by omega)).mpr q.2.1.symm)
/-- the run x writes the tokens ws -/
def QE (r : cm_S) (x : Option cm_R) (st : oS) (ws : List tok) : Prop := rOut r st → (ems st ws).1.length ≤ 1024 → ∃ r', x = some (.inl none, r') ∧ eF r r' ∧ rOut r' (ems st ws)
theorem rOut_t {r : cm_S} {R : List Int} (h : rOu0 r R) {z : Int} {b : Bool} (hz : z = 2 ∨ z = 4 ↔ b = true) : rOut (cm_p r 4154 z) (R, b) := ⟨by rw [cm_p_ne (by decide)]; exact h.1, by rw [cm_p_ne (by decide)]; exact h.2.1, by rw [cm_p_at]; exact hz, rOutA_fr (s := r) _ (fun _ _ => rfl) h.2.2⟩
theorem eF_t {r r' : cm_S} (h : eF r r') (z : Int) : eF r (cm_p r' 4154 z) := ⟨h.1, fun j a b c => by rw [cm_p_ne c]; exact h.2 j a b c⟩
abbrev sgC : List Int := [40, 41, 44, 46, 58, 59, 61, 63, 91, 93, 123, 125]
theorem sgC_f : ∀ c ∈ sgC, cm_and (cm_shr c (cm_w (8 * (cm_w (1 - 1))))) 255 = c ∧ cm_and (cm_shr c (cm_w (8 * 0))) 255 = c ∧ 33 ≤ c ∧ c ≤ 126 := by decide
theorem QE_sign {r : cm_S} {st : oS} {c : Int} (hc : c ∈ sgC) : QE r (cm_sem 272 [.inr (.inl 41), .inl c] r) st [([c], false)] := fun ho hl => by
  obtain ⟨c1, c2, c3, c4⟩ := sgC_f c hc
  have hl' : (c :: sepR st c).length ≤ 1024 := hl
  rw [List.length_cons] at hl'
  rw [cS_272, cF_272_0, cS_197, cF_197_0, if_neg (by omega), if_neg (by omega), if_neg (by omega), cm_bi_i, c1]
  obtain ⟨r1, e1, f1, o1⟩ := r_273 ho (c := c) (by omega)
  have w0 : cm_w (1 - 1) = 0 := by decide
  rw [e1, cm_bv_o, w0, cE_272_19, cF_272_19, if_neg (by decide), c2]
  obtain ⟨r2, e2, f2, t2, o2⟩ := r_274 o1 (by omega) (c := c) (by omega)
  have w1 : cm_w (0 + (-1)) = -1 := by decide
  rw [e2, cm_bv_o, w1, cE_272_19, cF_272_19, if_pos (by decide)]
  exact ⟨_, rfl, eF_t (f1.tr f2) c, rOut_t o2 (by constructor <;> intro z <;> first | omega | cases z)⟩
/-! words -/
def wdC (w k : Nat) : Int := cm_w (96 + (cm_w (cm_land (cm_lshr (cm_kr 42 w) (cm_w (5 * (k : Int)))) 31)))
theorem wd_chk : ∀ w : Nat, w < 27 → (∀ k : Nat, k < 11 → (0 < (if (cm_lshr (cm_kr 42 w) (cm_w (5 * (k : Int)))) < 0 then (-1 : Int) else if (cm_lshr (cm_kr 42 w) (cm_w (5 * (k : Int)))) = 0 then 0 else 1) ↔ k < (wdS.getD w []).length)) ∧ (∀ k : Nat, k < (wdS.getD w []).length → wdC w k = (wdS.getD w []).getD ((wdS.getD w []).length - 1 - k) 0 ∧ 0 ≤ wdC w k ∧ wdC w k < 128) ∧ 1 ≤ (wdS.getD w []).length ∧ (wdS.getD w []).length ≤ 10 := by decide +kernel
theorem rl_275a {r : cm_S} {w : Nat} (hw : w < 27) (o3 o4 : Option cm_V) : ∀ (d k : Nat), k + d = (wdS.getD w []).length → cm_lp cm_sem cm_k275 3 [some (.inr (.inl 41)), some (.inl w), some (.inl k), o3, o4] [] r = cm_lp cm_sem cm_k275 21 [some (.inr (.inl 41)), some (.inl w), some (.inl ((wdS.getD w []).length : Nat)), some (.inl ((wdS.getD w []).length - 1 : Int)), o4] [] r := by
  obtain ⟨a1, a2, a3, a4⟩ := wd_chk w hw
  generalize (wdS.getD w []).length = L at *
  intro d
  induction d with
  | zero =>
    intro k hk
    rw [cE_275_3, cF_275_3, if_pos (by omega), if_neg (fun z => by have := (a1 k (by omega)).mp z; omega), cm_w_id (by omega) (by omega)]
    rw [show k = L by omega]
  | succ d ih =>
    intro k hk
    rw [cE_275_3, cF_275_3, if_pos (by omega), if_pos ((a1 k (by omega)).mpr (by omega)), cm_w_id (by omega) (by omega)]
    exact ih (k + 1) (by omega)
theorem rl_275b {w : Nat} (hw : w < 27) : ∀ (k : Nat) (r : cm_S) (R : List Int) (o4 : Option cm_V), k + 1 < (wdS.getD w []).length + 1 → k < (wdS.getD w []).length - 1 ∨ k = 0 ∧ (wdS.getD w []).length = 1 → rOu0 r R → (pushL R ((wdS.getD w []).drop ((wdS.getD w []).length - 1 - k))).length ≤ 1024 → (k < (wdS.getD w []).length - 1) → ∃ r', cm_lp cm_sem cm_k275 21 [some (.inr (.inl 41)), some (.inl w), some (.inl ((wdS.getD w []).length : Nat)), some (.inl k), o4] [] r = some (.inl none, r') ∧ eF r r' ∧ rOut r' (pushL R ((wdS.getD w []).drop ((wdS.getD w []).length - 1 - k)), false) := by
  obtain ⟨a1, a2, a3, a4⟩ := wd_chk w hw
  intro k
  induction k with
  | zero =>
    intro r R o4 h1 _ ho hl hk
    obtain ⟨b1, b2, b3⟩ := a2 0 (by omega)
    have dr : (wdS.getD w []).drop ((wdS.getD w []).length - 1 - 0) = [wdC w 0] := by
      rw [cm_drop (show (wdS.getD w []).length - 1 - 0 < (wdS.getD w []).length by omega), ← b1, List.drop_eq_nil_iff.mpr (by omega)]
    rw [dr] at hl ⊢
    have hl' : (wdC w 0 :: R).length ≤ 1024 := hl
    rw [List.length_cons] at hl'
    obtain ⟨r1, e1, f1, t1, o1⟩ := r_274 ho (by omega) (c := wdC w 0) ⟨b2, b3⟩
    have e1' : cm_sem 274 [.inr (.inl 41), .inl (cm_w (96 + (cm_w (cm_land (cm_lshr (cm_kr 42 (w : Int)) (cm_w (5 * ((0 : Nat) : Int)))) 31))))] r = some (.inl none, r1) := e1
    rw [cE_275_21, cF_275_21, if_neg (by omega), if_pos (by omega), if_neg (by rw [cm_w_id (by omega) (by omega)]; omega), e1', cm_bv_o]
    have w1 : cm_w (((0 : Nat) : Int) + (-1)) = -1 := by decide
    rw [w1, cE_275_21, cF_275_21, if_pos (by decide), cm_w_id (by omega) (by omega)]
    exact ⟨_, rfl, eF_t f1 _, rOut_t o1 (by constructor <;> intro z <;> first | omega | cases z)⟩
  | succ k ih =>
    intro r R o4 h1 _ ho hl hk
    obtain ⟨b1, b2, b3⟩ := a2 (k + 1) (by omega)
    have dr : (wdS.getD w []).drop ((wdS.getD w []).length - 1 - (k + 1)) = wdC w (k + 1) :: (wdS.getD w []).drop ((wdS.getD w []).length - 1 - k) := by
      rw [cm_drop (show (wdS.getD w []).length - 1 - (k + 1) < (wdS.getD w []).length by omega), ← b1, show (wdS.getD w []).length - 1 - (k + 1) + 1 = (wdS.getD w []).length - 1 - k by omega]
    rw [dr] at hl ⊢
    have hl' : (pushL (wdC w (k + 1) :: R) ((wdS.getD w []).drop ((wdS.getD w []).length - 1 - k))).length ≤ 1024 := hl
    have pl := pushL_len ((wdS.getD w []).drop ((wdS.getD w []).length - 1 - k)) (wdC w (k + 1) :: R)
    rw [List.length_cons] at pl
    obtain ⟨r1, e1, f1, t1, o1⟩ := r_274 ho (by omega) (c := wdC w (k + 1)) ⟨b2, b3⟩
    have e1' : cm_sem 274 [.inr (.inl 41), .inl (cm_w (96 + (cm_w (cm_land (cm_lshr (cm_kr 42 (w : Int)) (cm_w (5 * ((k + 1 : Nat) : Int)))) 31))))] r = some (.inl none, r1) := e1
    rw [cE_275_21, cF_275_21, if_neg (by omega), if_pos (by omega), if_neg (by rw [cm_w_id (by omega) (by omega)]; omega), e1', cm_bv_o]
    have w1 : cm_w (((k + 1 : Nat) : Int) + (-1)) = (k : Nat) := by rw [cm_w_id (by omega) (by omega)]; omega
    rw [w1]
    obtain ⟨r2, e2, f2, o2⟩ := ih r1 (wdC w (k + 1) :: R) (some (.inl (cm_w (96 + (cm_w (cm_land (cm_lshr (cm_kr 42 (w : Int)) (cm_w (5 * ((k + 1 : Nat) : Int)))) 31)))))) (by omega) (Or.inl (by omega)) o1 hl' (by omega)
    exact ⟨r2, e2, f1.tr f2, o2⟩
theorem getD_inL {l : List (List Int)} {j : Nat} (h : j < l.length) : l.getD j [] ∈ l := by
  rw [List.getD_eq_getElem?_getD, List.getElem?_eq_getElem h]
  exact List.getElem_mem h
theorem QE_word {r : cm_S} {st : oS} {w : Nat} (hw : w < 27) : QE r (cm_sem 275 [.inr (.inl 41), .inl w] r) st [(wdS.getD w [], false)] := fun ho hl => by
  obtain ⟨a1, a2, a3, a4⟩ := wd_chk w hw
  rw [cS_275, cF_275_0]
  have go := rl_275a (r := r) hw none none (wdS.getD w []).length 0 (by omega)
  have go' : cm_lp cm_sem cm_k275 3 [some (.inr (.inl 41)), some (.inl (w : Int)), some (.inl 0), none, none] [] r = _ := go
  rw [go']
  obtain ⟨k, hk⟩ : ∃ k, (wdS.getD w []).length = k + 1 := ⟨(wdS.getD w []).length - 1, by omega⟩
  have l27 : wdS.length = 27 := by decide
  have k2 := wd_len (wdS.getD w []) (getD_inL (by omega))
  obtain ⟨b1, b2, b3⟩ := a2 k (by omega)
  have dr : wdS.getD w [] = wdC w k :: (wdS.getD w []).drop 1 := by
    have := cm_drop (l := wdS.getD w []) (j := 0) (by omega)
    rw [List.drop_zero] at this
    rw [b1, show (wdS.getD w []).length - 1 - k = 0 by omega]
    exact this
  have hd : (wdS.getD w []).headD 0 = wdC w k := by rw [dr]; rfl
  have e : ems st [(wdS.getD w [], false)] = (pushL (wdC w k :: sepR st (wdC w k)) ((wdS.getD w []).drop 1), false) := by
    show (pushL (sepR st ((wdS.getD w []).headD 0)) (wdS.getD w []), false) = _
    rw [hd]
    conv => lhs; rw [dr]
    rfl
  rw [e] at hl ⊢
  have pl := pushL_len ((wdS.getD w []).drop 1) (wdC w k :: sepR st (wdC w k))
  rw [List.length_cons] at pl
  have hl2 : (pushL (wdC w k :: sepR st (wdC w k)) ((wdS.getD w []).drop 1)).length ≤ 1024 := hl
  obtain ⟨r1, e1, f1, o1⟩ := r_273 ho (c := wdC w k) (by omega)
  obtain ⟨r2, e2, f2, t2, o2⟩ := r_274 o1 (by omega) (c := wdC w k) ⟨b2, b3⟩
  have kc : (((wdS.getD w []).length : Int) - 1) = (k : Nat) := by omega
  rw [kc]
  have e1' : cm_sem 273 [.inr (.inl 41), .inl (cm_w (96 + (cm_w (cm_land (cm_lshr (cm_kr 42 (w : Int)) (cm_w (5 * (k : Int)))) 31))))] r = some (.inl none, r1) := e1
  have e2' : cm_sem 274 [.inr (.inl 41), .inl (cm_w (96 + (cm_w (cm_land (cm_lshr (cm_kr 42 (w : Int)) (cm_w (5 * (k : Int)))) 31))))] r1 = some (.inl none, r2) := e2
  rw [cE_275_21, cF_275_21, if_neg (by omega), if_pos (by omega), if_pos (by rw [cm_w_id (by omega) (by omega)]; omega), e1', cm_bv_o, e2', cm_bv_o]
  obtain ⟨k', rfl⟩ : ∃ k', k = k' + 1 := ⟨k - 1, by omega⟩
  have w1 : cm_w (((k' + 1 : Nat) : Int) + (-1)) = (k' : Nat) := by rw [cm_w_id (by omega) (by omega)]; omega
  rw [w1]
  have d1 : (wdS.getD w []).length - 1 - k' = 1 := by omega
  obtain ⟨r3, e3, f3, o3⟩ := rl_275b hw k' r2 (wdC w (k' + 1) :: sepR st (wdC w (k' + 1))) _ (by omega) (Or.inl (by omega)) o2 (by rw [d1]; exact hl2) (by omega)
  rw [d1] at o3
  exact ⟨r3, e3, (f1.tr f2).tr f3, o3⟩
