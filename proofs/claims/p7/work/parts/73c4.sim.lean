/-! ===== one step of the second machine is one of the first ===== -/
section JOIN
variable {E y lo hi : Nat} {h0 : List va_E} {code : List Instr} {P D : List Nat}
def jLv (y lo hi : Nat) (code : List Instr) (lv : cm_L) (L : am_L) : Prop := ∀ k v, lv[k]? = some (some v) → L.lookup k = some (cm_v v) ∧ cm_ok (jnl code) lo hi v ∧ (cm_ct v = 2 → jls code k = true) ∧ (jtxl y = some k → ∃ a, v = .inr (.inl a) ∧ jtx y a = true)
def jI (y lo hi : Nat) (code : List Instr) (D : List Nat) (ix : Nat) (lv : cm_L) (L : am_L) (st : List cm_V) (s : cm_S) : Prop := jLv y lo hi code lv L ∧ (∀ v ∈ st, cm_ok (jnl code) lo hi v) ∧ jTg y code ix st ∧ cm_cs lo hi s ∧ D[ix]? = some st.length
def jR (lo hi : Nat) (h0 : List va_E) (r : cm_R) : am_R := match r.1 with
  | .inl v => (.inl (v.map cm_v), cm_mix lo hi r.2 h0, 0, 0)
  | .inr e => (.inr e, cm_mix lo hi r.2 h0, 1, 6)
def jRk (lo hi : Nat) (r : cm_R) : Prop := cm_cs lo hi r.2 ∧ ∀ z, r.1 = .inl (some (.inl z)) → cm_in z
def jC (E y lo hi : Nat) (h0 : List va_E) (pc : Nat) (L : am_L) (st : List cm_V) (s : cm_S) (r : cm_R) : Prop := jEv E y pc L (st.map cm_v) (cm_mix lo hi s h0) (jR lo hi h0 r) ∧ jRk lo hi r
def jN (E y lo hi : Nat) (h0 : List va_E) (code : List Instr) (P D : List Nat) (ix : Nat) (lv : cm_L) (st : List cm_V) (s : cm_S) (r : cm_R) : Prop := ∀ L pc, P[ix]? = some pc → jI y lo hi code D ix lv L st s → jC E y lo hi h0 pc L st s r
theorem cm_i1_eq {α : Type} {st : List cm_V} {f : Int → List cm_V → Option α} {z : α} (h : cm_i1 st f = some z) : ∃ x r, st = .inl x :: r ∧ f x r = some z := by
  unfold cm_i1 at h; split at h
  · exact ⟨_, _, rfl, h⟩
  · cases h
theorem cm_i2_eq {α : Type} {st : List cm_V} {f : Int → Int → List cm_V → Option α} {z : α} (h : cm_i2 st f = some z) : ∃ x y r, st = .inl y :: .inl x :: r ∧ f x y r = some z := by
  unfold cm_i2 at h; split at h
  · exact ⟨_, _, _, rfl, h⟩
  · cases h
theorem cm_l1_eq {α : Type} {st : List cm_V} {f : Int → List cm_V → Option α} {z : α} (h : cm_l1 st f = some z) : ∃ x r, st = .inr (.inr x) :: r ∧ f x r = some z := by
  unfold cm_l1 at h; split at h
  · exact ⟨_, _, rfl, h⟩
  · cases h
theorem cm_l2_eq {α : Type} {st : List cm_V} {f : Int → Int → List cm_V → Option α} {z : α} (h : cm_l2 st f = some z) : ∃ x y r, st = .inr (.inr y) :: .inr (.inr x) :: r ∧ f x y r = some z := by
  unfold cm_l2 at h; split at h
  · exact ⟨_, _, _, rfl, h⟩
  · cases h
theorem cm_il_eq {α : Type} {st : List cm_V} {f : Int → Int → List cm_V → Option α} {z : α} (h : cm_il st f = some z) : ∃ x y r, st = .inl y :: .inr (.inr x) :: r ∧ f x y r = some z := by
  unfold cm_il at h; split at h
  · exact ⟨_, _, _, rfl, h⟩
  · cases h
theorem cm_r1_eq {α : Type} {st : List cm_V} {f : Nat → List cm_V → Option α} {z : α} (h : cm_r1 st f = some z) : ∃ x r, st = .inr (.inl x) :: r ∧ f x r = some z := by
  unfold cm_r1 at h; split at h
  · exact ⟨_, _, rfl, h⟩
  · cases h
theorem cm_ri_eq {α : Type} {st : List cm_V} {f : Nat → Int → List cm_V → Option α} {z : α} (h : cm_ri st f = some z) : ∃ a j r, st = .inl j :: .inr (.inl a) :: r ∧ f a j r = some z := by
  unfold cm_ri at h; split at h
  · exact ⟨_, _, _, rfl, h⟩
  · cases h
theorem cm_zr_eq {α : Type} {st : List cm_V} {f : Nat → Int → List cm_V → Option α} {z : α} (h : cm_zr st f = some z) : ∃ a j r, st = .inl j :: .inr (.inl a) :: r ∧ f a j r = some z := by
  unfold cm_zr at h; split at h
  · exact ⟨_, _, _, rfl, h⟩
  · cases h
theorem cm_rr_eq {α : Type} {st : List cm_V} {f : Nat → Nat → List cm_V → Option α} {z : α} (h : cm_rr st f = some z) : ∃ a p r, st = .inr (.inl p) :: .inr (.inl a) :: r ∧ f a p r = some z := by
  unfold cm_rr at h; split at h
  · exact ⟨_, _, _, rfl, h⟩
  · cases h
theorem cm_rii_eq {α : Type} {st : List cm_V} {f : Nat → Int → Int → List cm_V → Option α} {z : α} (h : cm_rii st f = some z) : ∃ a j x r, st = .inl x :: .inl j :: .inr (.inl a) :: r ∧ f a j x r = some z := by
  unfold cm_rii at h; split at h
  · exact ⟨_, _, _, _, rfl, h⟩
  · cases h
theorem cm_dp_eq {α : Type} {st : List cm_V} {f : cm_V → List cm_V → Option α} {z : α} (h : cm_dp st f = some z) : ∃ v r, st = v :: r ∧ cm_ct v = 1 ∧ f v r = some z := by
  unfold cm_dp at h; split at h
  · exact ⟨_, _, rfl, rfl, h⟩
  · exact ⟨_, _, rfl, rfl, h⟩
  · cases h
theorem cm_e1_eq {α : Type} {st : List cm_V} {f : Int → Option α} {z : α} (h : cm_e1 st f = some z) : ∃ x, st = [.inl x] ∧ f x = some z := by
  unfold cm_e1 at h; split at h
  · exact ⟨_, rfl, h⟩
  · cases h
theorem cm_e0_eq {α : Type} {st : List cm_V} {f : Option α} {z : α} (h : cm_e0 st f = some z) : st = [] ∧ f = some z := by
  unfold cm_e0 at h; split at h
  · exact ⟨rfl, h⟩
  · cases h
theorem cm_li_eq {α : Type} {lv : cm_L} {k : Nat} {f : Int → Option α} {z : α} (h : cm_li lv k f = some z) : ∃ x, lv[k]? = some (some (.inl x)) ∧ f x = some z := by
  unfold cm_li at h; split at h
  · next x e => exact ⟨x, e, h⟩
  · cases h
theorem cm_lr_eq {α : Type} {lv : cm_L} {k : Nat} {f : Nat → Option α} {z : α} (h : cm_lr lv k f = some z) : ∃ x, lv[k]? = some (some (.inr (.inl x))) ∧ f x = some z := by
  unfold cm_lr at h; split at h
  · next x e => exact ⟨x, e, h⟩
  · cases h
theorem cm_ll_eq {α : Type} {lv : cm_L} {k : Nat} {f : Int → Option α} {z : α} (h : cm_ll lv k f = some z) : ∃ x, lv[k]? = some (some (.inr (.inr x))) ∧ f x = some z := by
  unfold cm_ll at h; split at h
  · next x e => exact ⟨x, e, h⟩
  · cases h
theorem cm_if_eq {α : Type} {c : Prop} [Decidable c] {x : Option α} {z : α} (h : (if c then x else none) = some z) : c ∧ x = some z := by
  by_cases hc : c
  · rw [if_pos hc] at h; exact ⟨hc, h⟩
  · rw [if_neg hc] at h; cases h
/-- the locals -/
theorem j_look_f {L : am_L} {p : Nat × Value → Bool} {k : Nat} {v : Value} (h : L.lookup k = some v) (hp : p (k, v) = true) : (L.filter p).lookup k = some v := by
  induction L with
  | nil => cases h
  | cons q r ih =>
    obtain ⟨i, x⟩ := q
    rw [List.lookup_cons] at h
    by_cases e : (k == i) = true
    · rw [e] at h
      have e2 : k = i := by simpa using e
      subst e2
      cases h
      rw [List.filter_cons, if_pos hp, List.lookup_cons, e]
    · rw [Bool.not_eq_true] at e
      rw [e] at h
      rw [List.filter_cons]
      split
      · rw [List.lookup_cons, e]
        exact ih h
      · exact ih h
theorem jLv_sto {lv : cm_L} {L : am_L} (h : jLv y lo hi code lv L) {k : Nat} {v : cm_V} (hs : jsto y code k = true) (hv : cm_ok (jnl code) lo hi v) (hc : cm_ct v = 1) : jLv y lo hi code (lv.set k (some v)) (am_sto L k (cm_v v)) := by
  unfold jsto at hs
  rw [Bool.and_eq_true] at hs
  intro j w hw
  by_cases hj : k = j
  · subst hj
    have hl : k < lv.length := by
      have := (List.getElem?_eq_some_iff.mp hw).1
      simpa using this
    rw [List.getElem?_set_self hl] at hw
    cases hw
    refine ⟨?_, hv, fun z => by omega, fun z => absurd z (of_decide_eq_true hs.1)⟩
    unfold am_sto
    rw [List.lookup_cons]
    simp
  · rw [List.getElem?_set_ne hj] at hw
    obtain ⟨h1, h2, h3, h4⟩ := h j w hw
    refine ⟨?_, h2, h3, h4⟩
    unfold am_sto
    rw [List.lookup_cons, show (j == k) = false by simpa using Ne.symm hj]
    apply j_look_f h1
    simp only [Bool.and_eq_true, Bool.not_eq_true', beq_eq_false_iff_ne, Bool.and_eq_false_iff]
    refine ⟨Ne.symm hj, ?_⟩
    by_cases e : j + 1 = k
    · right
      rw [cm_v_ct]
      intro z
      have z2 := h3 z
      subst e
      have := hs.2
      simp only at this
      rw [z2] at this
      cases this
    · left; exact e
theorem jLv_sto2 {lv : cm_L} {L : am_L} (h : jLv y lo hi code lv L) {k : Nat} {z : Int} (hs : jsto y code k = true) (ht : jtxl y = none) (hl : jls code k = true) (hn : jnl code = false) (hz : cm_inl z) : jLv y lo hi code ((lv.set k (some (.inr (.inr z)))).set (k + 1) none) (am_sto2 L k (.long (Int64.ofInt z))) := by
  unfold jsto at hs
  rw [Bool.and_eq_true] at hs
  intro j w hw
  by_cases hj1 : k + 1 = j
  · subst hj1
    rw [List.getElem?_set] at hw
    simp only [if_pos] at hw
    split at hw <;> cases hw
  · rw [List.getElem?_set_ne hj1] at hw
    by_cases hj : k = j
    · subst hj
      have hl2 : k < lv.length := by
        have := (List.getElem?_eq_some_iff.mp hw).1
        simpa using this
      rw [List.getElem?_set_self hl2] at hw
      cases hw
      refine ⟨?_, ⟨hn, hz⟩, fun _ => hl, fun q => by rw [ht] at q; cases q⟩
      unfold am_sto2
      rw [List.lookup_cons]
      simp [cm_v]
    · rw [List.getElem?_set_ne hj] at hw
      obtain ⟨h1, h2, h3, h4⟩ := h j w hw
      refine ⟨?_, h2, h3, h4⟩
      unfold am_sto2
      rw [List.lookup_cons, show (j == k) = false by simpa using Ne.symm hj]
      apply j_look_f h1
      simp only [Bool.and_eq_true, Bool.not_eq_true', beq_eq_false_iff_ne, Bool.and_eq_false_iff]
      refine ⟨Ne.symm hj, Ne.symm hj1, ?_⟩
      by_cases e : j + 1 = k
      · right
        rw [cm_v_ct]
        intro z
        have z2 := h3 z
        subst e
        have := hs.2
        simp only at this
        rw [z2] at this
        cases this
      · left; exact e
/-- one step that goes on at the next index -/
theorem jS {pc pc' : Nat} {i : Instr} {L L' : am_L} {lv' : cm_L} {st st' : List cm_V} {s s' : cm_S} {r : cm_R} {n : Nat} (h1 : am_thr y pc = none) (h2 : am_fc y pc = some i) (h3 : am_plain i = true) (h4 : am_isoi (am_co y) i = false) (h5 : am_cal2 (am_co y) i = none) (hn : P[n]? = some pc') (hs : am_step (am_fl (am_co y)) (am_kc (am_co y)) (am_kl (am_co y)) (am_gs2 (am_co y)) am_ro2 (am_in y) (am_mL y) i pc L (st.map cm_v) (cm_mix lo hi s h0) = some (pc', L', st'.map cm_v, cm_mix lo hi s' h0)) (hI : jI y lo hi code D n lv' L' st' s') (hN : jN E y lo hi h0 code P D n lv' st' s' r) : jC E y lo hi h0 pc L st s r :=
  ⟨jEv_step h1 h2 h3 h4 h5 hs (hN L' pc' hn hI).1, (hN L' pc' hn hI).2⟩
theorem jkv_step {c : Nat} {i : Instr} {v : Value} (h : jkv c i = some v) (nL : Nat) (ini : Bool) (pc : Nat) (L : am_L) (st : List Value) (H : List va_E) : am_step (am_fl c) (am_kc c) (am_kl c) (am_gs2 c) am_ro2 ini nL i pc L st H = some (pc + am_len i, L, v :: st, H) ∧ am_plain i = true ∧ am_isoi c i = false ∧ am_cal2 c i = none := by
  unfold jkv at h
  split at h
  · cases h; exact ⟨rfl, rfl, rfl, rfl⟩
  · cases h; exact ⟨rfl, rfl, rfl, rfl⟩
  · cases h; exact ⟨rfl, rfl, rfl, rfl⟩
  · cases h; exact ⟨rfl, rfl, rfl, rfl⟩
  · refine ⟨?_, rfl, rfl, rfl⟩
    show (am_kc c _).bind _ = _
    rw [h]
    rfl
  · next k =>
    refine ⟨?_, rfl, rfl, rfl⟩
    show (am_kl c _).bind _ = _
    cases hk : am_kl c k with
    | none => rw [hk] at h; cases h
    | some x =>
      rw [hk] at h
      cases h
      rfl
  · refine ⟨?_, rfl, rfl, rfl⟩
    show (am_gs2 c _).bind _ = _
    rw [h]
    rfl
  · cases h
theorem jkI_eq {v : Option Value} {z : Int} (h : jkI v z = true) : v = some (.int (Int32.ofInt z)) ∧ cm_in z := by
  unfold jkI at h
  split at h
  · simp only [Bool.and_eq_true, decide_eq_true_eq] at h
    rw [h.1]
    exact ⟨rfl, h.2⟩
  · cases h
theorem jkL_eq {v : Option Value} {z : Int} (h : jkL v z = true) : v = some (.long (Int64.ofInt z)) ∧ cm_inl z := by
  unfold jkL at h
  split at h
  · simp only [Bool.and_eq_true, decide_eq_true_eq] at h
    rw [h.1]
    exact ⟨rfl, h.2⟩
  · cases h
theorem jkR_eq {v : Option Value} {a : Nat} (h : jkR v a = true) : v = some (.ref a) := by
  unfold jkR at h
  split at h
  · rw [of_decide_eq_true h]
  · cases h
theorem jfk_eq {q : Option (Nat × Nat × FieldType × Bool)} {k kd : Nat} (h : jfk q k kd = true) : ∃ ty b, q = some (k / 100, k % 100, ty, b) ∧ cm_fk (k / 100) (k % 100) = kd := by
  unfold jfk at h
  split at h
  · next q =>
    obtain ⟨h1, h2, h3⟩ := of_decide_eq_true h
    obtain ⟨q1, q2, ty, b⟩ := q
    cases h1; cases h2
    exact ⟨ty, b, rfl, h3⟩
  · cases h
theorem jfl_eq {c : Nat} {i : Instr} {q : Nat × Nat × FieldType × Bool} (h : jfl c i = some q) : ∃ j, i = .getfield j ∧ am_fl c j = some q := by
  unfold jfl at h
  split at h
  · exact ⟨_, rfl, h⟩
  · cases h
theorem jfp_eq {c : Nat} {i : Instr} {q : Nat × Nat × FieldType × Bool} (h : jfp c i = some q) : ∃ j, i = .putfield j ∧ am_fl c j = some q := by
  unfold jfp at h
  split at h
  · exact ⟨_, rfl, h⟩
  · cases h
theorem jcv_eq {c : Nat} {i : Instr} {q : Nat × Nat × Nat × Nat} (h : jcv c i = some q) : ∃ j, i = .invokevirtual j ∧ am_cal2 c i = some q := by
  unfold jcv at h
  split at h
  · exact ⟨_, rfl, h⟩
  · cases h
theorem jcs_eq {c : Nat} {i : Instr} {q : Nat × Nat × Nat × Nat} (h : jcs c i = some q) : ∃ j, i = .invokestatic j ∧ am_cal2 c i = some q := by
  unfold jcs at h
  split at h
  · exact ⟨_, rfl, h⟩
  · cases h
theorem jtx_pl {a : Nat} (h : jtx y a = true) : cm_pl lo hi a := by
  unfold jtx at h
  split at h
  · have := of_decide_eq_true h
    right; omega
  · have := of_decide_eq_true h
    right; omega
/-- an object's field is read -/
theorem j_get {c : Nat} {s : cm_S} {a : Nat} (hh : hi ≤ h0.length) (hhi : hi ≤ 72) (hp : cm_pl lo hi a) (hc : cm_cl a = c) (h9 : c ≠ 99) {α : Type} {f : Nat → List Value → Option α} : am_obj (cm_mix lo hi s h0) a f = f c ((List.range (cm_nf c)).map (cm_fv s a)) ∧ lo ≤ a ∧ a < hi := by
  subst hc
  have h72 := cm_cl_72 h9
  have hr : lo ≤ a ∧ a < hi := by
    rcases hp with z | z
    · exact z
    · omega
  refine ⟨?_, hr⟩
  unfold am_obj
  rw [cm_mix_at hr.1 hr.2 hh, cm_cell_o h9]
theorem j_row {s : cm_S} {a : Nat} (hh : hi ≤ h0.length) (hhi : hi ≤ 72) (hp : cm_pl lo hi a) (hk : cm_rk a ≠ 99) : lo ≤ a ∧ a < hi ∧ (cm_mix lo hi s h0)[a]? = some (cm_cell s a) := by
  have h72 := cm_rk_72 hk
  have hr : lo ≤ a ∧ a < hi := by
    rcases hp with z | z
    · exact z
    · omega
  exact ⟨hr.1, hr.2, cm_mix_at hr.1 hr.2 hh⟩
end JOIN
