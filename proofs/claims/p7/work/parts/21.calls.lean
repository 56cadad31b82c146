def am_m0 : am_Me := (⟨"", "", ""⟩, 0, 0, none, 0, [])
def am_mq (y : Nat) : am_Me := am_me.getD y am_m0
def am_bx (p : Nat) : ByteArray := match lw_tbl[p]? with
  | some (.code _ b _ _) => b
  | _ => ⟨#[]⟩
def am_nm (y : Nat) : MethodName := (am_mq y).1
def am_bt (y : Nat) : ByteArray := am_bx (am_mq y).2.1
def am_mL (y : Nat) : Nat := (am_mq y).2.2.1
def am_rt (y : Nat) : Option FieldType := (am_mq y).2.2.2.1
def am_co (y : Nat) : Nat := (am_mq y).2.2.2.2.1
def am_fc (y : Nat) (pc : Nat) : Option Instr := (am_mq y).2.2.2.2.2.lookup pc
def am_in (y : Nat) : Bool := decide ((am_nm y).name = "<init>")
def am_wM (y : Nat) : List Jvm.Cond := Jvm.Cond.code (am_nm y) (am_bt y) (am_mL y) (am_rt y) :: am_Ts
theorem am_wM_in (y : Nat) : ∀ w ∈ am_Ts, w ∈ am_wM y := fun _ h => List.mem_cons_of_mem _ h
/-- a method's own words -/
def am_ckM (q : am_Me) : Bool := match lw_tbl[q.2.1]? with
  | some (.code n b k r) => decide (n = q.1) && (decide (k = q.2.2.1) && (decide (r = q.2.2.2.1) && (goodWord (.code n b k r) && (decide (q.2.2.1 ≤ 20) && (plainName q.1.cls && decide (am_cn q.2.2.2.2.1 = q.1.cls))))))
  | _ => false
theorem am_ckM_ok {y : Nat} (h : am_ckM (am_mq y) = true) : Jvm.Cond.code (am_nm y) (am_bt y) (am_mL y) (am_rt y) ∈ am_Ts ∧ am_mL y ≤ 20 ∧ plainName (am_nm y).cls = true ∧ am_cn (am_co y) = (am_nm y).cls := by
  unfold am_ckM at h
  split at h
  · next n b k r hw =>
    simp only [Bool.and_eq_true, decide_eq_true_eq] at h
    obtain ⟨h1, h2, h3, h4, h5, h6, h7⟩ := h
    have e1 : am_bt y = b := by unfold am_bt am_bx; rw [hw]
    refine ⟨?_, h5, h6, h7⟩
    show Jvm.Cond.code (am_mq y).1 (am_bt y) (am_mq y).2.2.1 (am_mq y).2.2.2.1 ∈ am_Ts
    rw [e1, ← h1, ← h2, ← h3]
    exact List.mem_filter.mpr ⟨List.mem_of_getElem? hw, h4⟩
  · cases h
def am_cal (c : Nat) (i : Instr) : Option (Nat × Nat × Nat × Nat) := match i with
  | .invokevirtual k => (am_calT.lookup (c, k)).bind fun q => if decide (q.1.1 = 0) = true then some q.1 else none
  | .invokestatic k => (am_calT.lookup (c, k)).bind fun q => if decide (q.1.1 = 1) = true then some q.1 else none
  | .invokespecial k => (am_calT.lookup (c, k)).bind fun q => if decide (2 ≤ q.1.1) = true then some q.1 else none
  | _ => none
/-- a call's words -/
def am_ckC (e : am_Ca) : Bool :=
  decide ((am_nm e.2.1.2.1).cls ≠ "java/lang/invoke/MethodHandle") && (decide ((am_nm e.2.1.2.1).cls ≠ "java/lang/invoke/VarHandle") && (decide ((parseMethodDescriptor (am_nm e.2.1.2.1).desc).map (fun d => d.parameters.length) = some e.2.1.2.2.1) && (am_at e.2.2.2.2.1 (.initialized (am_nm e.2.1.2.1).cls) && (decide (e.2.1.2.1 < am_me.length) &&
  (match e.2.1.1 with
    | 0 => am_at e.2.2.1 (.methodLink (am_cn e.1.1) e.1.2 (am_nm e.2.1.2.1)) && (am_at e.2.2.2.1 (.instanceMethod (am_nm e.2.1.2.1)) && (am_at e.2.2.2.2.2 (.selects (am_nm e.2.1.2.1).cls (am_nm e.2.1.2.1) (am_nm e.2.1.2.1)) && decide ((am_cl[e.2.1.2.2.2]?).map (fun q => q.1) = some (am_nm e.2.1.2.1).cls)))
    | 1 => am_at e.2.2.1 (.methodLink (am_cn e.1.1) e.1.2 (am_nm e.2.1.2.1)) && am_at e.2.2.2.1 (.static (am_nm e.2.1.2.1))
    | 2 => am_at e.2.2.1 (.methodLink (am_cn e.1.1) e.1.2 (am_nm e.2.1.2.1)) && (am_at e.2.2.2.1 (.instanceMethod (am_nm e.2.1.2.1)) && (decide (am_rt e.2.1.2.1 = none) && decide ((am_nm e.2.1.2.1).name = "<init>")))
    | _ => decide (e.2.1.1 = 3) && (am_at e.2.2.2.1 (.instanceMethod (am_nm e.2.1.2.1)) && (decide (am_rt e.2.1.2.1 = none) && (decide ((am_nm e.2.1.2.1).name = "<init>") && am_nestT.any (fun z => decide (z.1 = am_cn e.1.1) && (decide (z.2.1 = e.1.2) && decide (z.2.2.1 = am_nm e.2.1.2.1)))))))))))
theorem am_good {Ts a : List Jvm.Cond} (hT : ∀ w ∈ am_Ts, w ∈ Ts) (h : ∀ w ∈ a, w ∈ am_Ts) : GoodIn Ts a := fun w hw => ⟨hT w (h w hw), good_of_word (am_Ts_good (h w hw))⟩
theorem am_CTok (hM : ∀ y, y < am_me.length → am_ckM (am_mq y) = true) (hC : ∀ e ∈ am_calT, am_ckC e = true) (c : Nat) {Ts : List Jvm.Cond} {s : State} (hT : ∀ w ∈ am_Ts, w ∈ Ts) (hn : ∀ z ∈ am_nestT, va_Nw (.methodLinkNest z.1 z.2.1 z.2.2.1 z.2.2.2) s) : am_CT (am_cal c) (am_cn c) am_cl Ts s am_nm am_bt am_mL am_rt am_wM := by
  intro i q hq
  have hk : ∃ k r, am_calT.lookup (c, k) = some (q, r) ∧ ((q.1 = 0 ∧ i = .invokevirtual k) ∨ (q.1 = 1 ∧ i = .invokestatic k) ∨ (2 ≤ q.1 ∧ i = .invokespecial k)) := by
    unfold am_cal at hq
    split at hq
    · next k =>
      obtain ⟨z, hz, h1⟩ := Option.bind_eq_some_iff.mp hq
      obtain ⟨h2, h3⟩ := am_if h1
      cases h3
      exact ⟨k, z.2, hz, Or.inl ⟨of_decide_eq_true h2, rfl⟩⟩
    · next k =>
      obtain ⟨z, hz, h1⟩ := Option.bind_eq_some_iff.mp hq
      obtain ⟨h2, h3⟩ := am_if h1
      cases h3
      exact ⟨k, z.2, hz, Or.inr (Or.inl ⟨of_decide_eq_true h2, rfl⟩)⟩
    · next k =>
      obtain ⟨z, hz, h1⟩ := Option.bind_eq_some_iff.mp hq
      obtain ⟨h2, h3⟩ := am_if h1
      cases h3
      exact ⟨k, z.2, hz, Or.inr (Or.inr ⟨of_decide_eq_true h2, rfl⟩)⟩
    · cases hq
  obtain ⟨k, ps, hl, hi⟩ := hk
  have h := hC _ (am_mem_look hl)
  unfold am_ckC at h
  simp only [Bool.and_eq_true, decide_eq_true_eq] at h
  obtain ⟨h2, h3, h4, h6, hy, h7⟩ := h
  obtain ⟨h5, h1, -, -⟩ := am_ckM_ok (hM _ hy)
  have hw : ∀ w ∈ am_wM q.2.1, w ∈ am_Ts := fun w hw => by
    rcases List.mem_cons.mp hw with rfl | hw
    · exact h5
    · exact hw
  refine ⟨⟨am_Ts, rfl⟩, h1, ⟨h2, h3, h4⟩, ?_⟩
  rcases hi with ⟨hk, rfl⟩ | ⟨hk, rfl⟩ | ⟨hk, rfl⟩
  · rw [hk] at h7
    simp only [Bool.and_eq_true, decide_eq_true_eq] at h7
    obtain ⟨g1, g2, g3, g4⟩ := h7
    cases hc : am_cl[q.2.2.2]? with
    | none => rw [hc] at g4; cases g4
    | some z =>
      rw [hc] at g4
      have g4 : z.1 = (am_nm q.2.1).cls := Option.some.inj g4
      refine Or.inl ⟨hk, k, z.1, z.2.1, z.2.2, rfl, rfl, g4.symm, am_good hT (fun w hw2 => ?_)⟩
      unfold wsV at hw2
      rcases List.mem_append.mp hw2 with z1 | z1
      · simp only [List.mem_cons, List.not_mem_nil, or_false] at z1
        rcases z1 with rfl | rfl | rfl | rfl
        · exact am_at_in g1
        · exact am_at_in g2
        · rw [g4]; exact am_at_in g3
        · rw [g4]; exact am_at_in h6
      · exact hw w z1
  · rw [hk] at h7
    simp only [Bool.and_eq_true] at h7
    obtain ⟨g1, g2⟩ := h7
    refine Or.inr (Or.inl ⟨hk, k, rfl, am_good hT (fun w hw2 => ?_)⟩)
    unfold va_wsS at hw2
    rcases List.mem_append.mp hw2 with z1 | z1
    · simp only [List.mem_cons, List.not_mem_nil, or_false] at z1
      rcases z1 with rfl | rfl | rfl
      · exact am_at_in g1
      · exact am_at_in g2
      · exact am_at_in h6
    · exact hw w z1
  · split at h7
    · next e => omega
    · next e => omega
    · next e =>
      simp only [Bool.and_eq_true, decide_eq_true_eq] at h7
      obtain ⟨g1, g2, g3, g4⟩ := h7
      exact Or.inr (Or.inr (Or.inl ⟨e, k, rfl, g3, am_good hT hw, hT _ (am_at_in h6), hT _ (am_at_in g1), hT _ (am_at_in g2), g4⟩))
    · simp only [Bool.and_eq_true, decide_eq_true_eq] at h7
      obtain ⟨g0, g2, g3, g4, g5⟩ := h7
      obtain ⟨z, hz1, hz2⟩ := List.any_eq_true.mp g5
      simp only [Bool.and_eq_true, decide_eq_true_eq] at hz2
      obtain ⟨z1, z2, z3⟩ := hz2
      have hnz := hn z hz1
      rw [z1, z2, z3] at hnz
      exact Or.inr (Or.inr (Or.inr ⟨g0, k, z.2.2.2, rfl, g3, am_good hT hw, hT _ (am_at_in h6), hnz, hT _ (am_at_in g2), g4⟩))
