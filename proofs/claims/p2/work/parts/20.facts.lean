/-- the tables' words that every state of a run keeps -/
def am_Ts : List Jvm.Cond := lw_tbl.filter goodWord
def am_at (i : Nat) (w : Jvm.Cond) : Bool := decide (lw_tbl[i]? = some w) && goodWord w
theorem am_at_in {i : Nat} {w : Jvm.Cond} (h : am_at i w = true) : w ∈ am_Ts := by
  unfold am_at at h
  rw [Bool.and_eq_true] at h
  exact List.mem_filter.mpr ⟨List.mem_of_getElem? (of_decide_eq_true h.1), h.2⟩
theorem am_Ts_good {w : Jvm.Cond} (h : w ∈ am_Ts) : goodWord w = true := (List.mem_filter.mp h).2
theorem am_Ts_tbl {w : Jvm.Cond} (h : w ∈ am_Ts) : w ∈ lw_tbl := (List.mem_filter.mp h).1
def am_lays (C : String) (T : u_T) (N : Nat) (ps : List Nat) : Bool := (List.range N).all fun k => am_at (ps.getD k 0) (u_lay C T k)
theorem am_lays_ok {C : String} {T : u_T} {N : Nat} {ps : List Nat} (h : am_lays C T N ps = true) : ∀ w ∈ u_ws C T N, w ∈ am_Ts := by
  intro w hw
  obtain ⟨k, hk, rfl⟩ := List.mem_map.mp hw
  exact am_at_in (List.all_eq_true.mp h k hk)
/-- what is known of a class of the list -/
def am_CK (q : vw_C) : Prop := (∀ w ∈ u_ws q.1 q.2.1 q.2.2, w ∈ am_Ts) ∧ ∃ ty0 : Nat → FieldType, (∀ k, k < q.2.2 → parseFieldDescriptor (q.2.1 k).2.2.1 = some (ty0 k)) ∧ ∀ a, a < q.2.2 → ∀ b, b < q.2.2 → a ≠ b → (q.2.1 a).2.1 ≠ (q.2.1 b).2.1
set_option maxRecDepth 100000 in
theorem am_c0 : am_CK ("ScriptFront", am_T0, 8) := ⟨am_lays_ok (ps := am_p0) (by decide +kernel), am_y0, by decide +kernel, by decide +kernel⟩
set_option maxRecDepth 100000 in
theorem am_c1 : am_CK ("ScriptFront$Tape", am_T1, 3) := ⟨am_lays_ok (ps := am_p1) (by decide +kernel), am_y1, by decide +kernel, by decide +kernel⟩
set_option maxRecDepth 100000 in
theorem am_c2 : am_CK ("ScriptFront$Flaw", am_T2, 3) := ⟨am_lays_ok (ps := am_p2) (by decide +kernel), am_y2, by decide +kernel, by decide +kernel⟩
set_option maxRecDepth 100000 in
theorem am_c3 : am_CK ("ScriptFront$Draft", am_T3, 11) := ⟨am_lays_ok (ps := am_p3) (by decide +kernel), am_y3, by decide +kernel, by decide +kernel⟩
set_option maxRecDepth 100000 in
theorem am_c4 : am_CK ("ScriptFront$Parser", am_T4, 8) := ⟨am_lays_ok (ps := am_p4) (by decide +kernel), am_y4, by decide +kernel, by decide +kernel⟩
set_option maxRecDepth 100000 in
theorem am_c5 : am_CK ("ScriptFront$Scanner", am_T5, 8) := ⟨am_lays_ok (ps := am_p5) (by decide +kernel), am_y5, by decide +kernel, by decide +kernel⟩
set_option maxRecDepth 100000 in
theorem am_c6 : am_CK ("ScriptFront$Tree", am_T6, 9) := ⟨am_lays_ok (ps := am_p6) (by decide +kernel), am_y6, by decide +kernel, by decide +kernel⟩
set_option maxRecDepth 100000 in
theorem am_c7 : am_CK ("ScriptFront$Judge", am_T7, 3) := ⟨am_lays_ok (ps := am_p7) (by decide +kernel), am_y7, by decide +kernel, by decide +kernel⟩
set_option maxRecDepth 100000 in
theorem am_c8 : am_CK ("ScriptFront$Printer", am_T8, 7) := ⟨am_lays_ok (ps := am_p8) (by decide +kernel), am_y8, by decide +kernel, by decide +kernel⟩
set_option maxRecDepth 100000 in
theorem am_c9 : am_CK ("ScriptFrontModel", am_T9, 55) := ⟨am_lays_ok (ps := am_p9) (by decide +kernel), am_y9, by decide +kernel, by decide +kernel⟩
theorem am_cls {ci : Nat} {q : vw_C} (h : am_cl[ci]? = some q) : am_CK q := by
  match ci, h with
  | 0, h => cases h; exact am_c0
  | 1, h => cases h; exact am_c1
  | 2, h => cases h; exact am_c2
  | 3, h => cases h; exact am_c3
  | 4, h => cases h; exact am_c4
  | 5, h => cases h; exact am_c5
  | 6, h => cases h; exact am_c6
  | 7, h => cases h; exact am_c7
  | 8, h => cases h; exact am_c8
  | 9, h => cases h; exact am_c9
  | ci + 10, h => simp [am_cl] at h
theorem am_zip {α β : Type} : ∀ {l : List α} {p : List β}, l.length = p.length → ∀ {x : α}, x ∈ l → ∃ y, (x, y) ∈ l.zip p
  | [], _, _, _, hx => by cases hx
  | a :: l, [], h, _, _ => by cases h
  | a :: l, b :: p, h, x, hx => by
    rcases List.mem_cons.mp hx with rfl | hx
    · exact ⟨b, by simp⟩
    · obtain ⟨y, hy⟩ := am_zip (l := l) (p := p) (by simpa using h) hx
      exact ⟨y, by rw [List.zip_cons_cons]; exact List.mem_cons_of_mem _ hy⟩
-- the links as functions
def am_fl (c k : Nat) : Option (Nat × Nat × FieldType × Bool) := am_flT.lookup (c, k)
def am_kl (c k : Nat) : Option Int64 := am_klT.lookup (c, k)
def am_kc (c k : Nat) : Option Value := match am_kiT.lookup (c, k) with
  | some x => some (.int x)
  | none => (am_sT.lookup (c, k)).map .ref
def am_nw (c k : Nat) : Option (Nat × List Value) := am_nwT.lookup (c, k)
def am_oi (c k : Nat) : Bool := am_oiT.contains (c, k)
def am_ckF (e : ((Nat × Nat) × (Nat × Nat × FieldType × Bool)) × Nat) : Bool := match am_cl[e.1.2.1]? with
  | some q => decide (e.1.2.2.1 < q.2.2) && (am_at e.2 (.fieldLink (am_cn e.1.1.1) e.1.1.2 (q.2.1 e.1.2.2.1).1 (q.2.1 e.1.2.2.1).2.1 (q.2.1 e.1.2.2.1).2.2.1) && (decide (parseFieldDescriptor (q.2.1 e.1.2.2.1).2.2.1 = some e.1.2.2.2.1) && (decide ((q.2.1 e.1.2.2.1).2.2.2 = e.1.2.2.2.2) && (!e.1.2.2.2.2 || decide ((q.2.1 e.1.2.2.1).1 = am_cn e.1.1.1)))))
  | none => false
set_option maxRecDepth 100000 in
theorem am_flck : (am_flT.zip am_flP).all am_ckF = true := by decide +kernel
theorem am_FLok (c : Nat) {Ts : List Jvm.Cond} (hT : ∀ w ∈ am_Ts, w ∈ Ts) : am_FL (am_fl c) (am_cn c) am_cl Ts := by
  intro idx q hq
  obtain ⟨i, hi⟩ := am_zip (p := am_flP) (by decide +kernel) (am_mem_look hq)
  have h := List.all_eq_true.mp am_flck _ hi
  unfold am_ckF at h
  split at h
  · next z hz =>
    simp only [Bool.and_eq_true, Bool.or_eq_true, decide_eq_true_eq] at h
    obtain ⟨h1, h2, h3, h4, h5⟩ := h
    obtain ⟨g1, ty0, g2, g3⟩ := am_cls hz
    have h3' := (g2 _ h1).symm.trans h3
    exact ⟨z.1, z.2.1, z.2.2, ty0, fun w hw => hT w (g1 w hw), hz, h1, hT _ (am_at_in h2), g2, Option.some.inj h3', g3, h4, fun e1 => h5.resolve_left (by rw [e1]; decide)⟩
  · cases h
