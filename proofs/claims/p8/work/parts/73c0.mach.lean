/-! ===== THE JOIN: the first machine with texts (length, charAt, isEmpty as calls 400, 401, 402) and the row of signs (place 1039) ===== -/
def am_tcT : List ((Nat × Nat) × (Nat × Nat)) := [((5, 96), (0, 0)), ((5, 99), (1, 1)), ((1, 22), (0, 0)), ((1, 31), (1, 1)), ((8, 204), (2, 0)), ((8, 210), (1, 1)), ((8, 217), (0, 0))]
def am_cal2 (c : Nat) (i : Instr) : Option (Nat × Nat × Nat × Nat) := match am_cal c i with
  | some q => some q
  | none => match i with
    | .invokevirtual k => (am_tcT.lookup (c, k)).map fun q => (4, 400 + q.1, q.2, 0)
    | _ => none
def am_gs2 (c k : Nat) : Option Value := if (c == 10 && k == 7) = true then some (.ref 1039) else none
def am_ro2 (a : Nat) : Option (Nat × (Nat → Int32)) := if a = 1039 then some (48, fun j => Int32.ofInt (cm_ka 1039 (j : Int))) else none
def am_tx (op : Nat) (as : List Value) : Option Value := match as with
  | [.ref a] => if 1000 ≤ a ∧ a < 1039 then (if op = 0 then some (.int (Int32.ofInt (cm_kn a))) else if op = 2 then some (.int (Int32.ofInt (if cm_kn a = 0 then 1 else 0))) else none) else none
  | [.ref a, .int j] => if 1000 ≤ a ∧ a < 1039 then (if (op == 1 && am_ok j (cm_kn a).toNat) = true then some (.int (Int32.ofInt (cm_ka a (j.toNatClampNeg : Int)))) else none) else none
  | _ => none
/-- all methods and the texts: d calls deep -/
def am_run2 (fuel : Nat) : Nat → Nat → List Value → List va_E → Option am_R
  | 0, _, _, _ => none
  | d + 1, y, as, h => if 400 ≤ y then (if 4 ≤ d then (am_tx (y - 400) as).map fun v => (.inl (some v), h, 0, 0) else none) else if decide ((as.map fun v => v.category).sum ≤ am_mL y) = true then am_exec (am_fc y) (am_step (am_fl (am_co y)) (am_kc (am_co y)) (am_kl (am_co y)) (am_gs2 (am_co y)) am_ro2 (am_in y) (am_mL y)) (am_cal2 (am_co y)) (am_oi (am_co y)) (am_nw (am_co y)) (am_run2 fuel d) (am_thr y) (am_rt y) 1 6 fuel 0 (lv_args 0 as) [] h else none
abbrev am_e2 (y F d kk pc : Nat) (lv : am_L) (st : List Value) (h : List va_E) : Option am_R := am_exec (am_fc y) (am_step (am_fl (am_co y)) (am_kc (am_co y)) (am_kl (am_co y)) (am_gs2 (am_co y)) am_ro2 (am_in y) (am_mL y)) (am_cal2 (am_co y)) (am_oi (am_co y)) (am_nw (am_co y)) (am_run2 F d) (am_thr y) (am_rt y) 1 6 kk pc lv st h
/-- from some number of steps, fuel and depth on -/
def jEv (E y pc : Nat) (lv : am_L) (st : List Value) (h : List va_E) (res : am_R) : Prop := ∃ N, ∀ kk F d, N ≤ kk → N ≤ F → E ≤ d → am_e2 y F d kk pc lv st h = some res
def jRun (E y : Nat) (as : List Value) (h : List va_E) (res : am_R) : Prop := ∃ N, ∀ F d, N ≤ F → E ≤ d → am_run2 F d y as h = some res
theorem jEv_step {E y pc : Nat} {lv : am_L} {st : List Value} {h : List va_E} {res : am_R} {i : Instr} {q : am_F} (h1 : am_thr y pc = none) (h2 : am_fc y pc = some i) (h3 : am_plain i = true) (h4 : am_isoi (am_co y) i = false) (h5 : am_cal2 (am_co y) i = none) (h6 : am_step (am_fl (am_co y)) (am_kc (am_co y)) (am_kl (am_co y)) (am_gs2 (am_co y)) am_ro2 (am_in y) (am_mL y) i pc lv st h = some q) (hr : jEv E y q.1 q.2.1 q.2.2.1 q.2.2.2 res) : jEv E y pc lv st h res := by
  obtain ⟨N, hN⟩ := hr
  refine ⟨N + 1, fun kk F d k1 k2 k3 => ?_⟩
  obtain ⟨kk, rfl⟩ : ∃ k, kk = k + 1 := ⟨kk - 1, by omega⟩
  rw [am_e2, am_step1 h1 h2 h3 h4 h5 h6]
  exact hN kk F d (by omega) (by omega) (by omega)
theorem jEv_call {E y pc : Nat} {lv : am_L} {st : List Value} {h h' h2' : List va_E} {o : am_O} {nc ns : Nat} {i : Instr} {q : Nat × Nat × Nat × Nat} {w : List Value × List Value} {v : Option Value} (h1 : am_thr y pc = none) (h2 : am_fc y pc = some i) (h3 : am_plain i = true) (h4 : am_isoi (am_co y) i = false) (h5 : am_cal2 (am_co y) i = some q) (h6 : am_pop (am_vir q.1) q.2.2.1 st = some w) (h7 : (decide ((w.2.map fun v => v.category).sum ≤ 8) && ((q.1 != 0) || am_rcv w.1 h q.2.2.2)) = true) (h8 : jRun E q.2.1 w.1 h (.inl v, h', 0, 0)) (h9 : h.length ≤ h'.length) (hr : jEv E y (pc + 3) lv (v.toList ++ w.2) h' (o, h2', nc, ns)) : jEv E y pc lv st h (o, h2', nc, ns) := by
  obtain ⟨N, hN⟩ := hr
  obtain ⟨N1, hN1⟩ := h8
  refine ⟨N + N1 + 1, fun kk F d k1 k2 k3 => ?_⟩
  obtain ⟨kk, rfl⟩ : ∃ k, kk = k + 1 := ⟨kk - 1, by omega⟩
  rw [am_e2, am_callx h1 h2 h3 h4 h5 h6 h7 (hN1 F d (by omega) (by omega)) (by simp [h9])]
  have := hN kk F d (by omega) (by omega) (by omega)
  rw [am_e2] at this
  rw [this]
  simp
theorem jEv_callT {E y pc : Nat} {lv : am_L} {st : List Value} {h h' : List va_E} {i : Instr} {q : Nat × Nat × Nat × Nat} {w : List Value × List Value} {e : Nat} (h1 : am_thr y pc = none) (h2 : am_fc y pc = some i) (h3 : am_plain i = true) (h4 : am_isoi (am_co y) i = false) (h5 : am_cal2 (am_co y) i = some q) (h6 : am_pop (am_vir q.1) q.2.2.1 st = some w) (h7 : (decide ((w.2.map fun v => v.category).sum ≤ 8) && ((q.1 != 0) || am_rcv w.1 h q.2.2.2)) = true) (h8 : jRun E q.2.1 w.1 h (.inr e, h', 1, 6)) (h9 : q.1 < 2) : jEv E y pc lv st h (.inr e, h', 1, 6) := by
  obtain ⟨N1, hN1⟩ := h8
  refine ⟨N1 + 1, fun kk F d k1 k2 k3 => ?_⟩
  obtain ⟨kk, rfl⟩ : ∃ k, kk = k + 1 := ⟨kk - 1, by omega⟩
  rw [am_e2, am_exec_s, h1]
  simp only [h2]
  split
  · cases h3
  · cases h3
  · cases h3
  · cases h3
  · show (match am_iso (am_oi (am_co y)) i with
      | true => _
      | false => _) = _
    have h4' : am_iso (am_oi (am_co y)) i = false := h4
    rw [h4']
    simp only [h5, h6, Option.bind_some]
    rw [if_pos h7, hN1 F d (by omega) (by omega)]
    simp only [Option.bind_some]
    rw [if_pos (by simpa using h9)]
theorem jEv_ret {E y pc : Nat} {lv : am_L} {h : List va_E} (h1 : am_thr y pc = none) (h2 : am_fc y pc = some .return_) (h3 : am_rt y = none) : jEv E y pc lv [] h (.inl none, h, 0, 0) := by
  refine ⟨1, fun kk F d k1 k2 k3 => ?_⟩
  obtain ⟨kk, rfl⟩ : ∃ k, kk = k + 1 := ⟨kk - 1, by omega⟩
  rw [am_e2, am_exec_s, h1]
  simp only [h2, h3]
  rfl
theorem jEv_iret {E y pc : Nat} {lv : am_L} {h : List va_E} {x : Int32} {ty : FieldType} (h1 : am_thr y pc = none) (h2 : am_fc y pc = some .ireturn) (h3 : am_rt y = some ty) (h4 : narrow ty (.int x) = .int x) : jEv E y pc lv [.int x] h (.inl (some (.int x)), h, 0, 0) := by
  refine ⟨1, fun kk F d k1 k2 k3 => ?_⟩
  obtain ⟨kk, rfl⟩ : ∃ k, kk = k + 1 := ⟨kk - 1, by omega⟩
  rw [am_e2, am_exec_s, h1]
  simp only [h2, h3]
  rw [if_pos (decide_eq_true h4)]
theorem jEv_thr {E y pc : Nat} {lv : am_L} {st : List Value} {h : List va_E} {e : Nat} (h1 : am_thr y pc = some e) (h2 : (st.map fun v => v.category).sum ≤ 8) : jEv E y pc lv st h (.inr e, h, 1, 6) := by
  refine ⟨1, fun kk F d k1 k2 k3 => ?_⟩
  obtain ⟨kk, rfl⟩ : ∃ k, kk = k + 1 := ⟨kk - 1, by omega⟩
  rw [am_e2, am_exec_s, h1]
  simp only
  rw [if_pos (decide_eq_true h2)]
theorem jRun_of {E y : Nat} {as : List Value} {h : List va_E} {res : am_R} (hy : y < 400) (hn : (as.map fun v => v.category).sum ≤ am_mL y) (hr : jEv E y 0 (lv_args 0 as) [] h res) : jRun (E + 1) y as h res := by
  obtain ⟨N, hN⟩ := hr
  refine ⟨N + 1, fun F d k2 k3 => ?_⟩
  obtain ⟨d, rfl⟩ : ∃ k, d = k + 1 := ⟨d - 1, by omega⟩
  rw [am_run2, if_neg (by omega), if_pos (decide_eq_true hn)]
  exact hN F F d (by omega) (by omega) (by omega)
theorem jRun_tx {E op : Nat} (hE : 5 ≤ E) {as : List Value} {h : List va_E} {v : Value} (hv : am_tx op as = some v) : jRun E (400 + op) as h (.inl (some v), h, 0, 0) := by
  refine ⟨5, fun F d k2 k3 => ?_⟩
  obtain ⟨d, rfl⟩ : ∃ k, d = k + 1 := ⟨d - 1, by omega⟩
  rw [am_run2, if_pos (by omega), if_pos (by omega), show 400 + op - 400 = op by omega, hv]
  rfl
