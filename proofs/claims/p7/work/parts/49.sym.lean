/-! ===== runs with free numbers in them: a row an instruction ===== -/
abbrev am_ex (y fuel d kk pc : Nat) (lv : am_L) (st : List Value) (h : List va_E) : Option am_R := am_exec (am_fc y) (am_step (am_fl (am_co y)) (am_kc (am_co y)) (am_kl (am_co y)) (fun _ => none) (fun _ => none) (am_in y) (am_mL y)) (am_cal (am_co y)) (am_oi (am_co y)) (am_nw (am_co y)) (am_all am_thr fuel d) (am_thr y) (am_rt y) 1 6 kk pc lv st h
/-- from K steps on the run ends so -/
def am_go (y fuel d K pc : Nat) (lv : am_L) (st : List Value) (h : List va_E) (res : Option am_R) : Prop := ∀ kk, K ≤ kk → am_ex y fuel d kk pc lv st h = res
def am_plain (i : Instr) : Bool := match i with
  | .return_ | .ireturn | .new _ | .newarray _ => false
  | _ => true
def am_iso (oi : Nat → Bool) (i : Instr) : Bool := match i with
  | .invokespecial k => oi k
  | _ => false
abbrev am_isoi (c : Nat) (i : Instr) : Bool := am_iso (am_oi c) i
/-- a plain instruction -/
def am_pk (y pc : Nat) : Option Instr := match am_thr y pc with
  | some _ => none
  | none => match am_fc y pc with
    | none => none
    | some i => if (am_plain i && (!(am_isoi (am_co y) i) && (am_cal (am_co y) i).isNone)) = true then some i else none
/-- a call -/
def am_pq (y pc : Nat) : Option (Nat × Nat × Nat × Nat) := match am_thr y pc with
  | some _ => none
  | none => match am_fc y pc with
    | none => none
    | some i => if (am_plain i && !(am_isoi (am_co y) i)) = true then am_cal (am_co y) i else none
/-- a return of an int -/
def am_pr (y pc : Nat) : Option FieldType := match am_thr y pc with
  | some _ => none
  | none => match am_fc y pc with
    | some .ireturn => am_rt y
    | _ => none
def am_pv (y pc : Nat) : Bool := match am_thr y pc with
  | some _ => false
  | none => match am_fc y pc with
    | some .return_ => (am_rt y).isNone
    | _ => false
theorem am_pk_eq {y pc : Nat} {i : Instr} (h : am_pk y pc = some i) : am_thr y pc = none ∧ am_fc y pc = some i ∧ am_plain i = true ∧ am_isoi (am_co y) i = false ∧ am_cal (am_co y) i = none := by
  unfold am_pk at h
  split at h
  · cases h
  · next h1 =>
    split at h
    · cases h
    · next j h2 =>
      split at h
      · next h3 =>
        cases h
        simp only [Bool.and_eq_true, Bool.not_eq_true', Option.isNone_iff_eq_none] at h3
        exact ⟨h1, h2, h3.1, h3.2.1, h3.2.2⟩
      · cases h
theorem am_pq_eq {y pc : Nat} {q : Nat × Nat × Nat × Nat} (h : am_pq y pc = some q) : am_thr y pc = none ∧ ∃ i, am_fc y pc = some i ∧ am_plain i = true ∧ am_isoi (am_co y) i = false ∧ am_cal (am_co y) i = some q := by
  unfold am_pq at h
  split at h
  · cases h
  · next h1 =>
    split at h
    · cases h
    · next j h2 =>
      split at h
      · next h3 =>
        simp only [Bool.and_eq_true, Bool.not_eq_true'] at h3
        exact ⟨h1, j, h2, h3.1, h3.2, h⟩
      · cases h
theorem am_step1 {fetch : Nat → Option Instr} {stp : Instr → Nat → am_L → List Value → List va_E → Option am_F} {cal : Instr → Option (Nat × Nat × Nat × Nat)} {oi : Nat → Bool} {nw : Nat → Option (Nat × List Value)} {run : Nat → List Value → List va_E → Option am_R} {thr : Nat → Option Nat} {ret : Option FieldType} {xc xs kk pc : Nat} {lv : am_L} {st : List Value} {h : List va_E} {i : Instr} {q : am_F} (h1 : thr pc = none) (h2 : fetch pc = some i) (h3 : am_plain i = true) (h4 : am_iso oi i = false) (h5 : cal i = none) (h6 : stp i pc lv st h = some q) : am_exec fetch stp cal oi nw run thr ret xc xs (kk + 1) pc lv st h = am_exec fetch stp cal oi nw run thr ret xc xs kk q.1 q.2.1 q.2.2.1 q.2.2.2 := by
  rw [am_exec_s, h1]
  simp only [h2]
  split
  · cases h3
  · cases h3
  · cases h3
  · cases h3
  · show (match am_iso oi i with
      | true => _
      | false => _) = _
    rw [h4]
    simp only [h5, h6, Option.bind_some]
theorem am_callx {fetch : Nat → Option Instr} {stp : Instr → Nat → am_L → List Value → List va_E → Option am_F} {cal : Instr → Option (Nat × Nat × Nat × Nat)} {oi : Nat → Bool} {nw : Nat → Option (Nat × List Value)} {run : Nat → List Value → List va_E → Option am_R} {thr : Nat → Option Nat} {ret : Option FieldType} {xc xs kk pc : Nat} {lv : am_L} {st : List Value} {h h' : List va_E} {i : Instr} {q : Nat × Nat × Nat × Nat} {w : List Value × List Value} {v : Option Value} {nc ns : Nat} (h1 : thr pc = none) (h2 : fetch pc = some i) (h3 : am_plain i = true) (h4 : am_iso oi i = false) (h5 : cal i = some q) (h6 : am_pop (am_vir q.1) q.2.2.1 st = some w) (h7 : (decide ((w.2.map fun v => v.category).sum ≤ 8) && ((q.1 != 0) || am_rcv w.1 h q.2.2.2)) = true) (h8 : run q.2.1 w.1 h = some (.inl v, h', nc, ns)) (h9 : (decide (h.length ≤ h'.length) && (nc == 0 || am_oldL h.length lv w.2)) = true) : am_exec fetch stp cal oi nw run thr ret xc xs (kk + 1) pc lv st h = (am_exec fetch stp cal oi nw run thr ret xc xs kk (pc + 3) lv (v.toList ++ w.2) h').bind fun r2 => some (r2.1, r2.2.1, nc + r2.2.2.1, ns + r2.2.2.2) := by
  rw [am_exec_s, h1]
  simp only [h2]
  split
  · cases h3
  · cases h3
  · cases h3
  · cases h3
  · show (match am_iso oi i with
      | true => _
      | false => _) = _
    rw [h4]
    simp only [h5, h6, Option.bind_some]
    rw [if_pos h7, h8]
    simp only [Option.bind_some]
    rw [if_pos h9]
section AM18
variable {y fuel d K pc : Nat} {lv : am_L} {st : List Value} {h : List va_E} {res : Option am_R}
theorem am_x1 {c nL : Nat} {ini : Bool} (hF : am_co y = c ∧ am_mL y = nL ∧ am_in y = ini) {i : Instr} (hp : am_pk y pc = some i) {pc' : Nat} {lv' : am_L} {st' : List Value} {h' : List va_E} (hst : am_step (am_fl c) (am_kc c) (am_kl c) (fun _ => none) (fun _ => none) ini nL i pc lv st h = some (pc', lv', st', h')) (hn : am_go y fuel d K pc' lv' st' h' res) : am_go y fuel d (K + 1) pc lv st h res := by
  obtain ⟨rfl, rfl, rfl⟩ := hF
  obtain ⟨h1, h2, h3, h4, h5⟩ := am_pk_eq hp
  intro kk hk
  obtain ⟨k, rfl⟩ : ∃ k, kk = k + 1 := ⟨kk - 1, by omega⟩
  show am_exec _ _ _ _ _ _ _ _ _ _ _ _ _ _ _ = _
  rw [am_step1 (i := i) h1 h2 h3 h4 h5 hst]
  exact hn k (by omega)
/-- a field is read -/
theorem am_xg {c nL k a j cj : Nat} {ini fin : Bool} (hF : am_co y = c ∧ am_mL y = nL ∧ am_in y = ini) {r fs : List Value} {ty : FieldType} {v : Value} (hp : am_pk y pc = some (.getfield k)) (hf : am_fl c k = some (cj, j, ty, fin)) (ho : h[a]? = some (.inr (cj, fs))) (hv : fs[j]? = some v) (hn : am_go y fuel d K (pc + 3) lv (v :: r) h res) : am_go y fuel d (K + 1) pc lv (.ref a :: r) h res := by
  refine am_x1 hF hp ?_ hn
  show (am_fl c k).bind _ = _
  rw [hf]
  show am_obj h a _ = _
  simp only [am_obj, ho]
  show ((fs[j]?).bind _) = _
  rw [hv]
  rfl
/-- a field is written -/
theorem am_xp {c nL k a j cj : Nat} {ini fin : Bool} (hF : am_co y = c ∧ am_mL y = nL ∧ am_in y = ini) {r fs : List Value} {ty : FieldType} {v : Value} (hp : am_pk y pc = some (.putfield k)) (hf : am_fl c k = some (cj, j, ty, fin)) (ho : h[a]? = some (.inr (cj, fs))) (hj : j < fs.length) (hw : ((!fin || ini) && (decide (narrow ty v = v) && fits ty v)) = true) (hn : am_go y fuel d K (pc + 3) lv r (h.set a (.inr (cj, fs.set j v))) res) : am_go y fuel d (K + 1) pc lv (v :: .ref a :: r) h res := by
  refine am_x1 hF hp ?_ hn
  show (am_fl c k).bind _ = _
  rw [hf]
  show am_obj h a _ = _
  unfold am_obj
  rw [ho]
  show (if (decide (cj = cj) && (decide (j < fs.length) && ((!fin || ini) && (decide (narrow ty v = v) && fits ty v)))) = true then _ else _) = _
  rw [if_pos]
  rw [Bool.and_eq_true, Bool.and_eq_true]
  exact ⟨decide_eq_true rfl, decide_eq_true hj, hw⟩
theorem am_set_same {α : Type} {l : List α} {i : Nat} {x : α} (h : l[i]? = some x) : l.set i x = l := by
  obtain ⟨hi, rfl⟩ := List.getElem?_eq_some_iff.mp h
  exact List.set_getElem_self hi
/-- .. with what it holds -/
theorem am_xp0 {c nL k a j cj : Nat} {ini fin : Bool} (hF : am_co y = c ∧ am_mL y = nL ∧ am_in y = ini) {r fs : List Value} {ty : FieldType} {v : Value} (hp : am_pk y pc = some (.putfield k)) (hf : am_fl c k = some (cj, j, ty, fin)) (ho : h[a]? = some (.inr (cj, fs))) (hv : fs[j]? = some v) (hw : ((!fin || ini) && (decide (narrow ty v = v) && fits ty v)) = true) (hn : am_go y fuel d K (pc + 3) lv r h res) : am_go y fuel d (K + 1) pc lv (v :: .ref a :: r) h res := by
  refine am_xp hF hp hf ho (List.getElem?_eq_some_iff.mp hv).1 hw ?_
  rw [am_set_same hv, am_set_same ho]
  exact hn
/-- branches -/
theorem am_xi {c : ClassFile.Cond} {off : Int} {x z : Int32} {r : List Value} {b : Bool} {t : Nat} (hp : am_pk y pc = some (.if_icmp c off)) (hc : am_c c x z = b) (ht : am_to pc off = some t) (hn : am_go y fuel d K (cond b t (pc + 3)) lv r h res) : am_go y fuel d (K + 1) pc lv (.int z :: .int x :: r) h res := by
  refine am_x1 ⟨rfl, rfl, rfl⟩ hp ?_ hn
  show (am_to pc off).bind _ = _
  rw [ht, Option.bind_some, hc]
  cases b <;> rfl
theorem am_xz {c : ClassFile.Cond} {off : Int} {x : Int32} {r : List Value} {b : Bool} {t : Nat} (hp : am_pk y pc = some (.ifCond c off)) (hc : am_c c x 0 = b) (ht : am_to pc off = some t) (hn : am_go y fuel d K (cond b t (pc + 3)) lv r h res) : am_go y fuel d (K + 1) pc lv (.int x :: r) h res := by
  refine am_x1 ⟨rfl, rfl, rfl⟩ hp ?_ hn
  show (am_to pc off).bind _ = _
  rw [ht, Option.bind_some, hc]
  cases b <;> rfl
/-- the end -/
theorem am_xr {x : Int32} {ty : FieldType} (hp : am_pr y pc = some ty) (hx : narrow ty (.int x) = .int x) : am_go y fuel d (K + 1) pc lv [.int x] h (some (.inl (some (.int x)), h, 0, 0)) := by
  intro kk hk
  obtain ⟨k, rfl⟩ : ∃ k, kk = k + 1 := ⟨kk - 1, by omega⟩
  unfold am_pr at hp
  split at hp
  · cases hp
  · next h1 =>
    split at hp
    · next h2 =>
      show am_exec _ _ _ _ _ _ _ _ _ _ _ _ _ _ _ = _
      rw [am_exec_s, h1]
      simp only [h2, hp]
      rw [if_pos (decide_eq_true hx)]
    · cases hp
theorem am_xv (hp : am_pv y pc = true) : am_go y fuel d (K + 1) pc lv [] h (some (.inl none, h, 0, 0)) := by
  intro kk hk
  obtain ⟨k, rfl⟩ : ∃ k, kk = k + 1 := ⟨kk - 1, by omega⟩
  unfold am_pv at hp
  split at hp
  · cases hp
  · next h1 =>
    split at hp
    · next h2 =>
      show am_exec _ _ _ _ _ _ _ _ _ _ _ _ _ _ _ = _
      rw [am_exec_s, h1]
      simp only [h2, hp]
      rfl
    · cases hp
/-- a throw -/
theorem am_xt {ex : Nat} (hp : am_thr y pc = some ex) (h8 : (st.map fun v => v.category).sum ≤ 8) : am_go y fuel d (K + 1) pc lv st h (some (.inr ex, h, 1, 6)) := by
  intro kk hk
  obtain ⟨k, rfl⟩ : ∃ k, kk = k + 1 := ⟨kk - 1, by omega⟩
  show am_exec _ _ _ _ _ _ _ _ _ _ _ _ _ _ _ = _
  rw [am_exec_s, hp]
  simp only
  rw [if_pos (decide_eq_true h8)]
/-- a call that makes no cell -/
theorem am_xc {q : Nat × Nat × Nat × Nat} (hp : am_pq y pc = some q) {w : List Value × List Value} {v : Option Value} {h' : List va_E} (h6 : am_pop (am_vir q.1) q.2.2.1 st = some w) (h7 : (decide ((w.2.map fun v => v.category).sum ≤ 8) && ((q.1 != 0) || am_rcv w.1 h q.2.2.2)) = true) (h8 : am_all am_thr fuel d q.2.1 w.1 h = some (.inl v, h', 0, 0)) (h9 : h.length ≤ h'.length) {o : am_O} {h2 : List va_E} {nc ns : Nat} (hn : am_go y fuel d K (pc + 3) lv (v.toList ++ w.2) h' (some (o, h2, nc, ns))) : am_go y fuel d (K + 1) pc lv st h (some (o, h2, nc, ns)) := by
  obtain ⟨g1, i, g2, g3, g4, g5⟩ := am_pq_eq hp
  intro kk hk
  obtain ⟨k, rfl⟩ : ∃ k, kk = k + 1 := ⟨kk - 1, by omega⟩
  show am_exec _ _ _ _ _ _ _ _ _ _ _ _ _ _ _ = _
  rw [am_callx g1 g2 g3 g4 g5 h6 h7 h8 (by rw [Bool.and_eq_true]; exact ⟨decide_eq_true h9, rfl⟩)]
  have hk2 := hn k (by omega)
  show (am_exec _ _ _ _ _ _ _ _ _ _ _ _ _ _ _).bind _ = _
  rw [show am_exec _ _ _ _ _ _ _ _ _ _ _ _ _ _ _ = _ from hk2]
  simp
/-- a method's run out of its rows -/
theorem am_in_go {as : List Value} (hw : (as.map fun v => v.category).sum ≤ am_mL y) (hg : am_go y fuel d fuel 0 (lv_args 0 as) [] h res) : am_all am_thr fuel (d + 1) y as h = res := by
  show (if decide ((as.map fun v => v.category).sum ≤ am_mL y) = true then _ else _) = _
  rw [if_pos (decide_eq_true hw)]
  exact hg fuel (Nat.le_refl _)
end AM18
