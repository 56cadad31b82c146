theorem am_args_lv (ad : Nat → Nat) : ∀ (as : List Value) (n : Nat), am_lv ad (lv_args n as) = lv_args n (as.map (am_tv ad)) := by
  intro as
  induction as with
  | nil => intro n; rfl
  | cons v r ih =>
    intro n
    simp only [lv_args, List.map_cons, am_tv_cat]
    rw [← ih]
    rfl
theorem am_sl_len (vs : List Value) : (lg_sl vs).length = (vs.map fun v => v.category).sum := by
  induction vs with
  | nil => rfl
  | cons v r ih =>
    have e : lg_sl (v :: r) = (if v.category = 2 then [Slot.val v, Slot.second] else [Slot.val v]) ++ lg_sl r := rfl
    rw [e, List.length_append, ih, List.map_cons, List.sum_cons]
    rcases lv_cat v with h | h <;> rw [h] <;> rfl
/-- the machine over all methods: d calls deep -/
def am_run (cls mL : Nat → Nat) (rt : Nat → Option FieldType) (ini : Nat → Bool) (ftc : Nat → Nat → Option Instr) (fl : Nat → Nat → Option (Nat × Nat × FieldType × Bool)) (kc : Nat → Nat → Option Value) (kl : Nat → Nat → Option Int64) (gs : Nat → Nat → Option Value) (ro : Nat → Option (Nat × (Nat → Int32))) (cal : Nat → Instr → Option (Nat × Nat × Nat × Nat)) (oi : Nat → Nat → Bool) (nw : Nat → Nat → Option (Nat × List Value)) (thr : Nat → Nat → Option Nat) (xc xs fuel : Nat) : Nat → Nat → List Value → List va_E → Option am_R
  | 0, _, _, _ => none
  | d + 1, y, as, h => if decide ((as.map fun v => v.category).sum ≤ mL y) = true then am_exec (ftc y) (am_step (fl (cls y)) (kc (cls y)) (kl (cls y)) (gs (cls y)) ro (ini y) (mL y)) (cal (cls y)) (oi (cls y)) (nw (cls y)) (am_run cls mL rt ini ftc fl kc kl gs ro cal oi nw thr xc xs fuel d) (thr y) (rt y) xc xs fuel 0 (lv_args 0 as) [] h else none
section AM6
variable {l : Launch} {D : va_G} {cl : List vw_C} {tys : List (ClassId × FieldType)} {ct ak : Nat → Nat} {K0 : (Nat → Prop) → State → Prop} {X : Nat → Nat → State → Prop}
variable {nm : Nat → MethodName} {bt : Nat → ByteArray} {wsM : Nat → List Jvm.Cond}
variable {cls mL : Nat → Nat} {rt : Nat → Option FieldType} {ini : Nat → Bool} {ftc : Nat → Nat → Option Instr} {fl : Nat → Nat → Option (Nat × Nat × FieldType × Bool)} {kc : Nat → Nat → Option Value} {kl : Nat → Nat → Option Int64} {gs : Nat → Nat → Option Value} {ro : Nat → Option (Nat × (Nat → Int32))} {cal : Nat → Instr → Option (Nat × Nat × Nat × Nat)} {oi : Nat → Nat → Bool} {nw : Nat → Nat → Option (Nat × List Value)} {thr : Nat → Nat → Option Nat} {xc xs fuel : Nat}
/-- what the tables of all methods stand on: ok y says that y is a method -/
def am_G (ok : Nat → Prop) (cl : List vw_C) (tys : List (ClassId × FieldType)) (ct ak : Nat → Nat) (K0 : (Nat → Prop) → State → Prop) (nm : Nat → MethodName) (bt : Nat → ByteArray) (wsM : Nat → List Jvm.Cond) (cls mL : Nat → Nat) (rt : Nat → Option FieldType) (ini : Nat → Bool) (ftc : Nat → Nat → Option Instr) (fl : Nat → Nat → Option (Nat × Nat × FieldType × Bool)) (kc : Nat → Nat → Option Value) (kl : Nat → Nat → Option Int64) (gs : Nat → Nat → Option Value) (ro : Nat → Option (Nat × (Nat → Int32))) (cal : Nat → Instr → Option (Nat × Nat × Nat × Nat)) (oi : Nat → Nat → Bool) (nw : Nat → Nat → Option (Nat × List Value)) : Prop :=
  am_K0 K0 ∧ am_TY tys ct ∧ (∀ y pc i, ftc y pc = some i → ok y) ∧ ∀ y, ok y → (∃ ws', wsM y = Jvm.Cond.code (nm y) (bt y) (mL y) (rt y) :: ws') ∧ plainName (nm y).cls = true ∧ (ini y = true → (nm y).name = "<init>") ∧ am_FL (fl (cls y)) (nm y).cls cl (wsM y) ∧ am_KL (kl (cls y)) (nm y).cls (wsM y) ∧ am_OI (oi (cls y)) (nm y).cls (wsM y) ∧ am_NW (nw (cls y)) (nm y).cls cl (wsM y) ∧ am_AR (wsM y) ∧ (∀ pc i, ftc y pc = some i → ∃ n, decode (bt y) pc = .ok (i, n) ∧ (am_len i ≠ 0 → n = am_len i)) ∧
    ∀ (A : Nat → Prop) (s : State) (args : Array Value), K0 A s → (∀ w ∈ wsM y, w.before args s = true) → am_CT (cal (cls y)) (nm y).cls cl (wsM y) s nm bt mL rt wsM ∧ ∀ ad : Nat → Nat, (∀ i, 1000 ≤ i → ad i = ak i) → am_KC (kc (cls y)) (nm y).cls ad (wsM y) s ∧ am_GS (gs (cls y)) (nm y).cls ad A (wsM y) s ∧ am_RO ro ad A s
theorem am_exec_pos {fetch : Nat → Option Instr} {stp : Instr → Nat → am_L → List Value → List va_E → Option am_F} {cal : Instr → Option (Nat × Nat × Nat × Nat)} {oi : Nat → Bool} {nw : Nat → Option (Nat × List Value)} {run : Nat → List Value → List va_E → Option am_R} {thr : Nat → Option Nat} {ret : Option FieldType} {xc xs kk pc : Nat} {lv : am_L} {st : List Value} {h : List va_E} {v : Option Value} {z : List va_E × Nat × Nat} (hex : am_exec fetch stp cal oi nw run thr ret xc xs kk pc lv st h = some (.inl v, z)) : ∃ i, fetch pc = some i := by
  cases kk with
  | zero => cases hex
  | succ kk =>
    rw [am_exec_s] at hex
    split at hex
    · exact absurd (am_if hex).2 (fun z => by cases z)
    · split at hex
      · cases hex
      · next i hi => exact ⟨i, hi⟩
set_option maxHeartbeats 1000000 in
/-- EVERY METHOD MEETS ITS RUN (one that comes back) -/
theorem am_run_R {ok : Nat → Prop} (hG : am_G ok cl tys ct ak K0 nm bt wsM cls mL rt ini ftc fl kc kl gs ro cal oi nw) : ∀ (d y : Nat) (as : List Value) (h : List va_E) (v : Option Value) (h' : List va_E) (nc ns : Nat), am_run cls mL rt ini ftc fl kc kl gs ro cal oi nw thr xc xs fuel d y as h = some (.inl v, h', nc, ns) → ∀ (ad : Nat → Nat) (sz : Nat), Met l (nm y) (wsM y) (am_rm d nc ns) (am_Pre D cl ct tys ak K0 ad h sz as) (am_Post D cl ct tys X ad h.length (va_A (am_ws ad ct h) sz) (.inl v) h' nc) nc ns (va_A (am_ws ad ct h) sz) := by
  obtain ⟨h0, hTY, hok, hall⟩ := hG
  intro d
  induction d with
  | zero => intro y as h v h' nc ns hr; cases hr
  | succ d ih =>
    intro y as h v h' nc ns hr ad sz
    obtain ⟨hw, hex⟩ := am_if hr
    have hw := of_decide_eq_true hw
    obtain ⟨i0, hi0⟩ := am_exec_pos hex
    obtain ⟨⟨ws', hws⟩, hpl, hini, hFL, hKL, hOI, hNW, hAR, hfe, hdyn⟩ := hall y (hok y 0 i0 hi0)
    refine Met.ofW (cc := bt y) (maxL := mL y) (ret := rt y) hpl hws ?_
    intro p e s m args below meth c s₁ B hml hv
    obtain ⟨rfl, hsz, hP, hK, hD0, hak, hK0⟩ := hv
    have hts := atoms_spec (ws := wsM y) B.pre
    subst hsz
    have hD := hD0.self (sz := s.heap.size)
    obtain ⟨hCT, hKGR⟩ := hdyn _ s _ hK0 hts
    have hl := lv_entry (as.map (am_tv ad)) (n := mL y) (by rw [am_sl_len, am_cats]; exact hw)
    rw [lg_entry_eq]
    generalize (lg_sl (as.map (am_tv ad)) ++ List.replicate (mL y - (lg_sl (as.map (am_tv ad))).length) Slot.unset).toArray = ls at hl ⊢
    rw [← am_args_lv] at hl
    have hm : am_M p l s m (as.map (am_tv ad)).toArray meth c (am_rm (d + 1) nc ns) (bt y) D cl (va_A (am_ws ad ct h) s.heap.size) tys ct ak (wsM y) (nm y).cls (mL y) K0 (cal (cls y)) nm bt mL rt wsM (fl (cls y)) (kc (cls y)) (kl (cls y)) (gs (cls y)) ro (ini y) (ftc y) (oi (cls y)) (nw (cls y)) (rt y) d :=
      ⟨B.exec, B.bytes, hml, hts, findClass_of_methodNamed B.named, B.notSynchronized, B.returns, hK, h0, hK0, fun q hq => Or.inr hq, hFL, hKGR, hKL, hTY, fun z => (name_of_methodNamed B.named B.method).1.trans (hini z), hCT, hOI, hNW, hAR, hfe, by show d + 9 ≤ d + 1 + 8; omega, Nat.le_refl _⟩
    exact am_exec_R (X := X) (thr := thr y) (xc := xc) (xs := xs) (run := am_run cls mL rt ini ftc fl kc kl gs ro cal oi nw thr xc xs fuel d) hm ih (ad0 := ad) (n0 := h.length) (NC := nc) (NS := ns) (Nat.le_refl _) (Nat.le_refl _) fuel 0 (lv_args 0 as) [] h nc ns hex ad s.heap [] 0 0 ls (by omega) (by omega) hP hD va_S.rf hl hak (fun _ _ => rfl) (Nat.le_refl _) (fun _ => rfl)
end AM6
