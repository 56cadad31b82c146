/-- what a throw's own rows do, at the pcs that thr names -/
def am_SI (p : Program) (l : Launch) (e : Env) (R : Room) (s : State) (m : MethodId) (args : Array Value) (below : List Frame) (meth : Method) (c : Code) (D : va_G) (cl : List vw_C) (A : Nat → Prop) (tys : List (ClassId × FieldType)) (ct ak : Nat → Nat) (nL : Nat) (X : Nat → Nat → State → Prop) (thr : Nat → Option Nat) (xc xs : Nat) : Prop :=
  ∀ (ad0 : Nat → Nat) (n0 NC NS : Nat), NC ≤ R.cells → NS ≤ R.slots → ∀ (pc ex : Nat) (st : List Value) (h : List va_E) (ad : Nat → Nat) (H : Heap) (locs : List Loc) (cells slots : Nat) (ls : Array Slot), thr pc = some ex → (st.map fun v => v.category).sum ≤ 8 → cells + xc = NC → slots + xs = NS → va_P D cl (am_ws ad ct h) H → va_D A (am_ws ad ct h) → va_S A s.heap H locs → ls.size = nL → (∀ i, 1000 ≤ i → ad i = ak i) → (∀ i, (i < n0 ∨ 1000 ≤ i) → ad i = ad0 i) → n0 ≤ h.length → (cells = 0 → ad = ad0) →
    W p l e R s m args below meth c H locs cells slots (am_MQT below (am_Post D cl ct tys X ad0 n0 A (.inr ex) h NC) args s NC NS A) (F0 m pc ls (st.map (am_tv ad)))
/-- a class's statics are none of the world's cells -/
theorem am_NA {D : va_G} {cl : List vw_C} {ws : va_W} {H : Heap} (hP : va_P D cl ws H) {aS : Addr} {cS : Cell} (h1 : H[aS]? = some cS) (h2 : cS.vm.isStatics = true) : ¬ va_A ws H.size aS := by
  intro h
  rcases h with ⟨k, e0, hk⟩ | h
  · have hat := hP k _ hk
    cases e0 with
    | inl x =>
      have hat : H[aS]? = some (vp_cell x.1 x.2) := hat
      rw [h1] at hat
      cases hat
      obtain ⟨a, n, f⟩ := x
      rcases f with f | f | f | f | f <;> cases h2
    | inr o =>
      obtain ⟨r, -, cell, q1, -, q3, -⟩ := hat
      rw [h1] at q1
      cases q1
      rw [q3] at h2
      cases h2
  · exact absurd (Array.getElem?_eq_some_iff.mp h1).1 (Nat.not_lt.mpr h)
section AM10
variable {l : Launch} {D : va_G} {cl : List vw_C} {tys : List (ClassId × FieldType)} {ct ak : Nat → Nat} {K0 : (Nat → Prop) → State → Prop} {X : Nat → Nat → State → Prop}
variable {nm : Nat → MethodName} {bt : Nat → ByteArray} {wsM : Nat → List Jvm.Cond}
variable {cls mL : Nat → Nat} {rt : Nat → Option FieldType} {ini : Nat → Bool} {ftc : Nat → Nat → Option Instr} {fl : Nat → Nat → Option (Nat × Nat × FieldType × Bool)} {kc : Nat → Nat → Option Value} {kl : Nat → Nat → Option Int64} {gs : Nat → Nat → Option Value} {ro : Nat → Option (Nat × (Nat → Int32))} {cal : Nat → Instr → Option (Nat × Nat × Nat × Nat)} {oi : Nat → Nat → Bool} {nw : Nat → Nat → Option (Nat × List Value)} {thr : Nat → Nat → Option Nat} {xc xs fuel : Nat}
theorem am_exec_posT {fetch : Nat → Option Instr} {stp : Instr → Nat → am_L → List Value → List va_E → Option am_F} {cal : Instr → Option (Nat × Nat × Nat × Nat)} {oi : Nat → Bool} {nw : Nat → Option (Nat × List Value)} {run : Nat → List Value → List va_E → Option am_R} {thr : Nat → Option Nat} {ret : Option FieldType} {xc xs kk pc : Nat} {lv : am_L} {st : List Value} {h : List va_E} {z : am_R} (hex : am_exec fetch stp cal oi nw run thr ret xc xs kk pc lv st h = some z) : (∃ e, thr pc = some e) ∨ ∃ i, fetch pc = some i := by
  cases kk with
  | zero => cases hex
  | succ kk =>
    rw [am_exec_s] at hex
    split at hex
    · next e1 he => exact Or.inl ⟨e1, he⟩
    · split at hex
      · cases hex
      · next i hi => exact Or.inr ⟨i, hi⟩
set_option maxHeartbeats 1000000 in
/-- EVERY METHOD MEETS ITS RUN (one that throws) -/
theorem am_run_T {ok : Nat → Prop} (hX : am_XO X) (hG : am_G ok cl tys ct ak K0 nm bt wsM cls mL rt ini ftc fl kc kl gs ro cal oi nw) (hthr : ∀ y pc e, thr y pc = some e → ok y)
    (hS1 : ∀ y, ok y → ∀ (p : Program) (e : Env) (R : Room) (s : State) (m : MethodId) (args : Array Value) (below : List Frame) (meth : Method) (c : Code) (A : Nat → Prop), l.admits e → p.tables.exec = Jvm.exec → c.code = bt y → c.maxLocals = mL y → (∀ w ∈ wsM y, w.before args s = true) → s.vm.findClass (nm y).cls = some m.cls → meth.locks = false → c.exceptionTable.isEmpty = true → va_K D cl tys s → K0 A s → (∀ q, s.heap.size ≤ q → A q) → (∀ (aS : Addr) (cS : Cell), s.heap[aS]? = some cS → cS.vm.isStatics = true → ¬ A aS) → 9 ≤ R.frames → 400 ≤ R.locals → am_SI p l e R s m args below meth c D cl A tys ct ak (mL y) X (thr y) xc xs) :
    ∀ (d y : Nat) (as : List Value) (h : List va_E) (ex : Nat) (h' : List va_E) (nc ns : Nat), am_run cls mL rt ini ftc fl kc kl gs ro cal oi nw thr xc xs fuel d y as h = some (.inr ex, h', nc, ns) → ∀ (ad : Nat → Nat) (sz : Nat), am_MT l (nm y) (wsM y) (am_rm d nc ns) (am_Pre D cl ct tys ak K0 ad h sz as) (am_Post D cl ct tys X ad h.length (va_A (am_ws ad ct h) sz) (.inr ex) h' nc) nc ns (va_A (am_ws ad ct h) sz) := by
  obtain ⟨h0, hTY, hok, hall⟩ := id hG
  intro d
  induction d with
  | zero => intro y as h v h' nc ns hr; cases hr
  | succ d ih =>
    intro y as h ex h' nc ns hr ad sz
    obtain ⟨hw, hex⟩ := am_if hr
    have hw := of_decide_eq_true hw
    have hy : ok y := by
      rcases am_exec_posT hex with ⟨e1, he1⟩ | ⟨i0, hi0⟩
      · exact hthr y 0 e1 he1
      · exact hok y 0 i0 hi0
    obtain ⟨⟨ws', hws⟩, hpl, hini, hFL, hKL, hOI, hNW, hAR, hfe, hdyn⟩ := hall y hy
    refine am_MT.ofW (cc := bt y) (maxL := mL y) (ret := rt y) hpl hws ?_
    intro p e s m args below meth c s₁ B hml hv
    obtain ⟨rfl, hsz, hP, hK, hD0, hak, hK0⟩ := hv
    have hts := atoms_spec (ws := wsM y) B.pre
    subst hsz
    have hD := hD0.self (sz := s.heap.size)
    obtain ⟨hCT, hKGR⟩ := hdyn _ s _ hK0 hts
    have hnh : c.exceptionTable.isEmpty = true := B.noHandlers (hts _ (by rw [hws]; exact List.mem_cons_self))
    have hl := lv_entry (as.map (am_tv ad)) (n := mL y) (by rw [am_sl_len, am_cats]; exact hw)
    rw [lg_entry_eq]
    generalize (lg_sl (as.map (am_tv ad)) ++ List.replicate (mL y - (lg_sl (as.map (am_tv ad))).length) Slot.unset).toArray = ls at hl ⊢
    rw [← am_args_lv] at hl
    have hm : am_M p l s m (as.map (am_tv ad)).toArray meth c (am_rm (d + 1) nc ns) (bt y) D cl (va_A (am_ws ad ct h) s.heap.size) tys ct ak (wsM y) (nm y).cls (mL y) K0 (cal (cls y)) nm bt mL rt wsM (fl (cls y)) (kc (cls y)) (kl (cls y)) (gs (cls y)) ro (ini y) (ftc y) (oi (cls y)) (nw (cls y)) (rt y) d :=
      ⟨B.exec, B.bytes, hml, hts, findClass_of_methodNamed B.named, B.notSynchronized, B.returns, hK, h0, hK0, fun q hq => Or.inr hq, hFL, hKGR, hKL, hTY, fun z => (name_of_methodNamed B.named B.method).1.trans (hini z), hCT, hOI, hNW, hAR, hfe, by show d + 9 ≤ d + 1 + 8; omega, Nat.le_refl _⟩
    have hsi := hS1 y hy p e (am_rm (d + 1) nc ns) s m (as.map (am_tv ad)).toArray below meth c (va_A (am_ws ad ct h) s.heap.size) (Stand.of_body B).admits B.exec B.bytes hml hts (findClass_of_methodNamed B.named) B.notSynchronized hnh hK hK0 (fun q hq => Or.inr hq) (fun aS cS h1 h2 => am_NA hP h1 h2) (by show 9 ≤ d + 1 + 8; omega) (by show 400 ≤ (d + 1) * 40 + 400; omega)
    exact am_exec_T (X := X) (thr := thr y) (xc := xc) (xs := xs) (run := am_run cls mL rt ini ftc fl kc kl gs ro cal oi nw thr xc xs fuel d) hX hnh hm (am_run_R (X := X) (thr := thr) (xc := xc) (xs := xs) (fuel := fuel) hG d) ih (ad0 := ad) (n0 := h.length) (NC := nc) (NS := ns) (Nat.le_refl _) (Nat.le_refl _) (hsi ad h.length nc ns (Nat.le_refl _) (Nat.le_refl _)) fuel 0 (lv_args 0 as) [] h nc ns hex ad s.heap [] 0 0 ls (by omega) (by omega) hP hD va_S.rf hl hak (fun _ _ => rfl) (Nat.le_refl _) (fun _ => rfl)
end AM10
