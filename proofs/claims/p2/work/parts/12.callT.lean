section AM8
variable {p : Program} {l : Launch} {e : Env} {R : Room} {s : State} {m : MethodId} {args : Array Value} {below : List Frame} {meth : Method} {c : Code} {H : Heap} {locs : List Loc} {cells slots : Nat}
variable {cc : ByteArray} {D : va_G} {cl : List vw_C} {A : Nat → Prop} {tys : List (ClassId × FieldType)} {ad ct ak : Nat → Nat} {Ts : List Jvm.Cond} {own : String} {nL : Nat} {K0 : (Nat → Prop) → State → Prop} {X : Nat → Nat → State → Prop}
variable {cal : Instr → Option (Nat × Nat × Nat × Nat)} {nm : Nat → MethodName} {bt : Nat → ByteArray} {mL : Nat → Nat} {rt : Nat → Option FieldType} {wsM : Nat → List Jvm.Cond}
/-- what is asked of X: it looks at the cells and the tables alone -/
def am_XO (X : Nat → Nat → State → Prop) : Prop := ∀ (e a : Nat) (t u : State), t.heap = u.heap → t.vm = u.vm → X e a t → X e a u
theorem am_endT (hX : am_XO X) {h h' : List va_E} {ad0 : Nat → Nat} {n0 nc ns NC NS ex : Nat} {st₀ t T' : State} {x : Addr} {L : List Loc} {g : JFrame} {av : Array Value} (hlocks : meth.locks = false) (hnh : c.exceptionTable.isEmpty = true)
    (X' : Stand p l e R s m args below meth c T' (locs ++ L) (cells + nc) (slots + ns)) (hh : st₀.heap = H) (hL : ∀ q ∈ L, va_A (am_ws ad ct h) H.size q.base) (e1 : T'.heap = t.heap) (e2 : T'.vm = t.vm)
    (hq : am_Post D cl ct tys X ad h.length (va_A (am_ws ad ct h) H.size) (.inr ex) h' nc av st₀ (.threw x) t) (hD : va_D A (am_ws ad ct h)) (hS : va_S A s.heap H locs) (hA : ∀ q, s.heap.size ≤ q → A q) (hg : g.method = m) (hgl : g.locked = none) (hge : g.entered = [])
    (hcn : cells + nc = NC) (hsn : slots + ns = NS) (hag : ∀ i, (i < n0 ∨ 1000 ≤ i) → ad i = ad0 i) (hn0 : n0 ≤ h.length) (hc0 : cells = 0 → ad = ad0) {T0 : State} (hst : Steps p.tables e below T0 ((T'.setTop g).pushFrame (.throwing x))) :
    ∃ tf, Steps p.tables e below T0 tf ∧ am_MQT below (am_Post D cl ct tys X ad0 n0 A (.inr ex) h' NC) args s NC NS A tf := by
  have hf := am_free hD hS hA
  obtain ⟨ad', a1, a2, ⟨x1, ex1, a3⟩, a4, a5, a6, hz, hk⟩ := hq
  cases ex1
  rw [hh] at hz hk
  have hS1 : va_S A s.heap T'.heap (locs ++ L) := ⟨Nat.le_trans hS.1 (by rw [e1]; exact hz), fun q h1 h2 => by rw [e1, hk q (Nat.lt_of_lt_of_le h1 hS.1) (fun z => h2 (hf q z))]; exact hS.2.1 q h1 h2, fun q hq => by
      rcases List.mem_append.mp hq with h | h
      · exact hS.2.2 q h
      · exact hf _ (hL q h)⟩
  obtain ⟨w1, w2, w3, w4, w5⟩ := X'.leaveThrown x hg hgl hge (by
    intro z hz
    rw [Array.isEmpty_iff] at hnh
    rw [hnh] at hz
    cases hz) hlocks
  subst hcn; subst hsn
  refine ⟨_, hst.trans w1, .threw x, w2, w3, ⟨ad', fun i hi => (a1 i (hi.imp (fun z => Nat.lt_of_lt_of_le z hn0) id)).trans (hag i hi), fun z => ?_, ⟨x, rfl, hX ex x t _ e1.symm e2.symm a3⟩, ?_, ?_, a6.weaken (fun k q _ z => hf q.1 z), hS1.F rfl⟩, locs ++ L, ⟨⟨x, rfl⟩, w4, w5⟩, hS1.2.2⟩
  · have z1 : cells = 0 := by omega
    have z2 : nc = 0 := by omega
    rw [a2 z2, hc0 z1]
  · show va_P D cl (am_ws ad' ct h') T'.heap
    rw [e1]
    exact a4
  · refine va_K.moved (u := t) ?_ a5
    show t.vm.Alike T'.vm
    rw [e2]
    exact Vm.Alike.refl _
set_option maxHeartbeats 1000000 in
/-- a call whose method throws -/
theorem am_callT (hX : am_XO X) (hx : p.tables.exec = Jvm.exec) (hb : c.code = cc) (hml : c.maxLocals = nL) (hlocks : meth.locks = false) (hnh : c.exceptionTable.isEmpty = true) (hts : ∀ w ∈ Ts, w.before args s = true) (hown : s.vm.findClass own = some m.cls) (hK : va_K D cl tys s) (h0 : am_K0 K0) (hCT : am_CT cal own cl Ts s nm bt mL rt wsM)
    {i : Instr} {q : Nat × Nat × Nat × Nat} (hq : cal i = some q) (hq2 : q.1 < 2) {d nc ns NC NS ex n0 : Nat} {ad0 : Nat → Nat} {h h' : List va_E} {st : List Value} {w : List Value × List Value} (hw : am_pop (am_vir q.1) q.2.2.1 st = some w) (h8 : (w.2.map fun v => v.category).sum ≤ 8)
    (hrc : q.1 = 0 → am_rcv w.1 h q.2.2.2 = true)
    (hM : am_MT l (nm q.2.1) (wsM q.2.1) (am_rm d nc ns) (am_Pre D cl ct tys ak K0 ad h H.size w.1) (am_Post D cl ct tys X ad h.length (va_A (am_ws ad ct h) H.size) (.inr ex) h' nc) nc ns (va_A (am_ws ad ct h) H.size))
    (hR : d + 9 ≤ R.frames ∧ (d + 1) * 40 + 400 ≤ R.locals) (hc : cells + nc ≤ R.cells) (hs : slots + ns ≤ R.slots) {pc : Nat} {ls : Array Slot} (hd : decode cc pc = .ok (i, 3)) (hls : ls.size = nL)
    (hP : va_P D cl (am_ws ad ct h) H) (hD : va_D A (am_ws ad ct h)) (hS : va_S A s.heap H locs) (hA : ∀ q, s.heap.size ≤ q → A q) (hak : ∀ i, 1000 ≤ i → ad i = ak i) (hK0 : K0 A s)
    (hcn : cells + nc = NC) (hsn : slots + ns = NS) (hag : ∀ i, (i < n0 ∨ 1000 ≤ i) → ad i = ad0 i) (hn0 : n0 ≤ h.length) (hc0 : cells = 0 → ad = ad0) :
    W p l e R s m args below meth c H locs cells slots (am_MQT below (am_Post D cl ct tys X ad0 n0 A (.inr ex) h' NC) args s NC NS A) (F0 m pc ls (st.map (am_tv ad))) := by
  obtain ⟨⟨ws', hws⟩, hm20, hd3, hkind⟩ := hCT i q hq
  obtain ⟨hp1, hp2⟩ := am_pop_eq hw
  have hR2 : (am_rm d nc ns).frames + 1 ≤ R.frames ∧ 8 + (mL q.2.1 + 11) + (am_rm d nc ns).locals ≤ R.locals := by
    refine ⟨by show d + 8 + 1 ≤ _; omega, ?_⟩
    show 8 + (mL q.2.1 + 11) + (d * 40 + 400) ≤ _
    omega
  have hroom : ∀ (pc : Nat) (ls : Array Slot) (rest : List Value), 2 * (F0 m pc ls rest).monitorRoom + ((w.2.map (am_tv ad)).map fun v => v.category).sum ≤ 8 := fun pc ls rest => lv_room (by rw [am_cats]; exact h8)
  intro T hT X1
  rcases hkind with ⟨k0, index, C, T1, N, rfl, hcl, hC, hG⟩ | ⟨k1, index, rfl, hG⟩ | ⟨k2, -⟩ | ⟨k3, -⟩
  · obtain ⟨a, as, ew, el, est⟩ := hp1 (by rw [k0]; rfl)
    have hrc := hrc k0
    rw [ew] at hrc
    unfold am_rcv at hrc
    simp only at hrc
    split at hrc
    · next o ho =>
      have ho2 : o.1 = q.2.2.2 := by simpa using hrc
      have hav : (Value.ref (ad a) :: as.map (am_tv ad)).toArray = (w.1.map (am_tv ad)).toArray := by rw [ew]; rfl
      have hat := am_ws_at (ad := ad) (ct := ct) ho
      have e1 : am_te ad ct (.inr o) = .inr (q.2.2.2, o.2.map (am_tv ad)) := by rw [← ho2]; rfl
      rw [e1] at hat
      obtain ⟨cellB, hcell, hobj, hcls⟩ := va_recv hK hP hcl hat
      obtain ⟨⟨c1, c2, c3, c4, c5, c6, c7, c8, hy, hlen, hlink⟩, hinst, hsel⟩ := cwV (R := R) (rm := am_rm d nc ns) (mc := nc) (ms := ns) q.2.2.1 hts hG hws rfl rfl ⟨hC, hd3⟩ hR2
      obtain ⟨mk, methM, hnamed, hmethM, hstM, habM⟩ := Cond.instanceMethod_spec hinst
      obtain ⟨methM', cM, hmethM', -, -, -, -, -, -, hsigM⟩ := Cond.code_spec hnamed c7
      cases hmethM.symm.trans hmethM'
      obtain ⟨z1, z2, z3, q1, q2, q3, q4, kP, hkP, hkPi⟩ := Cond.selects_spec hsel
      cases hcls.symm.trans q1
      cases (State.methodFound?_of_named hnamed hy).symm.trans q2
      cases hnamed.symm.trans q3
      have hselP : selectMethod e.platform s.vm cellB.cls mk = .method mk := by rw [Launch.admits_selectMethod X1.admits]; exact q4
      obtain ⟨vm₁, X₁, hstep₁⟩ := X1.invokevirtual hx hown hlink hnamed hmethM hstM hkP hkPi hy (a := ad a) (cell := cellB) (by rw [hT]; exact hcell)
        (fun z h => by rw [h] at hobj; cases hobj) hselP hmethM habM hkP hkPi (g := F0 m pc ls (st.map (am_tv ad))) rfl (argsL := as.map (am_tv ad)) (rest := w.2.map (am_tv ad)) (by rw [List.length_map, el]; exact hlen _ hsigM) (by show st.map (am_tv ad) = _; rw [est, List.map_append, List.map_reverse]; rfl) (by rw [hb]; exact hd)
      obtain ⟨x, st₀, t, T', L, r1, X', r2, r3, r4, r5, r6⟩ := am_backT hM (am_blind h0) c1 c2 c3 c4 c5 c6 (fun a' U hW => word_at hW (Or.inl (by first | rfl | simp [Cond.onTables, Cond.keeps, Cond.steady])) c8) X₁ (g := { F0 m pc ls (st.map (am_tv ad)) with stack := w.2.map (am_tv ad) }) (mk := mk) (a := (Value.ref (ad a) :: as.map (am_tv ad)).toArray) rfl (hls.trans hml.symm) (by rw [hb]; exact hd) (hroom _ _ _) (X₁.named hnamed) hc hs (am_ahead h0 hK hP hD hS hA hak hK0 hav _ hT X₁.warmed)
      exact am_endT hX hlocks hnh X' (r1.trans hT) r2 r3 r4 r5 hD hS hA rfl rfl rfl hcn hsn hag hn0 hc0 (hstep₁ _ fun acts => by rw [doInvoke_state]; exact r6)
    · cases hrc
  · obtain ⟨el, est⟩ := hp2 (by rw [k1]; rfl)
    obtain ⟨⟨c1, c2, c3, c4, c5, c6, c7, c8, hy, hlen, hlink⟩, hstat⟩ := va_cwS (R := R) (rm := am_rm d nc ns) (mc := nc) (ms := ns) q.2.2.1 hts hG hws rfl rfl hd3 hR2
    obtain ⟨mk, hnamed⟩ := Cond.code_named c7
    obtain ⟨methM, cM, hmethM, -, -, -, -, -, -, hsigM⟩ := Cond.code_spec hnamed c7
    have hstatic : methM.isStatic = true := Cond.static_spec hnamed hmethM hstat
    obtain ⟨kP, hkP, -⟩ := className_of_methodNamed hnamed
    have hinitP : kP.init = .initialized := Cond.initialized_spec (findClass_of_methodNamed hnamed) hkP c8
    obtain ⟨vm₁, X₁, hstep₁⟩ := X1.invokestatic hx hown hlink hnamed hmethM hstatic hkP hinitP hy (g := F0 m pc ls (st.map (am_tv ad))) rfl (argsL := w.1.map (am_tv ad)) (rest := w.2.map (am_tv ad)) (by rw [List.length_map, el]; exact hlen _ hsigM) (by show st.map (am_tv ad) = _; rw [est, List.map_append, List.map_reverse]) (by rw [hb]; exact hd)
    obtain ⟨x, st₀, t, T', L, r1, X', r2, r3, r4, r5, r6⟩ := am_backT hM (am_blind h0) c1 c2 c3 c4 c5 c6 (fun a' U hW => word_at hW (Or.inl (by first | rfl | simp [Cond.onTables, Cond.keeps, Cond.steady])) c8) X₁ (g := { F0 m pc ls (st.map (am_tv ad)) with stack := w.2.map (am_tv ad) }) (mk := mk) (a := (w.1.map (am_tv ad)).toArray) rfl (hls.trans hml.symm) (by rw [hb]; exact hd) (hroom _ _ _) (X₁.named hnamed) hc hs (am_ahead h0 hK hP hD hS hA hak hK0 rfl _ hT X₁.warmed)
    exact am_endT hX hlocks hnh X' (r1.trans hT) r2 r3 r4 r5 hD hS hA rfl rfl rfl hcn hsn hag hn0 hc0 (hstep₁ _ fun acts => by rw [doInvoke_state]; exact r6)
  · omega
  · omega
end AM8
