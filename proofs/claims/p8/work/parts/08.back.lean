/-- a method's room at depth d -/
def am_rm (d nc ns : Nat) : Room := { frames := d + 8, cells := nc, slots := ns, locals := d * 40 + 400 }
/-- what is asked of the calls' words; nm, by, mL, rt, wsM: a method's name, bytes, locals, answer, words -/
def am_CT (cal : Instr → Option (Nat × Nat × Nat × Nat)) (own : String) (cl : List vw_C) (Ts : List Jvm.Cond) (s : State) (nm : Nat → MethodName) (bt : Nat → ByteArray) (mL : Nat → Nat) (rt : Nat → Option FieldType) (wsM : Nat → List Jvm.Cond) : Prop := ∀ i q, cal i = some q → (∃ ws', wsM q.2.1 = Jvm.Cond.code (nm q.2.1) (bt q.2.1) (mL q.2.1) (rt q.2.1) :: ws') ∧ mL q.2.1 ≤ 20 ∧ ((nm q.2.1).cls ≠ "java/lang/invoke/MethodHandle" ∧ (nm q.2.1).cls ≠ "java/lang/invoke/VarHandle" ∧ (parseMethodDescriptor (nm q.2.1).desc).map (fun d => d.parameters.length) = some q.2.2.1) ∧
  ((q.1 = 0 ∧ ∃ index C T N, i = .invokevirtual index ∧ cl[q.2.2.2]? = some (C, T, N) ∧ (nm q.2.1).cls = C ∧ GoodIn Ts (wsV own index C (nm q.2.1) (wsM q.2.1))) ∨
   (q.1 = 1 ∧ ∃ index, i = .invokestatic index ∧ GoodIn Ts (va_wsS own index (nm q.2.1) (wsM q.2.1))) ∨
   (q.1 = 2 ∧ ∃ index, i = .invokespecial index ∧ rt q.2.1 = none ∧ GoodIn Ts (wsM q.2.1) ∧ Jvm.Cond.initialized (nm q.2.1).cls ∈ Ts ∧ Jvm.Cond.methodLink own index (nm q.2.1) ∈ Ts ∧ Jvm.Cond.instanceMethod (nm q.2.1) ∈ Ts ∧ (nm q.2.1).name = "<init>") ∨
   (q.1 = 3 ∧ ∃ index host, i = .invokespecial index ∧ rt q.2.1 = none ∧ GoodIn Ts (wsM q.2.1) ∧ Jvm.Cond.initialized (nm q.2.1).cls ∈ Ts ∧ va_Nw (.methodLinkNest own index (nm q.2.1) host) s ∧ Jvm.Cond.instanceMethod (nm q.2.1) ∈ Ts ∧ (nm q.2.1).name = "<init>"))
def am_OI (oi : Nat → Bool) (own : String) (Ts : List Jvm.Cond) : Prop := ∀ k, oi k = true → Jvm.Cond.methodLink own k Lib.objectInit ∈ Ts ∧ Jvm.Cond.instanceMethod Lib.objectInit ∈ Ts ∧ Jvm.Cond.code Lib.objectInit ⟨#[0xb1]⟩ 1 none ∈ Ts
def am_NW (nw : Nat → Option (Nat × List Value)) (own : String) (cl : List vw_C) (Ts : List Jvm.Cond) : Prop := ∀ k q, nw k = some q → ∃ (C : String) (T : u_T) (ty : Nat → FieldType), cl[q.1]? = some (C, T, q.2.length) ∧ (∀ w ∈ u_ws C T q.2.length, w ∈ Ts) ∧ (∀ j, j < q.2.length → parseFieldDescriptor (T j).2.2.1 = some (ty j)) ∧ Jvm.Cond.classLink own k C ∈ Ts ∧ Jvm.Cond.instantiable C q.2.length ∈ Ts ∧ Jvm.Cond.initialized C ∈ Ts ∧ (∀ j, j < q.2.length → defaultValue (ty j) = vp_V q.2 j) ∧ ∀ v ∈ q.2, am_nor v = true
def am_AR (Ts : List Jvm.Cond) : Prop := ∀ t t0, am_nk t = some t0 → Jvm.Cond.arrayClass (newarray.typeOf t) ∈ Ts
theorem am_pop_eq {vir : Bool} {n : Nat} {st : List Value} {w : List Value × List Value} (h : am_pop vir n st = some w) : (vir = true → ∃ a as, w.1 = .ref a :: as ∧ as.length = n ∧ st = as.reverse ++ .ref a :: w.2) ∧ (vir = false → w.1.length = n ∧ st = w.1.reverse ++ w.2) := by
  unfold am_pop at h
  obtain ⟨h1, h2⟩ := am_if h
  have h1 := of_decide_eq_true h1
  cases vir with
  | true =>
    refine ⟨fun _ => ?_, fun q => by cases q⟩
    simp only at h2
    split at h2
    · next a r hd =>
      cases h2
      refine ⟨a, (st.take n).reverse, rfl, by simp; omega, ?_⟩
      rw [List.reverse_reverse, ← hd, List.take_append_drop]
    · cases h2
  | false =>
    refine ⟨fun q => (by cases q), fun _ => ?_⟩
    cases h2
    exact ⟨by simp; omega, by simp⟩
section AM4
variable {p : Program} {l : Launch} {e : Env} {R : Room} {s : State} {m : MethodId} {args : Array Value} {below : List Frame} {meth : Method} {c : Code} {H : Heap} {locs : List Loc} {cells slots : Nat} {Q : State → Prop}
variable {cc : ByteArray} {D : va_G} {cl : List vw_C} {A : Nat → Prop} {tys : List (ClassId × FieldType)} {ad ct ak : Nat → Nat} {Ts : List Jvm.Cond} {own : String} {nL : Nat} {K0 : (Nat → Prop) → State → Prop} {X : Nat → Nat → State → Prop}
variable {cal : Instr → Option (Nat × Nat × Nat × Nat)} {nm : Nat → MethodName} {bt : Nat → ByteArray} {mL : Nat → Nat} {rt : Nat → Option FieldType} {wsM : Nat → List Jvm.Cond}
theorem am_cats (ad : Nat → Nat) (st : List Value) : ((st.map (am_tv ad)).map fun v => v.category).sum = (st.map fun v => v.category).sum := by
  rw [List.map_map]
  congr 1
  apply List.map_congr_left
  intro v _
  exact am_tv_cat ad v
set_option maxHeartbeats 1000000 in
/-- a call that comes back, of any kind -/
theorem am_callR (hx : p.tables.exec = Jvm.exec) (hb : c.code = cc) (hml : c.maxLocals = nL) (hts : ∀ w ∈ Ts, w.before args s = true) (hown : s.vm.findClass own = some m.cls) (hK : va_K D cl tys s) (h0 : am_K0 K0) (hCT : am_CT cal own cl Ts s nm bt mL rt wsM)
    {i : Instr} {q : Nat × Nat × Nat × Nat} (hq : cal i = some q) {d nc ns : Nat} {h h' : List va_E} {st : List Value} {w : List Value × List Value} {v : Option Value} (hw : am_pop (am_vir q.1) q.2.2.1 st = some w) (h8 : (w.2.map fun v => v.category).sum ≤ 8)
    (hrc : q.1 = 0 → am_rcv w.1 h q.2.2.2 = true)
    (hM : Met l (nm q.2.1) (wsM q.2.1) (am_rm d nc ns) (am_Pre D cl ct tys ak K0 ad h H.size w.1) (am_Post D cl ct tys X ad h.length (va_A (am_ws ad ct h) H.size) (.inl v) h' nc) nc ns (va_A (am_ws ad ct h) H.size))
    (hR : d + 9 ≤ R.frames ∧ (d + 1) * 40 + 400 ≤ R.locals) (hc : cells + nc ≤ R.cells) (hs : slots + ns ≤ R.slots) {pc : Nat} {ls : Array Slot} (hd : decode cc pc = .ok (i, 3)) (hls : ls.size = nL)
    (hP : va_P D cl (am_ws ad ct h) H) (hD : va_D A (am_ws ad ct h)) (hS : va_S A s.heap H locs) (hA : ∀ q, s.heap.size ≤ q → A q) (hak : ∀ i, 1000 ≤ i → ad i = ak i) (hK0 : K0 A s)
    (kk : ∀ (ad' : Nat → Nat) (H1 : Heap) (locs1 : List Loc), (∀ i, (i < h.length ∨ 1000 ≤ i) → ad' i = ad i) → (nc = 0 → ad' = ad) → va_P D cl (am_ws ad' ct h') H1 → va_D A (am_ws ad' ct h') → va_S A s.heap H1 locs1 → W p l e R s m args below meth c H1 locs1 (cells + nc) (slots + ns) Q (F0 m (pc + 3) ls ((v.toList.map (am_tv ad')) ++ w.2.map (am_tv ad)))) :
    W p l e R s m args below meth c H locs cells slots Q (F0 m pc ls (st.map (am_tv ad))) := by
  obtain ⟨⟨ws', hws⟩, hm20, hd3, hkind⟩ := hCT i q hq
  obtain ⟨hp1, hp2⟩ := am_pop_eq hw
  have hR2 : (am_rm d nc ns).frames + 1 ≤ R.frames ∧ 8 + (mL q.2.1 + 11) + (am_rm d nc ns).locals ≤ R.locals := by
    refine ⟨by show d + 8 + 1 ≤ _; omega, ?_⟩
    show 8 + (mL q.2.1 + 11) + (d * 40 + 400) ≤ _
    omega
  have hroom : ∀ (pc : Nat) (ls : Array Slot) (rest : List Value), 2 * (F0 m pc ls rest).monitorRoom + ((w.2.map (am_tv ad)).map fun v => v.category).sum ≤ 8 := fun pc ls rest => lv_room (by rw [am_cats]; exact h8)
  rcases hkind with ⟨k0, index, C, T, N, rfl, hcl, hC, hG⟩ | ⟨k1, index, rfl, hG⟩ | ⟨k2, index, rfl, hrt, hG, hini, hml2, hin, hy1⟩ | ⟨k3, index, host, rfl, hrt, hG, hini, hnw, hin, hy1⟩
  · obtain ⟨a, as, ew, el, est⟩ := hp1 (by rw [k0]; rfl)
    have hrc := hrc k0
    rw [ew] at hrc
    unfold am_rcv at hrc
    simp only at hrc
    split at hrc
    · next o ho =>
      have ho2 : o.1 = q.2.2.2 := by simpa using hrc
      have hav : (Value.ref (ad a) :: as.map (am_tv ad)).toArray = (w.1.map (am_tv ad)).toArray := by rw [ew]; rfl
      refine am_use (X := X) (rest := w.2.map (am_tv ad)) (va_runV (As := as.map (am_tv ad)) (b := ad a) ⟨hx, hb, hml, hown, hts⟩ hM (cwV q.2.2.1 hts hG hws rfl rfl ⟨hC, hd3⟩ hR2) ⟨am_blind h0, ?_, am_ahead h0 hK hP hD hS hA hak hK0 hav⟩ rfl (by rw [List.length_map]; exact el) hls ?_ (hroom _ _ _) hd ⟨hc, hs⟩) hD hS hA kk
      · have hat := am_ws_at (ad := ad) (ct := ct) ho
        have e1 : am_te ad ct (.inr o) = .inr (q.2.2.2, o.2.map (am_tv ad)) := by rw [← ho2]; rfl
        rw [e1] at hat
        exact va_recv hK hP hcl hat
      · show st.map (am_tv ad) = _
        rw [est, List.map_append, List.map_reverse]
        rfl
    · cases hrc
  · obtain ⟨el, est⟩ := hp2 (by rw [k1]; rfl)
    refine am_use (X := X) (rest := w.2.map (am_tv ad)) (va_runS (As := w.1.map (am_tv ad)) ⟨hx, hb, hml, hown, hts⟩ hM (va_cwS q.2.2.1 hts hG hws rfl rfl hd3 hR2) ⟨am_blind h0, am_ahead h0 hK hP hD hS hA hak hK0 rfl⟩ rfl (by rw [List.length_map]; exact el) hls ?_ (hroom _ _ _) hd ⟨hc, hs⟩) hD hS hA kk
    show st.map (am_tv ad) = _
    rw [est, List.map_append, List.map_reverse]
  · obtain ⟨a, as, ew, el, est⟩ := hp1 (by rw [k2]; rfl)
    have hav : (Value.ref (ad a) :: as.map (am_tv ad)).toArray = (w.1.map (am_tv ad)).toArray := by rw [ew]; rfl
    rw [hrt] at hws
    refine am_use (X := X) (rest := w.2.map (am_tv ad)) (va_runI (As := as.map (am_tv ad)) (b := ad a) ⟨hx, hb, hml, hown, hts⟩ hM (cwI q.2.2.1 hts hG hws rfl rfl (hts _ hini) (hts _ hml2) (hts _ hin) hy1 hd3 hR2) ⟨am_blind h0, am_ahead h0 hK hP hD hS hA hak hK0 hav⟩ rfl (by rw [List.length_map]; exact el) hls ?_ (hroom _ _ _) hd ⟨hc, hs⟩) hD hS hA kk
    show st.map (am_tv ad) = _
    rw [est, List.map_append, List.map_reverse]
    rfl
  · obtain ⟨a, as, ew, el, est⟩ := hp1 (by rw [k3]; rfl)
    have hav : (Value.ref (ad a) :: as.map (am_tv ad)).toArray = (w.1.map (am_tv ad)).toArray := by rw [ew]; rfl
    rw [hrt] at hws
    refine am_use (X := X) (rest := w.2.map (am_tv ad)) (va_runIN (As := as.map (am_tv ad)) (b := ad a) ⟨hx, hb, hml, hown, hts⟩ hM ⟨va_cnB q.2.2.1 hts hG hws rfl rfl hnw (hts _ hini) hd3 hR2, hy1, hts _ hin⟩ ⟨am_blind h0, am_ahead h0 hK hP hD hS hA hak hK0 hav⟩ rfl (by rw [List.length_map]; exact el) hls ?_ (hroom _ _ _) hd ⟨hc, hs⟩) hD hS hA kk
    show st.map (am_tv ad) = _
    rw [est, List.map_append, List.map_reverse]
    rfl
end AM4
