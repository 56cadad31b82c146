/-- what holds ahead of a run: the cells, the tables, the constants (K0), at the addresses ad -/
def am_Pre (D : va_G) (cl : List vw_C) (ct : Nat → Nat) (tys : List (ClassId × FieldType)) (ak : Nat → Nat) (K0 : (Nat → Prop) → State → Prop) (ad : Nat → Nat) (h : List va_E) (sz : Nat) (as : List Value) : Array Value → State → Prop :=
  va_Pc (as.map (am_tv ad)) (fun U => U.heap.size = sz ∧ va_P D cl (am_ws ad ct h) U.heap ∧ va_K D cl tys U ∧ va_D (fun _ => True) (am_ws ad ct h) ∧ (∀ i, 1000 ≤ i → ad i = ak i) ∧ K0 (va_A (am_ws ad ct h) sz) U)
/-- an outcome as the machine has it; X: what an exception's cell is -/
def am_oc (X : Nat → Nat → State → Prop) (o : am_O) (ad : Nat → Nat) (oc : Outcome) (t : State) : Prop := match o with
  | .inl v => oc = .returned (v.map (am_tv ad))
  | .inr e => ∃ a, oc = .threw a ∧ X e a t
/-- what holds behind it -/
def am_Post (D : va_G) (cl : List vw_C) (ct : Nat → Nat) (tys : List (ClassId × FieldType)) (X : Nat → Nat → State → Prop) (ad : Nat → Nat) (n0 : Nat) (A : Nat → Prop) (o : am_O) (h' : List va_E) (nc : Nat) : Array Value → State → Outcome → State → Prop :=
  fun _ st oc t => ∃ ad' : Nat → Nat, (∀ i, (i < n0 ∨ 1000 ≤ i) → ad' i = ad i) ∧ (nc = 0 → ad' = ad) ∧ am_oc X o ad' oc t ∧ va_P D cl (am_ws ad' ct h') t.heap ∧ va_K D cl tys t ∧ va_D A (am_ws ad' ct h') ∧ va_F A st t
/-- what is asked of the constants' words -/
def am_K0 (K0 : (Nat → Prop) → State → Prop) : Prop := (∀ (A : Nat → Prop) (U : State) (g : JFrame) (mk : MethodId) (a : Array Value), K0 A U → K0 A (U.calling g mk a)) ∧ ∀ (A A' : Nat → Prop) (s U : State), K0 A s → s.WarmedH U.vm → (∀ q, q < s.heap.size → ¬ A q → U.heap[q]? = s.heap[q]?) → (∀ q, A' q → A q) → K0 A' U
/-- no reference -/
def am_nor (v : Value) : Bool := match v with
  | .ref _ => false
  | _ => true
section AM2
variable {p : Program} {l : Launch} {e : Env} {R : Room} {s : State} {m : MethodId} {args : Array Value} {below : List Frame} {meth : Method} {c : Code} {H : Heap} {locs : List Loc} {cells slots : Nat} {Q : State → Prop}
variable {cc : ByteArray} {D : va_G} {cl : List vw_C} {A : Nat → Prop} {tys : List (ClassId × FieldType)} {ad ct ak : Nat → Nat} {Ts : List Jvm.Cond} {own : String} {nL : Nat} {K0 : (Nat → Prop) → State → Prop} {X : Nat → Nat → State → Prop}
theorem am_free {h : List va_E} (hD : va_D A (am_ws ad ct h)) (hS : va_S A s.heap H locs) (hA : ∀ q, s.heap.size ≤ q → A q) : ∀ q, va_A (am_ws ad ct h) H.size q → A q := by
  intro q hq
  rcases hq with ⟨k, e0, hk⟩ | hq
  · exact hD.2 k _ hk
  · exact hA q (Nat.le_trans hS.1 hq)
theorem am_blind {h : List va_E} {sz : Nat} {as : List Value} (h0 : am_K0 K0) : FrameBlind (am_Pre D cl ct tys ak K0 ad h sz as) := by
  intro a U g mk q
  obtain ⟨q0, q1, qP, qK, qD, qa, q6⟩ := q
  exact ⟨q0, q1, qP, va_K.moved (u := U) (U := U.calling g mk a) (Vm.Alike.refl U.vm) qK, qD, qa, h0.1 _ _ _ _ _ q6⟩
theorem am_ahead {h : List va_E} {as : List Value} (h0 : am_K0 K0) (hK : va_K D cl tys s) (hP : va_P D cl (am_ws ad ct h) H) (hD : va_D A (am_ws ad ct h)) (hS : va_S A s.heap H locs) (hA : ∀ q, s.heap.size ≤ q → A q) (hak : ∀ i, 1000 ≤ i → ad i = ak i) (hK0 : K0 A s) {av : Array Value} (hav : av = (as.map (am_tv ad)).toArray) : ∀ U : State, U.heap = H → s.WarmedH U.vm → am_Pre D cl ct tys ak K0 ad h H.size as av U := by
  intro U hU hW
  refine ⟨hav, by rw [hU], by rw [hU]; exact hP, va_K.moved hW.alike hK, hD.weaken (fun _ _ _ _ => trivial), hak, ?_⟩
  exact h0.2 A _ s U hK0 hW (fun q h1 h2 => by rw [hU]; exact hS.2.1 q h1 h2) (am_free hD hS hA)
/-- behind a call that came back -/
theorem am_use {h h' : List va_E} {av : Array Value} {v : Option Value} {nc ns pc : Nat} {ls : Array Slot} {st0 rest : List Value}
    (hr : va_Run p l e R s m args below meth c H locs cells slots nc ns (F0 m pc ls st0) rest (am_Post D cl ct tys X ad h.length (va_A (am_ws ad ct h) H.size) (.inl v) h' nc av) (va_A (am_ws ad ct h) H.size))
    (hD : va_D A (am_ws ad ct h)) (hS : va_S A s.heap H locs) (hA : ∀ q, s.heap.size ≤ q → A q)
    (kk : ∀ (ad' : Nat → Nat) (H1 : Heap) (locs1 : List Loc), (∀ i, (i < h.length ∨ 1000 ≤ i) → ad' i = ad i) → (nc = 0 → ad' = ad) → va_P D cl (am_ws ad' ct h') H1 → va_D A (am_ws ad' ct h') → va_S A s.heap H1 locs1 → W p l e R s m args below meth c H1 locs1 (cells + nc) (slots + ns) Q (F0 m (pc + 3) ls ((v.toList.map (am_tv ad')) ++ rest))) :
    W p l e R s m args below meth c H locs cells slots Q (F0 m pc ls st0) := by
  have hf := am_free hD hS hA
  intro T hT X1
  obtain ⟨v1, st₀, t, T', L, h0, X', hL, e1, e2, ⟨ad', a1, a2, a3, a4, a5, a6, hz, hk⟩, st⟩ := hr T hT X1
  have a3 : Outcome.returned v1 = .returned (v.map (am_tv ad')) := a3
  cases a3
  rw [h0] at hz hk
  have hS1 : va_S A s.heap T'.heap (locs ++ L) := ⟨Nat.le_trans hS.1 (by rw [e1]; exact hz), fun q h1 h2 => by rw [e1, hk q (Nat.lt_of_lt_of_le h1 hS.1) (fun z => h2 (hf q z))]; exact hS.2.1 q h1 h2, fun q hq => by
      rcases List.mem_append.mp hq with h | h
      · exact hS.2.2 q h
      · exact hf _ (hL q h)⟩
  obtain ⟨t2, b1, b2⟩ := kk ad' T'.heap (locs ++ L) a1 a2 (by rw [e1]; exact a4) (a6.weaken (fun k q _ z => hf q.1 z)) hS1 T' rfl X'
  refine ⟨t2, st t2 ?_, b2⟩
  have ev : (v.map (am_tv ad')).toList = v.toList.map (am_tv ad') := by cases v <;> rfl
  rw [ev]
  exact b1
/-- a new object -/
theorem am_new {h : List va_E} (hx : p.tables.exec = Jvm.exec) (hb : c.code = cc) (hts : ∀ w ∈ Ts, w.before args s = true) {C : String} {T : u_T} {N ci index : Nat} (hin : ∀ w ∈ u_ws C T N, w ∈ Ts) (ty : Nat → FieldType) (hty : ∀ k, k < N → parseFieldDescriptor (T k).2.2.1 = some (ty k)) (hown : s.vm.findClass own = some m.cls) (hcl : Jvm.Cond.classLink own index C ∈ Ts) (hinst : Jvm.Cond.instantiable C N ∈ Ts) (hini : Jvm.Cond.initialized C ∈ Ts)
    (hK : va_K D cl tys s) (hP : va_P D cl (am_ws ad ct h) H) (hD : va_D A (am_ws ad ct h)) (hS : va_S A s.heap H locs) (hA : ∀ q, s.heap.size ≤ q → A q) (hc : cl[ci]? = some (C, T, N)) {fs : List Value} (hfs : ∀ j, j < N → defaultValue (ty j) = vp_V fs j) (hfn : ∀ v ∈ fs, am_nor v = true) (hcells : cells + 1 ≤ R.cells) (hslots : slots + N ≤ R.slots) {pc : Nat} {ls : Array Slot} {st : List Value} {lv : am_L} (hdg : decode cc pc = .ok (.new index, 3))
    (hl : lv_has ls nL (am_lv ad lv)) (hlen : h.length < 1000) (ho : am_oldL h.length lv st = true) (ho2 : am_oldH h.length h = true)
    (kk : ∀ (ad' : Nat → Nat) (H1 : Heap), (∀ i, (i < h.length ∨ 1000 ≤ i) → ad' i = ad i) → va_P D cl (am_ws ad' ct (h ++ [.inr (ci, fs)])) H1 → va_D A (am_ws ad' ct (h ++ [.inr (ci, fs)])) → va_S A s.heap H1 locs → lv_has ls nL (am_lv ad' lv) → W p l e R s m args below meth c H1 locs (cells + 1) (slots + N) Q (F0 m (pc + 3) ls ((Value.ref h.length :: st).map (am_tv ad')))) :
    W p l e R s m args below meth c H locs cells slots Q (F0 m pc ls (st.map (am_tv ad))) := by
  refine va_new (fs := fs) hx hb hts hin ty hty hown (hts _ hcl) (hts _ hinst) (hts _ hini) hK hP hD hS hA hc hfs hcells hslots hdg (fun q H1 hP1 hD1 hS1 => ?_)
  let ad' : Nat → Nat := fun i => if i = h.length then q else ad i
  have ha : ∀ i, (i < h.length ∨ 1000 ≤ i) → ad' i = ad i := fun i hi => if_neg (by omega)
  unfold am_oldL at ho
  rw [Bool.and_eq_true] at ho
  have ef : fs.map (am_tv ad') = fs := by
    conv => rhs; rw [← List.map_id fs]
    apply List.map_congr_left
    intro v hv
    have := hfn v hv
    cases v with
    | ref i => cases this
    | _ => rfl
  have ew : am_ws ad' ct (h ++ [.inr (ci, fs)]) = am_ws ad ct h ++ [(q, .inr (ci, fs))] := by
    have e0 : am_ws ad' ct (h ++ [.inr (ci, fs)]) = am_ws ad' ct h ++ [(ad' h.length, am_te ad' ct (.inr (ci, fs)))] := by simp [am_ws, List.mapIdx_append]
    rw [e0, am_ws_old ct ha (Nat.le_refl _) ho2]
    have e1 : ad' h.length = q := if_pos rfl
    rw [e1]
    show _ ++ [(q, Sum.inr (ci, fs.map (am_tv ad')))] = _
    rw [ef]
  have k1 := kk ad' H1 ha (by rw [ew]; exact hP1) (by rw [ew]; exact hD1) hS1 (by rw [am_lv_old ha ho.1]; exact hl)
  have es : (Value.ref h.length :: st).map (am_tv ad') = .ref q :: st.map (am_tv ad) := by
    rw [List.map_cons, am_st_old ha ho.2]
    show Value.ref (ad' h.length) :: _ = _
    rw [show ad' h.length = q from if_pos rfl]
  rw [es] at k1
  exact k1
end AM2
