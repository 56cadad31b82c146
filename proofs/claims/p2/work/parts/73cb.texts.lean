/-! ===== TEXTS: what is known of them, and String's own methods ===== -/
/-- the texts (places 1000 to 1038, their bytes 3000 to 3038), the row of signs (1039), two statics of the JDK -/
def am_TK (ak : Nat → Nat) (A : Nat → Prop) (U : State) : Prop :=
  (∀ a, 1000 ≤ a → a < 1039 → va_O "java/lang/String" (ak a) A U U.heap ∧ va_OF "java/lang/String" "coder" "B" (.int 0) (ak a) A U U.heap ∧ va_OF "java/lang/String" "value" "[B" (.ref (ak (a + 2000))) (ak a) A U U.heap ∧ va_T .byte (ak (a + 2000)) (cm_kn a).toNat (fun j => .int (Int32.ofInt (cm_ka a (j : Int)))) A U U.heap) ∧
  va_Z "java/lang/String" "COMPACT_STRINGS" "Z" (.int 1) A U U.heap ∧
  (∃ f : Value, f.category = 1 ∧ va_Z "jdk/internal/util/Preconditions" "SIOOBE_FORMATTER" "Ljava/util/function/BiFunction;" (am_tv ak f) A U U.heap ∧ ∀ a, f = .ref a → 1000 ≤ a) ∧
  va_Z "ScriptFront$Token" "SIGNS" "[I" (.ref (ak 1039)) A U U.heap ∧ va_T .int (ak 1039) 48 (fun j => .int (Int32.ofInt (cm_ka 1039 (j : Int)))) A U U.heap
def am_KY (ak : Nat → Nat) (A : Nat → Prop) (U : State) : Prop := am_KX ak A U ∧ am_TK ak A U
theorem am_KY_ok (ak : Nat → Nat) : am_K0 (am_KY ak) := by
  refine ⟨fun A U g mk a h => ?_, fun A A' s U h hW hk hA => ?_⟩
  · obtain ⟨h0, h1, h2, ⟨f, f1, f2, f3⟩, h4, h5⟩ := h
    have r := Vm.Alike.refl U.vm
    exact ⟨(am_KX_ok ak).1 _ _ _ _ _ h0, fun a h6 h7 => ⟨va_O.moved (u := U) (U := U.calling g mk _) r (h1 a h6 h7).1, va_OF.moved (u := U) (U := U.calling g mk _) r (h1 a h6 h7).2.1, va_OF.moved (u := U) (U := U.calling g mk _) r (h1 a h6 h7).2.2.1, va_T.moved (u := U) (U := U.calling g mk _) r (h1 a h6 h7).2.2.2⟩, va_Z.moved (u := U) (U := U.calling g mk _) r h2, ⟨f, f1, va_Z.moved (u := U) (U := U.calling g mk _) r f2, f3⟩, va_Z.moved (u := U) (U := U.calling g mk _) r h4, va_T.moved (u := U) (U := U.calling g mk _) r h5⟩
  · obtain ⟨h0, h1, h2, ⟨f, f1, f2, f3⟩, h4, h5⟩ := h
    have r := hW.alike
    exact ⟨(am_KX_ok ak).2 _ _ _ _ h0 hW hk hA, fun a h6 h7 => ⟨(((h1 a h6 h7).1.kept hk).narrow hA).moved r, (((h1 a h6 h7).2.1.kept hk).narrow hA).moved r, (((h1 a h6 h7).2.2.1.kept hk).narrow hA).moved r, (((h1 a h6 h7).2.2.2.kept hk).narrow hA).moved r⟩, ((h2.kept hk).narrow hA).moved r, ⟨f, f1, ((f2.kept hk).narrow hA).moved r, f3⟩, ((h4.kept hk).narrow hA).moved r, ((h5.kept hk).narrow hA).moved r⟩
/-- String's own methods: 0 length, 1 charAt, 2 isEmpty, 3 coder, 4 isLatin1, 5 StringLatin1.charAt, 6 checkIndex, 7 Preconditions.checkIndex; where their words lie -/
def tx_T : List (MethodName × Nat × Nat × Option FieldType) := [(⟨"java/lang/String", "length", "()I"⟩, 707, 1, some .int), (⟨"java/lang/String", "charAt", "(I)C"⟩, 717, 2, some .char), (⟨"java/lang/String", "isEmpty", "()Z"⟩, 1231, 1, some .boolean), (⟨"java/lang/String", "coder", "()B"⟩, 711, 1, some .byte), (⟨"java/lang/String", "isLatin1", "()Z"⟩, 721, 1, some .boolean), (⟨"java/lang/StringLatin1", "charAt", "([BI)C"⟩, 724, 2, some .char), (⟨"java/lang/String", "checkIndex", "(II)V"⟩, 727, 2, none), (⟨"jdk/internal/util/Preconditions", "checkIndex", "(IILjava/util/function/BiFunction;)I"⟩, 732, 3, some .int)]
def tx_q (k : Nat) : MethodName × Nat × Nat × Option FieldType := tx_T.getD k (⟨"", "", ""⟩, 0, 0, none)
def tx_nm (k : Nat) : MethodName := (tx_q k).1
def tx_bt (k : Nat) : ByteArray := am_bx (tx_q k).2.1
def tx_mL (k : Nat) : Nat := (tx_q k).2.2.1
def tx_rt (k : Nat) : Option FieldType := (tx_q k).2.2.2
def tx_ws (k : Nat) : List Jvm.Cond := Jvm.Cond.code (tx_nm k) (tx_bt k) (tx_mL k) (tx_rt k) :: am_Ts
set_option maxRecDepth 100000 in
theorem tx_codes : (List.range 8).all (fun k => am_at (tx_q k).2.1 (.code (tx_nm k) (tx_bt k) (tx_mL k) (tx_rt k)) && plainName (tx_nm k).cls) = true := by decide +kernel
theorem tx_code {k : Nat} (h : k < 8) : Jvm.Cond.code (tx_nm k) (tx_bt k) (tx_mL k) (tx_rt k) ∈ am_Ts ∧ plainName (tx_nm k).cls = true := by
  have := j_and (List.all_eq_true.mp tx_codes k (List.mem_range.mpr h))
  exact ⟨am_at_in this.1, this.2⟩
theorem tx_wsT {k : Nat} (h : k < 8) : ∀ w ∈ tx_ws k, w ∈ am_Ts := by
  intro w hw
  rcases List.mem_cons.mp hw with rfl | hw
  · exact (tx_code h).1
  · exact hw
section TX
variable {p : Program} {l : Launch} {e : Env} {R : Room} {s : State} {m : MethodId} {args : Array Value} {below : List Frame} {meth : Method} {c : Code} {H : Heap} {locs : List Loc} {cells slots : Nat} {Q : State → Prop}
variable {cc : ByteArray} {D : va_G} {cl : List vw_C} {A : Nat → Prop} {tys : List (ClassId × FieldType)} {ad ct ak : Nat → Nat} {Ts : List Jvm.Cond} {own : String} {nL : Nat} {K0 : (Nat → Prop) → State → Prop} {X : Nat → Nat → State → Prop}
/-- a call of a text's method -/
theorem am_callX (hx : p.tables.exec = Jvm.exec) (hb : c.code = cc) (hml : c.maxLocals = nL) (hts : ∀ w ∈ Ts, w.before args s = true) (hown : s.vm.findClass own = some m.cls) (hK : va_K D cl tys s) (h0 : am_K0 K0)
    {index d nc ns n a : Nat} {tn : MethodName} {tb : ByteArray} {tL : Nat} {trt : Option FieldType} {tws ws' : List Jvm.Cond} (hws : tws = Jvm.Cond.code tn tb tL trt :: ws') (hm20 : tL ≤ 20) (hC : tn.cls = "java/lang/String") (hd3 : tn.cls ≠ "java/lang/invoke/MethodHandle" ∧ tn.cls ≠ "java/lang/invoke/VarHandle" ∧ (parseMethodDescriptor tn.desc).map (fun d => d.parameters.length) = some n) (hG : GoodIn Ts (wsV own index "java/lang/String" tn tws))
    {h h' : List va_E} {as rest : List Value} {v : Option Value} (el : as.length = n) (h8 : (rest.map fun v => v.category).sum ≤ 8) (hO : va_O "java/lang/String" (ad a) A s s.heap)
    (hM : Met l tn tws (am_rm d nc ns) (am_Pre D cl ct tys ak K0 ad h H.size (.ref a :: as)) (am_Post D cl ct tys X ad h.length (va_A (am_ws ad ct h) H.size) (.inl v) h' nc) nc ns (va_A (am_ws ad ct h) H.size))
    (hR : d + 9 ≤ R.frames ∧ (d + 1) * 40 + 400 ≤ R.locals) (hc : cells + nc ≤ R.cells) (hs : slots + ns ≤ R.slots) {pc : Nat} {ls : Array Slot} (hd : decode cc pc = .ok (.invokevirtual index, 3)) (hls : ls.size = nL)
    (hP : va_P D cl (am_ws ad ct h) H) (hD : va_D A (am_ws ad ct h)) (hS : va_S A s.heap H locs) (hA : ∀ q, s.heap.size ≤ q → A q) (hak : ∀ i, 1000 ≤ i → ad i = ak i) (hK0 : K0 A s)
    (kk : ∀ (ad' : Nat → Nat) (H1 : Heap) (locs1 : List Loc), (∀ i, (i < h.length ∨ 1000 ≤ i) → ad' i = ad i) → (nc = 0 → ad' = ad) → va_P D cl (am_ws ad' ct h') H1 → va_D A (am_ws ad' ct h') → va_S A s.heap H1 locs1 → W p l e R s m args below meth c H1 locs1 (cells + nc) (slots + ns) Q (F0 m (pc + 3) ls ((v.toList.map (am_tv ad')) ++ rest.map (am_tv ad)))) :
    W p l e R s m args below meth c H locs cells slots Q (F0 m pc ls ((as.reverse ++ .ref a :: rest).map (am_tv ad))) := by
  have hR2 : (am_rm d nc ns).frames + 1 ≤ R.frames ∧ 8 + (tL + 11) + (am_rm d nc ns).locals ≤ R.locals := by
    refine ⟨by show d + 8 + 1 ≤ _; omega, ?_⟩
    show 8 + (tL + 11) + (d * 40 + 400) ≤ _
    omega
  have hroom : ∀ (pc : Nat) (ls : Array Slot) (r : List Value), 2 * (F0 m pc ls r).monitorRoom + ((rest.map (am_tv ad)).map fun v => v.category).sum ≤ 8 := fun pc ls r => lv_room (by rw [am_cats]; exact h8)
  have hav : (Value.ref (ad a) :: as.map (am_tv ad)).toArray = ((.ref a :: as).map (am_tv ad)).toArray := rfl
  refine am_use (X := X) (rest := rest.map (am_tv ad)) (va_runV (As := as.map (am_tv ad)) (b := ad a) ⟨hx, hb, hml, hown, hts⟩ hM (cwV n hts hG hws rfl rfl ⟨hC, hd3⟩ hR2) ⟨am_blind h0, ?_, am_ahead h0 hK hP hD hS hA hak hK0 hav⟩ rfl (by rw [List.length_map]; exact el) hls ?_ (hroom _ _ _) hd ⟨hc, hs⟩) hD hS hA kk
  · obtain ⟨cell, q1, q2, q3, -⟩ := hO.kept hS.2.1
    exact ⟨cell, q1, q2, q3⟩
  · show (as.reverse ++ .ref a :: rest).map (am_tv ad) = _
    rw [List.map_append, List.map_reverse]
    rfl
/-- a static call -/
theorem am_callY (hx : p.tables.exec = Jvm.exec) (hb : c.code = cc) (hml : c.maxLocals = nL) (hts : ∀ w ∈ Ts, w.before args s = true) (hown : s.vm.findClass own = some m.cls) (hK : va_K D cl tys s) (h0 : am_K0 K0)
    {index d nc ns n : Nat} {tn : MethodName} {tb : ByteArray} {tL : Nat} {trt : Option FieldType} {tws ws' : List Jvm.Cond} (hws : tws = Jvm.Cond.code tn tb tL trt :: ws') (hm20 : tL ≤ 20) (hd3 : tn.cls ≠ "java/lang/invoke/MethodHandle" ∧ tn.cls ≠ "java/lang/invoke/VarHandle" ∧ (parseMethodDescriptor tn.desc).map (fun d => d.parameters.length) = some n) (hG : GoodIn Ts (va_wsS own index tn tws))
    {h h' : List va_E} {as rest : List Value} {v : Option Value} (el : as.length = n) (h8 : (rest.map fun v => v.category).sum ≤ 8)
    (hM : Met l tn tws (am_rm d nc ns) (am_Pre D cl ct tys ak K0 ad h H.size as) (am_Post D cl ct tys X ad h.length (va_A (am_ws ad ct h) H.size) (.inl v) h' nc) nc ns (va_A (am_ws ad ct h) H.size))
    (hR : d + 9 ≤ R.frames ∧ (d + 1) * 40 + 400 ≤ R.locals) (hc : cells + nc ≤ R.cells) (hs : slots + ns ≤ R.slots) {pc : Nat} {ls : Array Slot} (hd : decode cc pc = .ok (.invokestatic index, 3)) (hls : ls.size = nL)
    (hP : va_P D cl (am_ws ad ct h) H) (hD : va_D A (am_ws ad ct h)) (hS : va_S A s.heap H locs) (hA : ∀ q, s.heap.size ≤ q → A q) (hak : ∀ i, 1000 ≤ i → ad i = ak i) (hK0 : K0 A s)
    (kk : ∀ (ad' : Nat → Nat) (H1 : Heap) (locs1 : List Loc), (∀ i, (i < h.length ∨ 1000 ≤ i) → ad' i = ad i) → (nc = 0 → ad' = ad) → va_P D cl (am_ws ad' ct h') H1 → va_D A (am_ws ad' ct h') → va_S A s.heap H1 locs1 → W p l e R s m args below meth c H1 locs1 (cells + nc) (slots + ns) Q (F0 m (pc + 3) ls ((v.toList.map (am_tv ad')) ++ rest.map (am_tv ad)))) :
    W p l e R s m args below meth c H locs cells slots Q (F0 m pc ls ((as.reverse ++ rest).map (am_tv ad))) := by
  have hR2 : (am_rm d nc ns).frames + 1 ≤ R.frames ∧ 8 + (tL + 11) + (am_rm d nc ns).locals ≤ R.locals := by
    refine ⟨by show d + 8 + 1 ≤ _; omega, ?_⟩
    show 8 + (tL + 11) + (d * 40 + 400) ≤ _
    omega
  have hroom : ∀ (pc : Nat) (ls : Array Slot) (r : List Value), 2 * (F0 m pc ls r).monitorRoom + ((rest.map (am_tv ad)).map fun v => v.category).sum ≤ 8 := fun pc ls r => lv_room (by rw [am_cats]; exact h8)
  refine am_use (X := X) (rest := rest.map (am_tv ad)) (va_runS (As := as.map (am_tv ad)) ⟨hx, hb, hml, hown, hts⟩ hM (va_cwS n hts hG hws rfl rfl hd3 hR2) ⟨am_blind h0, am_ahead h0 hK hP hD hS hA hak hK0 rfl⟩ rfl (by rw [List.length_map]; exact el) hls ?_ (hroom _ _ _) hd ⟨hc, hs⟩) hD hS hA kk
  show (as.reverse ++ rest).map (am_tv ad) = _
  rw [List.map_append, List.map_reverse]
end TX
/-- what a frame of String's own methods stands on -/
def tx_C (p : Program) (s : State) (m : MethodId) (args : Array Value) (meth : Method) (c : Code) (cc : ByteArray) (D : va_G) (A : Nat → Prop) (tys : List (ClassId × FieldType)) (ct ak ad : Nat → Nat) (Ts : List Jvm.Cond) (own : String) (nL : Nat) (ret : Option FieldType) : Prop :=
  p.tables.exec = Jvm.exec ∧ c.code = cc ∧ c.maxLocals = nL ∧ (∀ w ∈ Ts, w.before args s = true) ∧ (∀ w ∈ am_Ts, w ∈ Ts) ∧ s.vm.findClass own = some m.cls ∧ meth.locks = false ∧ meth.sig.returnType = ret ∧ va_K D am_cl tys s ∧ am_KY ak A s ∧ (∀ q, s.heap.size ≤ q → A q) ∧ am_TY tys ct ∧ (∀ i, 1000 ≤ i → ad i = ak i)
/-- the frame at pc, with the cells h untouched -/
def tx_G (p : Program) (l : Launch) (e : Env) (R : Room) (s : State) (m : MethodId) (args : Array Value) (below : List Frame) (meth : Method) (c : Code) (D : va_G) (A : Nat → Prop) (ct ad : Nat → Nat) (h : List va_E) (nL : Nat) (Q : State → Prop) (pc : Nat) (lv : am_L) (st : List Value) : Prop :=
  ∀ (H : Heap) (locs : List Loc) (ls : Array Slot), va_P D am_cl (am_ws ad ct h) H → va_D A (am_ws ad ct h) → va_S A s.heap H locs → lv_has ls nL (am_lv ad lv) → W p l e R s m args below meth c H locs 0 0 Q (F0 m pc ls (st.map (am_tv ad)))
section TX2
variable {p : Program} {l : Launch} {e : Env} {R : Room} {s : State} {m : MethodId} {args : Array Value} {below : List Frame} {meth : Method} {c : Code} {Q : State → Prop}
variable {cc : ByteArray} {D : va_G} {A : Nat → Prop} {tys : List (ClassId × FieldType)} {ad ct ak : Nat → Nat} {Ts : List Jvm.Cond} {own : String} {nL : Nat} {X : Nat → Nat → State → Prop} {h : List va_E} {ret : Option FieldType} {pc : Nat} {lv lv' : am_L} {st st' rest : List Value}
theorem tx_st (hC : tx_C p s m args meth c cc D A tys ct ak ad Ts own nL ret) {i : Instr} {n pc' : Nat} (hd : decode cc pc = .ok (i, n)) (hn : n = am_len i) (hst : am_step (fun _ => none) (fun _ => none) (fun _ => none) (fun _ => none) (fun _ => none) false nL i pc lv st h = some (pc', lv', st', h)) (k : tx_G p l e R s m args below meth c D A ct ad h nL Q pc' lv' st') : tx_G p l e R s m args below meth c D A ct ad h nL Q pc lv st := by
  obtain ⟨hx, hb, hml, hts, hT, hown, hlk, hrt, hK, hK0, hA, hTY, hak⟩ := hC
  intro H locs ls hP hD hS hl
  exact am_step_ok (Ts := Ts) hx hb hts hown hK (fun _ _ z => (by cases z)) (fun _ _ z => (by cases z)) (fun _ _ z => (by cases z)) (fun _ _ z => (by cases z)) (fun _ _ _ z => (by cases z)) hTY (fun z => by cases z) hst ⟨n, hd, fun _ => hn⟩ hP hD hS hl (fun H1 locs1 ls1 hP1 hD1 hS1 hl1 => k H1 locs1 ls1 hP1 hD1 hS1 hl1)
theorem tx_gs (hC : tx_C p s m args meth c cc D A tys ct ak ad Ts own nL ret) {idx : Nat} {v : Value} {C n d : String} (hd : decode cc pc = .ok (.getstatic idx, 3)) (hz : va_Z C n d (am_tv ad v) A s s.heap) (hl : Jvm.Cond.fieldLink own idx C n d ∈ am_Ts) (k : tx_G p l e R s m args below meth c D A ct ad h nL Q (pc + 3) lv (v :: st)) : tx_G p l e R s m args below meth c D A ct ad h nL Q pc lv st := by
  obtain ⟨hx, hb, hml, hts, hT, hown, hlk, hrt, hK, hK0, hA, hTY, hak⟩ := hC
  intro H locs ls hP hD hS hlv
  refine am_step_ok (Ts := Ts) (fl := fun _ => none) (kc := fun _ => none) (kl := fun _ => none) (gs := fun k => if k = idx then some v else none) (ro := fun _ => none) (ini := false) (nL := nL) (i := .getstatic idx) (pc' := pc + 3) (lv' := lv) (st' := v :: st) (h' := h) hx hb hts hown hK (fun _ _ z => (by cases z)) (fun _ _ z => (by cases z)) (fun _ _ z => (by cases z)) (fun k w z => ?_) (fun _ _ _ z => (by cases z)) hTY (fun z => by cases z) ?_ ⟨3, hd, fun _ => rfl⟩ hP hD hS hlv (fun H1 locs1 ls1 hP1 hD1 hS1 hl1 => k H1 locs1 ls1 hP1 hD1 hS1 hl1)
  · obtain ⟨e1, e2⟩ := cm_if_eq (c := k = idx) z
    subst e1
    cases e2
    exact ⟨C, n, d, hz, hT _ hl⟩
  · show (if idx = idx then some v else none).bind _ = _
    rw [if_pos rfl]
    rfl
theorem tx_gf (hC : tx_C p s m args meth c cc D A tys ct ak ad Ts own nL ret) {idx a : Nat} {v : Value} {n d : String} (hd : decode cc pc = .ok (.getfield idx, 3)) (hz : va_OF "java/lang/String" n d (am_tv ad v) (ad a) A s s.heap) (hl : Jvm.Cond.fieldLink own idx "java/lang/String" n d ∈ am_Ts) (k : tx_G p l e R s m args below meth c D A ct ad h nL Q (pc + 3) lv (v :: st)) : tx_G p l e R s m args below meth c D A ct ad h nL Q pc lv (.ref a :: st) := by
  obtain ⟨hx, hb, hml, hts, hT, hown, hlk, hrt, hK, hK0, hA, hTY, hak⟩ := hC
  intro H locs ls hP hD hS hlv
  exact vk_getf hx hb hz hS hown (hts _ (hT _ hl)) (fun _ z => z) hd (k H locs ls hP hD hS hlv)
theorem tx_al (hC : tx_C p s m args meth c cc D A tys ct ak ad Ts own nL ret) {a N : Nat} {ty : FieldType} {f : Nat → Value} (hd : decode cc pc = .ok (.arraylength, 1)) (hz : va_T ty (ad a) N f A s s.heap) (k : tx_G p l e R s m args below meth c D A ct ad h nL Q (pc + 1) lv (.int (Int32.ofNat N) :: st)) : tx_G p l e R s m args below meth c D A ct ad h nL Q pc lv (.ref a :: st) := by
  obtain ⟨hx, hb, hml, hts, hT, hown, hlk, hrt, hK, hK0, hA, hTY, hak⟩ := hC
  intro H locs ls hP hD hS hlv
  exact va_tlen hx hb hz hS rfl hd (k H locs ls hP hD hS hlv)
theorem tx_ba (hC : tx_C p s m args meth c cc D A tys ct ak ad Ts own nL ret) {a N : Nat} {f : Nat → Int32} {j : Int32} (hd : decode cc pc = .ok (.baload, 1)) (hz : va_T .byte (ad a) N (fun i => .int (f i)) A s s.heap) (hj : vp_in j N) (k : tx_G p l e R s m args below meth c D A ct ad h nL Q (pc + 1) lv (.int (f j.toNatClampNeg) :: st)) : tx_G p l e R s m args below meth c D A ct ad h nL Q pc lv (.int j :: .ref a :: st) := by
  obtain ⟨hx, hb, hml, hts, hT, hown, hlk, hrt, hK, hK0, hA, hTY, hak⟩ := hC
  intro H locs ls hP hD hS hlv
  exact va_tb hx hb hz hS hj rfl hd (k H locs ls hP hD hS hlv)
theorem tx_po (hC : tx_C p s m args meth c cc D A tys ct ak ad Ts own nL ret) {v : Value} (hv : v.category = 1) (hd : decode cc pc = .ok (.pop, 1)) (k : tx_G p l e R s m args below meth c D A ct ad h nL Q (pc + 1) lv st) : tx_G p l e R s m args below meth c D A ct ad h nL Q pc lv (v :: st) := by
  obtain ⟨hx, hb, hml, hts, hT, hown, hlk, hrt, hK, hK0, hA, hTY, hak⟩ := hC
  intro H locs ls hP hD hS hlv
  exact lv_pop hx hb hd (by rw [am_tv_cat]; exact hv) (k H locs ls hP hD hS hlv)
/-- an int is answered -/
theorem tx_ir {ty : FieldType} (hC : tx_C p s m args meth c cc D A tys ct ak ad Ts own nL (some ty)) {x : Int32} (hd : decode cc pc = .ok (.ireturn, 1)) (hn : narrow ty (.int x) = .int x) : tx_G p l e R s m args below meth c D A ct ad h nL (MQ below (am_Post D am_cl ct tys X ad h.length A (.inl (some (.int x))) h 0) args s 0 0 A) pc lv [.int x] := by
  obtain ⟨hx, hb, hml, hts, hT, hown, hlk, hrt, hK, hK0, hA, hTY, hak⟩ := hC
  intro H locs ls hP hD hS hlv
  exact W.zret hx hb hrt hn (fun t ht hW => ⟨ad, fun _ _ => rfl, fun _ => rfl, rfl, by rw [ht]; exact hP, va_K.moved hW.alike hK, hD, hS.F ht⟩) hS.2.2 hd hlk
theorem tx_vr (hC : tx_C p s m args meth c cc D A tys ct ak ad Ts own nL none) (hd : decode cc pc = .ok (.return_, 1)) : tx_G p l e R s m args below meth c D A ct ad h nL (MQ below (am_Post D am_cl ct tys X ad h.length A (.inl none) h 0) args s 0 0 A) pc lv [] := by
  obtain ⟨hx, hb, hml, hts, hT, hown, hlk, hrt, hK, hK0, hA, hTY, hak⟩ := hC
  intro H locs ls hP hD hS hlv
  exact W.vret hx hb hrt (fun t ht hW => ⟨ad, fun _ _ => rfl, fun _ => rfl, rfl, by rw [ht]; exact hP, va_K.moved hW.alike hK, hD, hS.F ht⟩) hS.2.2 hd hlk
/-- the contract of String's own method k -/
def tx_M (l : Launch) (D : va_G) (ct : Nat → Nat) (tys : List (ClassId × FieldType)) (ak : Nat → Nat) (X : Nat → Nat → State → Prop) (d k : Nat) (as : List Value) (v : Option Value) : Prop := ∀ (h : List va_E) (ad : Nat → Nat) (sz : Nat), Met l (tx_nm k) (tx_ws k) (am_rm d 0 0) (am_Pre D am_cl ct tys ak (am_KY ak) ad h sz as) (am_Post D am_cl ct tys X ad h.length (va_A (am_ws ad ct h) sz) (.inl v) h 0) 0 0 (va_A (am_ws ad ct h) sz)
theorem tx_cV (hC : tx_C p s m args meth c cc D A tys ct ak ad Ts own nL ret) {index d k n a : Nat} {as : List Value} {v : Option Value} (hd : decode cc pc = .ok (.invokevirtual index, 3)) (hk : k < 8) (hm20 : tx_mL k ≤ 20) (hcl : (tx_nm k).cls = "java/lang/String") (hd3 : (parseMethodDescriptor (tx_nm k).desc).map (fun d => d.parameters.length) = some n) (hG : Jvm.Cond.methodLink own index (tx_nm k) ∈ am_Ts ∧ Jvm.Cond.instanceMethod (tx_nm k) ∈ am_Ts ∧ Jvm.Cond.selects "java/lang/String" (tx_nm k) (tx_nm k) ∈ am_Ts ∧ Jvm.Cond.initialized "java/lang/String" ∈ am_Ts) (el : as.length = n) (h8 : (rest.map fun v => v.category).sum ≤ 8) (ha : 1000 ≤ a ∧ a < 1039) (hM : tx_M l D ct tys ak X d k (.ref a :: as) v) (hR : d + 9 ≤ R.frames ∧ (d + 1) * 40 + 400 ≤ R.locals) (kk : tx_G p l e R s m args below meth c D A ct ad h nL Q (pc + 3) lv (v.toList ++ rest)) : tx_G p l e R s m args below meth c D A ct ad h nL Q pc lv (as.reverse ++ .ref a :: rest) := by
  obtain ⟨hx, hb, hml, hts, hT, hown, hlk, hrt, hK, hK0, hA, hTY, hak⟩ := hC
  intro H locs ls hP hD hS hlv
  refine am_callX (X := X) (d := d) (nc := 0) (ns := 0) (h := h) (h' := h) (tws := tx_ws k) (as := as) (rest := rest) (v := v) hx hb hml hts hown hK (am_KY_ok ak) rfl hm20 hcl ⟨by rw [hcl]; decide, by rw [hcl]; decide, hd3⟩ (am_good hT ?_) el h8 ?_ (hM h ad H.size) hR (by omega) (by omega) hd hlv.1 hP hD hS hA hak hK0 (fun ad' H1 locs1 _ hz hP1 hD1 hS1 => ?_)
  · intro w hw
    rcases List.mem_append.mp hw with z | z
    · simp only [List.mem_cons, List.not_mem_nil, or_false] at z
      rcases z with rfl | rfl | rfl | rfl
      · exact hG.1
      · exact hG.2.1
      · exact hG.2.2.1
      · exact hG.2.2.2
    · exact tx_wsT hk w z
  · rw [hak a ha.1]
    exact (hK0.2.1 a ha.1 ha.2).1
  · have e := hz rfl
    subst e
    have := kk H1 locs1 ls hP1 hD1 hS1 hlv
    rw [List.map_append] at this
    exact this
theorem tx_cS (hC : tx_C p s m args meth c cc D A tys ct ak ad Ts own nL ret) {index d k n : Nat} {as : List Value} {v : Option Value} (hd : decode cc pc = .ok (.invokestatic index, 3)) (hk : k < 8) (hm20 : tx_mL k ≤ 20) (hd3 : (tx_nm k).cls ≠ "java/lang/invoke/MethodHandle" ∧ (tx_nm k).cls ≠ "java/lang/invoke/VarHandle" ∧ (parseMethodDescriptor (tx_nm k).desc).map (fun d => d.parameters.length) = some n) (hG : Jvm.Cond.methodLink own index (tx_nm k) ∈ am_Ts ∧ Jvm.Cond.static (tx_nm k) ∈ am_Ts ∧ Jvm.Cond.initialized (tx_nm k).cls ∈ am_Ts) (el : as.length = n) (h8 : (rest.map fun v => v.category).sum ≤ 8) (hM : tx_M l D ct tys ak X d k as v) (hR : d + 9 ≤ R.frames ∧ (d + 1) * 40 + 400 ≤ R.locals) (kk : tx_G p l e R s m args below meth c D A ct ad h nL Q (pc + 3) lv (v.toList ++ rest)) : tx_G p l e R s m args below meth c D A ct ad h nL Q pc lv (as.reverse ++ rest) := by
  obtain ⟨hx, hb, hml, hts, hT, hown, hlk, hrt, hK, hK0, hA, hTY, hak⟩ := hC
  intro H locs ls hP hD hS hlv
  refine am_callY (X := X) (d := d) (nc := 0) (ns := 0) (h := h) (h' := h) (tws := tx_ws k) (as := as) (rest := rest) (v := v) hx hb hml hts hown hK (am_KY_ok ak) rfl hm20 hd3 (am_good hT ?_) el h8 (hM h ad H.size) hR (by omega) (by omega) hd hlv.1 hP hD hS hA hak hK0 (fun ad' H1 locs1 _ hz hP1 hD1 hS1 => ?_)
  · intro w hw
    rcases List.mem_append.mp hw with z | z
    · simp only [List.mem_cons, List.not_mem_nil, or_false] at z
      rcases z with rfl | rfl | rfl
      · exact hG.1
      · exact hG.2.1
      · exact hG.2.2
    · exact tx_wsT hk w z
  · have e := hz rfl
    subst e
    have := kk H1 locs1 ls hP1 hD1 hS1 hlv
    rw [List.map_append] at this
    exact this
end TX2
set_option maxHeartbeats 1000000 in
/-- a method's contract by its frame -/
theorem tx_of {l : Launch} {D : va_G} {ct ak : Nat → Nat} {tys : List (ClassId × FieldType)} {X : Nat → Nat → State → Prop} (hTY : am_TY tys ct) {d k : Nat} {as : List Value} {v : Option Value} (hk : k < 8) (hw : (as.map fun v => v.category).sum ≤ tx_mL k)
    (hb : ∀ (p : Program) (e : Env) (s : State) (m : MethodId) (below : List Frame) (meth : Method) (c : Code) (A : Nat → Prop) (ad : Nat → Nat) (h : List va_E), tx_C p s m (as.map (am_tv ad)).toArray meth c (tx_bt k) D A tys ct ak ad (tx_ws k) (tx_nm k).cls (tx_mL k) (tx_rt k) → tx_G p l e (am_rm (d + 1) 0 0) s m (as.map (am_tv ad)).toArray below meth c D A ct ad h (tx_mL k) (MQ below (am_Post D am_cl ct tys X ad h.length A (.inl v) h 0) (as.map (am_tv ad)).toArray s 0 0 A) 0 (lv_args 0 as) []) : tx_M l D ct tys ak X (d + 1) k as v := by
  intro h ad sz
  refine Met.ofW (cc := tx_bt k) (maxL := tx_mL k) (ret := tx_rt k) (tx_code hk).2 rfl ?_
  intro p e s m args below meth c s₁ B hml hv
  obtain ⟨rfl, hsz, hP, hK, hD0, hak, hK0⟩ := hv
  have hts := atoms_spec (ws := tx_ws k) B.pre
  subst hsz
  have hD := hD0.self (sz := s.heap.size)
  have hl := lv_entry (as.map (am_tv ad)) (n := tx_mL k) (by rw [am_sl_len, am_cats]; exact hw)
  rw [lg_entry_eq]
  generalize (lg_sl (as.map (am_tv ad)) ++ List.replicate (tx_mL k - (lg_sl (as.map (am_tv ad))).length) Slot.unset).toArray = ls at hl ⊢
  rw [← am_args_lv] at hl
  exact hb p e s m below meth c (va_A (am_ws ad ct h) s.heap.size) ad h ⟨B.exec, B.bytes, hml, hts, fun w hw => List.mem_cons_of_mem _ hw, findClass_of_methodNamed B.named, B.notSynchronized, B.returns, hK, hK0, fun q hq => Or.inr hq, hTY, hak⟩ s.heap [] ls hP hD va_S.rf hl
