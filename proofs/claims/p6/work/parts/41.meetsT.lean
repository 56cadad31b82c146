set_option maxRecDepth 100000 in
theorem am_s0 : am_fc 34 10 = some (.new 21) ∧ am_fc 34 13 = some .dup ∧ am_fc 34 14 = some (.ldc 23) ∧ am_fc 34 16 = some (.invokespecial 25) ∧ am_fc 34 19 = some .athrow ∧ am_at 613 (.classLink (am_nm 34).cls 21 (am_xn 0)) = true ∧ am_at 614 (.instantiable (am_xn 0) 6) = true ∧ am_at 238 (.initialized (am_xn 0)) = true ∧ (am_kc (am_co 34) 23).isSome = true ∧ Bundle.fit (am_xn 0) = true ∧ (am_nm 34).cls = "ScriptFront$Flaw" := by decide +kernel
set_option maxRecDepth 100000 in
theorem am_s1 : am_fc 169 15 = some (.new 120) ∧ am_fc 169 18 = some .dup ∧ am_fc 169 19 = some (.ldc 122) ∧ am_fc 169 21 = some (.invokespecial 124) ∧ am_fc 169 24 = some .athrow ∧ am_at 1325 (.classLink (am_nm 169).cls 120 (am_xn 1)) = true ∧ am_at 1326 (.instantiable (am_xn 1) 6) = true ∧ am_at 244 (.initialized (am_xn 1)) = true ∧ Bundle.fit (am_xn 1) = true ∧ (am_nm 169).cls = "ScriptFront" := by decide +kernel
set_option maxRecDepth 100000 in
theorem am_s2 : am_fc 169 126 = some (.new 120) ∧ am_fc 169 129 = some .dup ∧ am_fc 169 130 = some (.ldc 146) ∧ am_fc 169 132 = some (.invokespecial 124) ∧ am_fc 169 135 = some .athrow := by decide +kernel
def am_isR (v : Option Value) : Bool := match v with
  | some (.ref _) => true
  | _ => false
theorem am_isR_ok {v : Option Value} (h : am_isR v = true) : ∃ a, v = some (.ref a) := by
  unfold am_isR at h
  split at h
  · exact ⟨_, rfl⟩
  · cases h
set_option maxRecDepth 100000 in
theorem am_s3 : am_isR (am_kc (am_co 34) 23) = true ∧ am_isR (am_kc (am_co 169) 122) = true ∧ am_isR (am_kc (am_co 169) 146) = true := by decide +kernel
theorem am_STall {y pc ex : Nat} (h : am_thr y pc = some ex) (hy : am_okm y) {ak : Nat → Nat} {A : Nat → Prop} {s : State} {args : Array Value} (hts : ∀ w ∈ am_wM y, w.before args s = true) (hK : am_KX ak A s) : am_ST am_xn (am_nm y).cls (am_bt y) (am_wM y) args s pc ex := by
  have hm := am_mem_look h
  simp only [am_thrT, List.mem_cons, List.not_mem_nil, or_false, Prod.mk.injEq] at hm
  rcases hm with ⟨⟨rfl, rfl⟩, rfl⟩ | ⟨⟨rfl, rfl⟩, rfl⟩ | ⟨⟨rfl, rfl⟩, rfl⟩
  · obtain ⟨q0, q1, q2, q3, q4, q5, q6, q7, -, q8, q9⟩ := am_s0
    obtain ⟨a0, ha⟩ := am_isR_ok am_s3.1
    exact am_stAt hy q0 q1 q2 q3 q4 q5 q6 q7 ha q8 (by rw [q9]; exact am_owck0) hts hK
  · obtain ⟨q0, q1, q2, q3, q4, q5, q6, q7, q8, q9⟩ := am_s1
    obtain ⟨a0, ha⟩ := am_isR_ok am_s3.2.1
    exact am_stAt hy q0 q1 q2 q3 q4 q5 q6 q7 ha q8 (by rw [q9]; exact am_owck1) hts hK
  · obtain ⟨q0, q1, q2, q3, q4⟩ := am_s2
    obtain ⟨-, -, -, -, -, q5, q6, q7, q8, q9⟩ := am_s1
    obtain ⟨a0, ha⟩ := am_isR_ok am_s3.2.2
    exact am_stAt hy q0 q1 q2 q3 q4 q5 q6 q7 ha q8 (by rw [q9]; exact am_owck1) hts hK
theorem am_thr_ok {y pc ex : Nat} (h : am_thr y pc = some ex) : am_okm y := by
  have hm := am_mem_look h
  simp only [am_thrT, List.mem_cons, List.not_mem_nil, or_false, Prod.mk.injEq] at hm
  show y < am_me.length
  rw [am_melen]
  omega
/-- EVERY METHOD OF THE CLAIM MEETS ITS RUN, one that comes back and one that throws, on a JVM without stack traces -/
theorem am_meetsB {l : Launch} {D : va_G} {tys : List (ClassId × FieldType)} {ct ak : Nat → Nat} (hTY : am_TY tys ct) {fuel d y : Nat} {as : List Value} {h h' : List va_E} {v : Option Value} {nc ns : Nat} (hr : am_all am_thr fuel d y as h = some (.inl v, h', nc, ns)) (ad : Nat → Nat) (sz : Nat) :
    Met l (am_nm y) (am_wM y) (am_rm d nc ns) (am_Pre D am_cl ct tys ak (am_KX ak) ad h sz as) (am_Post D am_cl ct tys (am_X am_xn) ad h.length (va_A (am_ws ad ct h) sz) (.inl v) h' nc) nc ns (va_A (am_ws ad ct h) sz) := am_run_R (am_GX hTY ak) d y as h v h' nc ns hr ad sz
theorem am_meetsT {l : Launch} (hfl : ∀ e : Env, l.admits e → e.platform.stackTraces = false) {D : va_G} {tys : List (ClassId × FieldType)} {ct ak : Nat → Nat} (hTY : am_TY tys ct) {fuel d y : Nat} {as : List Value} {h h' : List va_E} {ex nc ns : Nat} (hr : am_all am_thr fuel d y as h = some (.inr ex, h', nc, ns)) (ad : Nat → Nat) (sz : Nat) :
    am_MT l (am_nm y) (am_wM y) (am_rm d nc ns) (am_Pre D am_cl ct tys ak (am_KX ak) ad h sz as) (am_Post D am_cl ct tys (am_X am_xn) ad h.length (va_A (am_ws ad ct h) sz) (.inr ex) h' nc) nc ns (va_A (am_ws ad ct h) sz) :=
  am_run_T (am_X_o am_xn) (am_GX hTY ak) (fun y pc e h => am_thr_ok h) (fun y hy p e R s m args below meth c A h1 h2 h3 h4 h5 h6 h7 h8 h9 h10 h11 h12 h13 h14 => am_site am_xn (hfl e h1) h2 h3 h4 h5 h6 h7 h8 h9 h11 h12 h13 h14 (fun pc ex hp => am_STall hp hy h5 h10)) d y as h ex h' nc ns hr ad sz
