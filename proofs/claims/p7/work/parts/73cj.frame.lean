/-! ===== THE LAW'S LOOP: rules of its frame ===== -/
section LW0
variable {p : Program} {l : Launch} {e : Env} {R : Room} {s : State} {m : MethodId} {args : Array Value} {below : List Frame} {meth : Method} {c : Code}
/-- what a frame of the law's class stands on -/
theorem am_ML2 {cc : ByteArray} {D : va_G} {A : Nat → Prop} {tys : List (ClassId × FieldType)} {ct ak : Nat → Nat} {Ts : List Jvm.Cond} {nL d : Nat} {ro : Nat → Option (Nat × (Nat → Int32))} {fetch : Nat → Option Instr} {ret : Option FieldType}
    (hT : ∀ w ∈ am_Ts, w ∈ Ts) (hTY : am_TY tys ct) (hx : p.tables.exec = Jvm.exec) (hb : c.code = cc) (hml : c.maxLocals = nL) (hts : ∀ w ∈ Ts, w.before args s = true) (hown : s.vm.findClass "ScriptFrontLaw" = some m.cls) (hlocks : meth.locks = false) (hret : meth.sig.returnType = ret) (hK : va_K D am_cl tys s) (hK0 : am_KY ak A s) (hA : ∀ q, s.heap.size ≤ q → A q) (hRO : ∀ ad : Nat → Nat, (∀ i, 1000 ≤ i → ad i = ak i) → am_RO ro ad A s)
    (hfe : ∀ pc i, fetch pc = some i → ∃ n, decode cc pc = .ok (i, n) ∧ (am_len i ≠ 0 → n = am_len i)) (hRf : d + 9 ≤ R.frames) (hRl : (d + 1) * 40 + 400 ≤ R.locals) :
    am_M p l s m args meth c R cc D am_cl A tys ct ak Ts "ScriptFrontLaw" nL (am_KY ak) (am_cal 12) am_nm am_bt am_mL am_rt am_wM (am_fl 12) (am_kc 12) (am_kl 12) (fun _ => none) ro false fetch (am_oi 12) (am_nw 12) ret d := by
  rw [← am_cn12] at hown ⊢
  exact ⟨hx, hb, hml, hts, hown, hlocks, hret, hK, am_KY_ok ak, hK0, hA, am_FLok 12 hT, fun ad ha => ⟨am_KCok 12 hT hK0.1.1.1 ha, fun _ _ z => (by cases z), hRO ad ha⟩, am_KLok 12 hT, hTY, fun z => (by cases z), am_CTok am_hM am_hC 12 hT hK0.1.1.1.2, am_OIok 12 hT, am_NWok 12 hT, am_ARok hT, hfe, hRf, hRl⟩
end LW0
def am_lr2 (fL : List (Nat × Instr)) (nL F d : Nat) (as : List Value) (h : List va_E) : Option am_R := am_exec (fun pc => fL.lookup pc) (am_step (am_fl 12) (am_kc 12) (am_kl 12) (fun _ => none) (fun _ => none) false nL) (am_cal2 12) (am_oi 12) (am_nw 12) (am_run2 F d) (fun _ => none) (some .int) 1 6 20 0 (lv_args 0 as) [] h
/-- it comes back -/
theorem am_lr2_R {l : Launch} {D : va_G} {tys : List (ClassId × FieldType)} {ct ak : Nat → Nat} (hTY : am_TY tys ct) {yL : MethodName} {bL : ByteArray} {nL : Nat} {hh : List (Nat × Nat × Nat × Nat)} {fL : List (Nat × Instr)} (hcls : yL.cls = "ScriptFrontLaw") (hck : am_chk bL fL = true)
    {F d : Nat} {as : List Value} {h h' : List va_E} {v : Option Value} {nc ns : Nat} (hw : (as.map fun v => v.category).sum ≤ nL) (hr : am_lr2 fL nL F d as h = some (.inl v, h', nc, ns)) (ad : Nat → Nat) (sz : Nat) :
    Met l yL (Jvm.Cond.codeWith yL bL nL (some FieldType.int) hh :: am_Ts) (am_rm (d + 1) nc ns) (am_Pre D am_cl ct tys ak (am_KY ak) ad h sz as) (am_Post D am_cl ct tys (am_X am_xn) ad h.length (va_A (am_ws ad ct h) sz) (.inl v) h' nc) nc ns (va_A (am_ws ad ct h) sz) := by
  refine va_MetW (cc := bL) (maxL := nL) (ret := some FieldType.int) (hh := hh) (by rw [hcls]; decide +kernel) rfl ?_
  intro p e s m args below meth c s₁ B hml hv
  obtain ⟨rfl, hsz, hP, hK, hD0, hak, hK0⟩ := hv
  have hts := atoms_spec (ws := Jvm.Cond.codeWith yL bL nL (some FieldType.int) hh :: am_Ts) B.pre
  subst hsz
  have hD := hD0.self (sz := s.heap.size)
  have hl := lv_entry (as.map (am_tv ad)) (n := nL) (by rw [am_sl_len, am_cats]; exact hw)
  rw [lg_entry_eq]
  generalize (lg_sl (as.map (am_tv ad)) ++ List.replicate (nL - (lg_sl (as.map (am_tv ad))).length) Slot.unset).toArray = ls at hl ⊢
  rw [← am_args_lv] at hl
  have hown := findClass_of_methodNamed B.named
  rw [hcls] at hown
  have hm := am_ML2 (l := l) (R := am_rm (d + 1) nc ns) (meth := meth) (d := d) (ro := fun _ => none) (fetch := fun pc => fL.lookup pc) (A := va_A (am_ws ad ct h) s.heap.size) am_tsw hTY B.exec B.bytes hml hts hown B.notSynchronized B.returns hK hK0 (fun q hq => Or.inr hq) (fun _ _ _ _ _ z => (by cases z)) (fun pc i hi => am_chk_ok hck hi) (by show d + 9 ≤ d + 1 + 8; omega) (Nat.le_refl _)
  exact am_exec_R2 (X := am_X am_xn) (thr := fun _ => none) (xc := 1) (xs := 6) (run := am_run2 F d) hm am_cn12 am_tsw (fun y as h r hy hr => am_run2_tx hTY hy hr) (am_run2_R (X := am_X am_xn) (F := F) hTY d) (ad0 := ad) (n0 := h.length) (NC := nc) (NS := ns) (Nat.le_refl _) (Nat.le_refl _) 20 0 (lv_args 0 as) [] h nc ns hr ad s.heap [] 0 0 ls (by omega) (by omega) hP hD va_S.rf hl hak (fun _ _ => rfl) (Nat.le_refl _) (fun _ => rfl)

set_option maxHeartbeats 1000000 in
/-- what it calls throws, and is caught -/
theorem am_lr2_T {l : Launch} (hfl : ∀ e : Env, l.admits e → e.platform.stackTraces = false) {D : va_G} {tys : List (ClassId × FieldType)} {ct ak : Nat → Nat} (hTY : am_TY tys ct) {yL : MethodName} {bL : ByteArray} {nL : Nat} {z : Nat × Nat × Nat × Nat} {fL : List (Nat × Instr)} (hcls : yL.cls = "ScriptFrontLaw") (hck : am_chk bL fL = true)
    {F d : Nat} {as : List Value} {h h' : List va_E} {nc ns n pc : Nat} {lv : am_L} {st : List Value} {i : Instr} {q : Nat × Nat × Nat × Nat} {w : List Value × List Value} {ex : Nat} (hw : (as.map fun v => v.category).sum ≤ nL) (hsg : am_seg (fun pc => fL.lookup pc) (am_step (am_fl 12) (am_kc 12) (am_kl 12) (fun _ => none) (fun _ => none) false nL) (am_cal 12) (am_oi 12) (am_nw 12) (fun _ _ _ => none) n 0 (lv_args 0 as) [] h = some ((pc, lv, st, h), 0, 0)) (hi : fL.lookup pc = some i) (hil : am_len i = 3) (hq : am_cal 12 i = some q) (hq2 : q.1 = 0) (hpop : am_pop (am_vir q.1) q.2.2.1 st = some w) (h8 : (w.2.map fun v => v.category).sum ≤ 8) (hrc : am_rcv w.1 h q.2.2.2 = true)
    (hr : am_run2 F d q.2.1 w.1 h = some (.inr ex, h', nc, ns)) (hzc : z.1 ≤ pc ∧ pc < z.2.1) (hz2 : z.2.2.2 ≠ 0) (hlk : Jvm.Cond.classLink "ScriptFrontLaw" z.2.2.2 (am_xn ex) ∈ am_Ts) (hcs : Jvm.Cond.castable (am_xn ex) (am_xn ex) ∈ am_spc)
    {j hp2 : Nat} (hd1 : (∃ k : Fin 4, decode bL z.2.2.1 = .ok (.astore_n k, 1) ∧ (k : Nat) = j ∧ z.2.2.1 + 1 = hp2) ∨ (decode bL z.2.2.1 = .ok (.astore j, 2) ∧ z.2.2.1 + 2 = hp2)) (hj : j < nL) (hd2 : decode bL hp2 = .ok (.iconst 1, 1)) (hd3 : decode bL (hp2 + 1) = .ok (.ireturn, 1)) (ad : Nat → Nat) (sz : Nat) :
    Met l yL (Jvm.Cond.codeWith yL bL nL (some FieldType.int) [z] :: am_Ts) (am_rm (d + 1) nc ns) (am_Pre D am_cl ct tys ak (am_KY ak) ad h sz as) (am_Post D am_cl ct tys (am_X am_xn) ad h.length (va_A (am_ws ad ct h) sz) (.inl (some (.int 1))) h' nc) nc ns (va_A (am_ws ad ct h) sz) := by
  refine va_MetW (cc := bL) (maxL := nL) (ret := some FieldType.int) (hh := [z]) (by rw [hcls]; decide +kernel) rfl ?_
  intro p e s m args below meth c s₁ B hml hv
  obtain ⟨rfl, hsz, hP, hK, hD0, hak, hK0⟩ := hv
  have hts := atoms_spec (ws := Jvm.Cond.codeWith yL bL nL (some FieldType.int) [z] :: am_Ts) B.pre
  subst hsz
  have hD := hD0.self (sz := s.heap.size)
  have hl := lv_entry (as.map (am_tv ad)) (n := nL) (by rw [am_sl_len, am_cats]; exact hw)
  rw [lg_entry_eq]
  generalize (lg_sl (as.map (am_tv ad)) ++ List.replicate (nL - (lg_sl (as.map (am_tv ad))).length) Slot.unset).toArray = ls at hl ⊢
  rw [← am_args_lv] at hl
  have hown := findClass_of_methodNamed B.named
  rw [hcls] at hown
  have hA : ∀ q, s.heap.size ≤ q → va_A (am_ws ad ct h) s.heap.size q := fun q hq => Or.inr hq
  have hm := am_ML2 (l := l) (R := am_rm (d + 1) nc ns) (meth := meth) (d := d) (ro := fun _ => none) (fetch := fun pc => fL.lookup pc) (A := va_A (am_ws ad ct h) s.heap.size) am_tsw hTY B.exec B.bytes hml hts hown B.notSynchronized B.returns hK hK0 hA (fun _ _ _ _ _ z => (by cases z)) (fun pc i hi => am_chk_ok hck hi) (by show d + 9 ≤ d + 1 + 8; omega) (Nat.le_refl _)
  obtain ⟨m9, meth9, c9, k1, k2, k3, k4, k5, k6, k7, k8, k9⟩ := Cond.codeWith_spec (hts _ List.mem_cons_self)
  cases B.named.symm.trans k1
  cases B.method.symm.trans k2
  cases (Stand.of_body B).code.symm.trans k3
  have hsp : ∃ z0 : ExceptionTableEntry, c.exceptionTable.toList = [z0] ∧ (z0.startPc, z0.endPc, z0.handlerPc, z0.catchType) = z := by
    match hE : c.exceptionTable.toList with
    | [] => rw [hE] at k6; cases k6
    | [z0] => rw [hE] at k6; exact ⟨z0, rfl, List.head_eq_of_cons_eq k6⟩
    | _ :: _ :: _ => rw [hE] at k6; cases k6
  obtain ⟨z0, hsplit, hz0⟩ := hsp
  subst hz0
  dsimp only at hzc hz2 hlk hd1
  refine am_seg_W (X := am_X am_xn) hm (fun y as h v h' nc ns hr ad sz => (by cases hr)) n 0 (lv_args 0 as) [] h 0 0 hsg ad s.heap [] 0 0 ls (by omega) (by omega) hP hD va_S.rf hl hak (fun ad1 H1 locs1 ls1 ha hz1 hle hP1 hD1 hS1 hl1 hak1 => ?_)
  obtain ⟨hx, hb, hml, hts, -, hlocks, hret, -, h0, -, -, -, -, -, -, -, hCT, -, -, -, hfe, hRf, hRl⟩ := hm
  have hd : decode bL pc = .ok (i, 3) := by
    obtain ⟨n, hd, hn⟩ := hfe pc i hi
    rw [hd, hn (by rw [hil]; decide), hil]
  refine am_callC am_xn hx hb hml hts hown hK h0 hCT hq hq2 hpop h8 hrc (am_run2_T hfl hTY d _ _ _ _ _ _ _ (am_cal_lt hq) hr ad1 H1.size) ⟨hRf, hRl⟩ (by show 0 + 0 + nc ≤ nc; omega) (by show 0 + 0 + ns ≤ ns; omega) hd hl1.1 hP1 hD1 hS1 hA hak1 hK0 hsplit (by simp [covers, hzc.1, hzc.2]) hz2 (hts _ (List.mem_cons_of_mem _ hlk)) (am_spc_ok hK0.1 _ hcs) (fun ad2 H2 locs2 a ha2 hz hP2 hD2 hS2 => ?_)
  have hl2 : lv_has ls1 nL [] := ⟨hl1.1, hl1.2.1, fun q hq => by cases hq⟩
  have hend : ∀ ls2 : Array Slot, W p l e (am_rm (d + 1) nc ns) s m (as.map (am_tv ad)).toArray below meth c H2 locs2 (0 + 0 + nc) (0 + 0 + ns) (MQ below (am_Post D am_cl ct tys (am_X am_xn) ad h.length (va_A (am_ws ad ct h) s.heap.size) (.inl (some (.int 1))) h' nc) (as.map (am_tv ad)).toArray s nc ns (va_A (am_ws ad ct h) s.heap.size)) (F0 m hp2 ls2 []) := by
    intro ls2
    refine lv_iconst hx hb hd2 (v := 1) (by decide) ?_
    have e1 : 0 + 0 + nc = nc := by omega
    have e2 : 0 + 0 + ns = ns := by omega
    rw [e1, e2]
    exact W.zret hx hb hret (by decide) (fun t ht hW => ⟨ad2, fun i hi => (ha2 i hi).trans (ha i hi), fun z => by
      rw [hz z, hz1 rfl], rfl, by rw [ht]; exact hP2, va_K.moved hW.alike hK, hD2, hS2.F ht⟩) hS2.2.2 hd3 hlocks
  rcases hd1 with ⟨k, d1, d2, d3⟩ | ⟨d1, d2⟩
  · refine lv_astore_n hx hb d1 d2 hl2 hj rfl (fun ls2 _ => ?_)
    rw [d3]
    exact hend ls2
  · refine lv_astore hx hb d1 hl2 hj rfl (fun ls2 _ => ?_)
    rw [d2]
    exact hend ls2
section LW1
variable {l : Launch} {D : va_G} {tys : List (ClassId × FieldType)} {ct ak : Nat → Nat}
theorem am_d3R (hTY : am_TY tys ct) {F d x o : Nat} {h h' : List va_E} {v : Option Value} {nc ns : Nat} (hr : am_lr2 am_fL3 3 F d [.ref x, .ref o] h = some (.inl v, h', nc, ns)) (ad : Nat → Nat) (sz : Nat) :
    Met l am_yL3 am_wL3 (am_rm (d + 1) nc ns) (am_Pre D am_cl ct tys ak (am_KY ak) ad h sz [.ref x, .ref o]) (am_Post D am_cl ct tys (am_X am_xn) ad h.length (va_A (am_ws ad ct h) sz) (.inl v) h' nc) nc ns (va_A (am_ws ad ct h) sz) := am_lr2_R hTY rfl am_kL3 (by show 1 + (1 + 0) ≤ 3; decide) hr ad sz
theorem am_d4R (hTY : am_TY tys ct) {F d x o : Nat} {a b : Int32} {h h' : List va_E} {v : Option Value} {nc ns : Nat} (hr : am_lr2 am_fL4 5 F d [.ref x, .int a, .int b, .ref o] h = some (.inl v, h', nc, ns)) (ad : Nat → Nat) (sz : Nat) :
    Met l am_yL4 am_wL4 (am_rm (d + 1) nc ns) (am_Pre D am_cl ct tys ak (am_KY ak) ad h sz [.ref x, .int a, .int b, .ref o]) (am_Post D am_cl ct tys (am_X am_xn) ad h.length (va_A (am_ws ad ct h) sz) (.inl v) h' nc) nc ns (va_A (am_ws ad ct h) sz) := am_lr2_R hTY rfl am_kL4 (by show 1 + (1 + (1 + (1 + 0))) ≤ 5; decide) hr ad sz
set_option maxRecDepth 100000 in
theorem am_d3T (hfl : ∀ e : Env, l.admits e → e.platform.stackTraces = false) (hTY : am_TY tys ct) {F d x o : Nat} {h h' : List va_E} {nc ns : Nat} (hrc : am_rcv [.ref x] h 0 = true) (hr : am_run2 F d 20 [.ref x] h = some (.inr 0, h', nc, ns)) (ad : Nat → Nat) (sz : Nat) :
    Met l am_yL3 am_wL3 (am_rm (d + 1) nc ns) (am_Pre D am_cl ct tys ak (am_KY ak) ad h sz [.ref x, .ref o]) (am_Post D am_cl ct tys (am_X am_xn) ad h.length (va_A (am_ws ad ct h) sz) (.inl (some (.int 1))) h' nc) nc ns (va_A (am_ws ad ct h) sz) :=
  am_lr2_T hfl hTY rfl am_kL3 (n := 3) (pc := 3) (lv := lv_args 0 [.ref x, .ref o]) (st := [.ref x, .int 0, .ref o]) (i := .invokevirtual 7) (q := (0, 20, 0, 0)) (w := ([.ref x], [.int 0, .ref o])) (ex := 0) (by show 1 + (1 + 0) ≤ 3; decide) rfl rfl rfl am_cal12.1 rfl rfl (by show 1 + (1 + 0) ≤ 8; decide) hrc hr (by decide) (by decide) (am_at_in am_lwck.2.2.2.2.1) (by decide +kernel) (j := 2) (hp2 := 12) (Or.inl ⟨2, by decide +kernel, rfl, rfl⟩) (by decide) (by decide +kernel) (by decide +kernel) ad sz
set_option maxRecDepth 100000 in
theorem am_d4T (hfl : ∀ e : Env, l.admits e → e.platform.stackTraces = false) (hTY : am_TY tys ct) {F d x o : Nat} {a b : Int32} {h h' : List va_E} {nc ns : Nat} (hrc : am_rcv [.ref x, .int a, .int b] h 0 = true) (hr : am_run2 F d 169 [.ref x, .int a, .int b] h = some (.inr 1, h', nc, ns)) (ad : Nat → Nat) (sz : Nat) :
    Met l am_yL4 am_wL4 (am_rm (d + 1) nc ns) (am_Pre D am_cl ct tys ak (am_KY ak) ad h sz [.ref x, .int a, .int b, .ref o]) (am_Post D am_cl ct tys (am_X am_xn) ad h.length (va_A (am_ws ad ct h) sz) (.inl (some (.int 1))) h' nc) nc ns (va_A (am_ws ad ct h) sz) :=
  am_lr2_T hfl hTY rfl am_kL4 (n := 5) (pc := 5) (lv := lv_args 0 [.ref x, .int a, .int b, .ref o]) (st := [.int b, .int a, .ref x, .int 0, .ref o]) (i := .invokevirtual 15) (q := (0, 169, 2, 0)) (w := ([.ref x, .int a, .int b], [.int 0, .ref o])) (ex := 1) (by show 1 + (1 + (1 + (1 + 0))) ≤ 5; decide) rfl rfl rfl am_cal12.2 rfl rfl (by show 1 + (1 + 0) ≤ 8; decide) hrc hr (by decide) (by decide) (am_at_in am_lwck.2.2.2.2.2.2.2.2) (by decide +kernel) (j := 4) (hp2 := 15) (Or.inr ⟨by decide +kernel, rfl⟩) (by decide) (by decide +kernel) (by decide +kernel) ad sz
end LW1
theorem am_cal212 : am_cal2 12 (.invokevirtual 7) = some (0, 20, 0, 0) ∧ am_cal2 12 (.invokevirtual 15) = some (0, 169, 2, 0) := ⟨am_cal2_of am_cal12.1, am_cal2_of am_cal12.2⟩
/-- parse comes back: its answer lies in out -/
theorem am_e3 {F d : Nat} {z : Int32} {g : Nat → Int64} {h h' : List va_E} (hrc : am_rcv [.ref 0] h 0 = true) (hr : am_run2 F d 20 [.ref 0] h = some (.inl (some (.int z)), h', 0, 0)) (hl : h.length ≤ h'.length) (ho : h'[72]? = some (.inl (4, 1, .inr (.inl g)))) : am_lr2 am_fL3 3 F d [.ref 0, .ref 72] h = some (.inl (some (.int 0)), h'.set 72 (.inl (4, 1, .inr (.inl (vp_updL g 0 z.toInt64)))), 0, 0) := by
  unfold am_lr2
  rw [am_step1 (i := .aload_n 1) (q := (1, lv_args 0 [.ref 0, .ref 72], [.ref 72], h)) rfl rfl rfl rfl rfl rfl]
  rw [am_step1 (i := .iconst 0) (q := (2, lv_args 0 [.ref 0, .ref 72], [.int 0, .ref 72], h)) rfl rfl rfl rfl rfl rfl]
  rw [am_step1 (i := .aload_n 0) (q := (3, lv_args 0 [.ref 0, .ref 72], [.ref 0, .int 0, .ref 72], h)) rfl rfl rfl rfl rfl rfl]
  rw [am_callx (i := .invokevirtual 7) (q := (0, 20, 0, 0)) (w := ([.ref 0], [.int 0, .ref 72])) rfl rfl rfl rfl am_cal212.1 rfl (by rw [Bool.and_eq_true]; exact ⟨rfl, hrc⟩) hr (by rw [Bool.and_eq_true]; exact ⟨decide_eq_true hl, rfl⟩)]
  rw [am_step1 (i := .i2l) (q := (7, lv_args 0 [.ref 0, .ref 72], [.long z.toInt64, .int 0, .ref 72], h')) rfl rfl rfl rfl rfl rfl]
  rw [am_step1 (i := .lastore) (q := (8, lv_args 0 [.ref 0, .ref 72], [], h'.set 72 (.inl (4, 1, .inr (.inl (vp_updL g 0 z.toInt64)))))) rfl rfl rfl rfl rfl (by
    show am_rowl h' 72 _ = _
    unfold am_rowl
    rw [ho]
    rfl)]
  rw [am_step1 (i := .goto 6) (q := (14, lv_args 0 [.ref 0, .ref 72], [], h'.set 72 (.inl (4, 1, .inr (.inl (vp_updL g 0 z.toInt64)))))) rfl rfl rfl rfl rfl rfl]
  rw [am_step1 (i := .iconst 0) (q := (15, lv_args 0 [.ref 0, .ref 72], [.int 0], h'.set 72 (.inl (4, 1, .inr (.inl (vp_updL g 0 z.toInt64)))))) rfl rfl rfl rfl rfl rfl]
  rfl
theorem am_e4 {F d : Nat} {a b z : Int32} {g : Nat → Int64} {h h' : List va_E} (hrc : am_rcv [.ref 0, .int a, .int b] h 0 = true) (hr : am_run2 F d 169 [.ref 0, .int a, .int b] h = some (.inl (some (.int z)), h', 0, 0)) (hl : h.length ≤ h'.length) (ho : h'[72]? = some (.inl (4, 1, .inr (.inl g)))) : am_lr2 am_fL4 5 F d [.ref 0, .int a, .int b, .ref 72] h = some (.inl (some (.int 0)), h'.set 72 (.inl (4, 1, .inr (.inl (vp_updL g 0 z.toInt64)))), 0, 0) := by
  unfold am_lr2
  rw [am_step1 (i := .aload_n 3) (q := (1, lv_args 0 [.ref 0, .int a, .int b, .ref 72], [.ref 72], h)) rfl rfl rfl rfl rfl rfl]
  rw [am_step1 (i := .iconst 0) (q := (2, lv_args 0 [.ref 0, .int a, .int b, .ref 72], [.int 0, .ref 72], h)) rfl rfl rfl rfl rfl rfl]
  rw [am_step1 (i := .aload_n 0) (q := (3, lv_args 0 [.ref 0, .int a, .int b, .ref 72], [.ref 0, .int 0, .ref 72], h)) rfl rfl rfl rfl rfl rfl]
  rw [am_step1 (i := .iload_n 1) (q := (4, lv_args 0 [.ref 0, .int a, .int b, .ref 72], [.int a, .ref 0, .int 0, .ref 72], h)) rfl rfl rfl rfl rfl rfl]
  rw [am_step1 (i := .iload_n 2) (q := (5, lv_args 0 [.ref 0, .int a, .int b, .ref 72], [.int b, .int a, .ref 0, .int 0, .ref 72], h)) rfl rfl rfl rfl rfl rfl]
  rw [am_callx (i := .invokevirtual 15) (q := (0, 169, 2, 0)) (w := ([.ref 0, .int a, .int b], [.int 0, .ref 72])) rfl rfl rfl rfl am_cal212.2 rfl (by rw [Bool.and_eq_true]; exact ⟨rfl, hrc⟩) hr (by rw [Bool.and_eq_true]; exact ⟨decide_eq_true hl, rfl⟩)]
  rw [am_step1 (i := .i2l) (q := (9, lv_args 0 [.ref 0, .int a, .int b, .ref 72], [.long z.toInt64, .int 0, .ref 72], h')) rfl rfl rfl rfl rfl rfl]
  rw [am_step1 (i := .lastore) (q := (10, lv_args 0 [.ref 0, .int a, .int b, .ref 72], [], h'.set 72 (.inl (4, 1, .inr (.inl (vp_updL g 0 z.toInt64)))))) rfl rfl rfl rfl rfl (by
    show am_rowl h' 72 _ = _
    unfold am_rowl
    rw [ho]
    rfl)]
  rw [am_step1 (i := .goto 7) (q := (17, lv_args 0 [.ref 0, .int a, .int b, .ref 72], [], h'.set 72 (.inl (4, 1, .inr (.inl (vp_updL g 0 z.toInt64)))))) rfl rfl rfl rfl rfl rfl]
  rw [am_step1 (i := .iconst 0) (q := (18, lv_args 0 [.ref 0, .int a, .int b, .ref 72], [.int 0], h'.set 72 (.inl (4, 1, .inr (.inl (vp_updL g 0 z.toInt64)))))) rfl rfl rfl rfl rfl rfl]
  rfl
/-- what the law's frame stands on -/
def LC (p : Program) (l : Launch) (s : State) (m : MethodId) (meth : Method) (c : Code) (b L : Nat) (xs : Nat → Int32) (D : va_G) (tys : List (ClassId × FieldType)) (ct ak : Nat → Nat) : Prop :=
  p.tables.exec = Jvm.exec ∧ c.code = code ∧ meth.sig.returnType = ret ∧ c.maxLocals = 7 ∧ s.vm.findClass "ScriptFrontLaw" = some m.cls ∧ meth.locks = false ∧ (∀ w ∈ am_Ts, w.before #[Value.ref b] s = true) ∧ va_K D am_cl tys s ∧ am_KY ak (fun q => s.heap.size ≤ q) s ∧ am_TY tys ct ∧ (∀ ad : Nat → Nat, (∀ i, 1000 ≤ i → ad i = ak i) → am_RO (am_roL L xs) ad (fun q => s.heap.size ≤ q) s) ∧ ∀ e : Env, l.admits e → e.platform.stackTraces = false
/-- the law goes well from here, with room for n exceptions -/
def LG (p : Program) (l : Launch) (e : Env) (s : State) (m : MethodId) (below : List Frame) (meth : Method) (c : Code) (b : Nat) (D : va_G) (ct ak : Nat → Nat) (n pc : Nat) (lv : am_L) (st : List Value) (h : List va_E) : Prop :=
  ∀ (ad : Nat → Nat) (Hh : Heap) (locs : List Loc) (cells slots : Nat) (ls : Array Slot), cells + n ≤ 601024 → slots + 6 * n ≤ 7293034 → va_P D am_cl (am_ws ad ct h) Hh → va_D (fun q => s.heap.size ≤ q) (am_ws ad ct h) → va_S (fun q => s.heap.size ≤ q) s.heap Hh locs → lv_has ls 7 (am_lv ad lv) → (∀ i, 1000 ≤ i → ad i = ak i) → W p l e room_1 s m #[Value.ref b] below meth c Hh locs cells slots (lw_Z below #[Value.ref b] s) (F0 m pc ls (st.map (am_tv ad)))
section LW2
variable {p : Program} {l : Launch} {e : Env} {s : State} {m : MethodId} {below : List Frame} {meth : Method} {c : Code} {b L : Nat} {xs : Nat → Int32} {D : va_G} {tys : List (ClassId × FieldType)} {ct ak : Nat → Nat} {n pc : Nat} {lv : am_L} {st : List Value} {h : List va_E}
theorem LG_st (hC : LC p l s m meth c b L xs D tys ct ak) {i : Instr} {pc' : Nat} {lv' : am_L} {st' : List Value} {h' : List va_E} (hi : am_fL0.lookup pc = some i) (hs : am_step (am_fl 12) (am_kc 12) (am_kl 12) (fun _ => none) (am_roL L xs) false 7 i pc lv st h = some (pc', lv', st', h')) (k : LG p l e s m below meth c b D ct ak n pc' lv' st' h') : LG p l e s m below meth c b D ct ak n pc lv st h := by
  obtain ⟨hx, hb, hr, hml, hown, hlk, hts, hK, hKY, hTY, hRO, hfl⟩ := hC
  intro ad Hh locs cells slots ls h1 h2 hP hD hS hl hak
  rw [← am_cn12] at hown
  exact am_step_ok (Ts := am_Ts) hx hb hts hown hK (am_FLok 12 (fun _ h => h)) (am_KCok 12 (fun _ h => h) hKY.1.1.1 hak) (am_KLok 12 (fun _ h => h)) (fun _ _ z => (by cases z)) (hRO ad hak) hTY (fun z => by cases z) hs (am_chk_ok am_kL0 hi) hP hD hS hl (fun H1 locs1 ls1 hP1 hD1 hS1 hl1 => k ad H1 locs1 cells slots ls1 h1 h2 hP1 hD1 hS1 hl1 hak)
theorem LG_dec {i : Instr} (hi : am_fL0.lookup pc = some i) {k : Nat} (hl : am_len i = k) (h0 : k ≠ 0) : decode code pc = .ok (i, k) := by
  obtain ⟨n, h1, h2⟩ := am_chk_ok am_kL0 hi
  rw [h1, h2 (by rw [hl]; exact h0), hl]
theorem LG_call (hC : LC p l s m meth c b L xs D tys ct ak) {i : Instr} {q : Nat × Nat × Nat × Nat} {w : List Value × List Value} {v : Option Value} {h' : List va_E} (hi : am_fL0.lookup pc = some i) (hq : am_cal 12 i = some q) (hil : am_len i = 3) (hw : am_pop (am_vir q.1) q.2.2.1 st = some w) (h8 : (w.2.map fun v => v.category).sum ≤ 8) (hrc : q.1 = 0 → am_rcv w.1 h q.2.2.2 = true) (hr : jRun 400 q.2.1 w.1 h (.inl v, h', 0, 0)) (k : LG p l e s m below meth c b D ct ak n (pc + 3) lv (v.toList ++ w.2) h') : LG p l e s m below meth c b D ct ak n pc lv st h := by
  obtain ⟨hx, hb, hr2, hml, hown, hlk, hts, hK, hKY, hTY, hRO, hfl⟩ := hC
  intro ad Hh locs cells slots ls h1 h2 hP hD hS hl hak
  rw [← am_cn12] at hown
  obtain ⟨N, hN⟩ := hr
  refine am_callR (nL := 7) (X := am_X am_xn) (d := 400) (nc := 0) (ns := 0) hx hb hml hts hown hK (am_KY_ok ak) (am_CTok am_hM am_hC 12 (fun _ h => h) hKY.1.1.1.2) hq hw h8 hrc (am_run2_R (X := am_X am_xn) hTY 400 _ _ _ _ _ _ _ (am_cal_lt hq) (hN N 400 (Nat.le_refl _) (Nat.le_refl _)) ad Hh.size) ⟨by decide, by decide⟩ (by show cells + 0 ≤ 601024; omega) (by show slots + 0 ≤ 7293034; omega) (LG_dec hi hil (by decide)) hl.1 hP hD hS (fun _ h => h) hak hKY (fun ad' H1 locs1 ha hz hP1 hD1 hS1 => ?_)
  have e1 := hz rfl
  subst e1
  have k1 := k ad' H1 locs1 cells slots ls h1 h2 hP1 hD1 hS1 hl hak
  rw [List.map_append] at k1
  exact k1
theorem LG_pop (hC : LC p l s m meth c b L xs D tys ct ak) {v : Value} (hi : am_fL0.lookup pc = some .pop) (hv : v.category = 1) (k : LG p l e s m below meth c b D ct ak n (pc + 1) lv st h) : LG p l e s m below meth c b D ct ak n pc lv (v :: st) h := by
  obtain ⟨hx, hb, hr2, hml, hown, hlk, hts, hK, hKY, hTY, hRO, hfl⟩ := hC
  intro ad Hh locs cells slots ls h1 h2 hP hD hS hl hak
  exact lv_pop hx hb (LG_dec hi rfl (by decide)) (by rw [am_tv_cat]; exact hv) (k ad Hh locs cells slots ls h1 h2 hP hD hS hl hak)
theorem LG_weak {lv2 : am_L} (hs : ∀ q ∈ lv, q ∈ lv2) (k : LG p l e s m below meth c b D ct ak n pc lv st h) : LG p l e s m below meth c b D ct ak n pc lv2 st h := by
  intro ad Hh locs cells slots ls h1 h2 hP hD hS hl hak
  refine k ad Hh locs cells slots ls h1 h2 hP hD hS ⟨hl.1, hl.2.1, fun q hq => hl.2.2 q ?_⟩ hak
  obtain ⟨x, hx, rfl⟩ := List.mem_map.mp hq
  exact List.mem_map.mpr ⟨x, hs x hx, rfl⟩
theorem LG_less {n2 : Nat} (hn : n ≤ n2) (k : LG p l e s m below meth c b D ct ak n pc lv st h) : LG p l e s m below meth c b D ct ak n2 pc lv st h := by
  intro ad Hh locs cells slots ls h1 h2 hP hD hS hl hak
  exact k ad Hh locs cells slots ls (by omega) (by omega) hP hD hS hl hak
theorem LG_end (hC : LC p l s m meth c b L xs D tys ct ak) (hi : am_fL0.lookup pc = some .ireturn) : LG p l e s m below meth c b D ct ak n pc lv [.int 1] h := by
  obtain ⟨hx, hb, hr, hml, hown, hlk, hts, hK, hKY, hTY, hRO, hfl⟩ := hC
  intro ad Hh locs cells slots ls h1 h2 hP hD hS hl hak
  exact va_forget (fun q hq => hS.2.2 q hq) (W.widen (k := 601024) (n := 7293034) (by omega) (by omega) (lw_ret hx hb hr hlk (LG_dec hi rfl (by decide))))
/-- the law's own parse: it comes back -/
theorem LG_3R (hC : LC p l s m meth c b L xs D tys ct ak) {z : Int32} {g : Nat → Int64} {rest : List Value} {h' : List va_E} (hi : am_fL0.lookup pc = some (.invokestatic 32)) (h8 : (rest.map fun v => v.category).sum ≤ 8) (hrc : am_rcv [.ref 0] h 0 = true) (hr : jRun 400 20 [.ref 0] h (.inl (some (.int z)), h', 0, 0)) (hl1 : h.length ≤ h'.length) (ho : h'[72]? = some (.inl (4, 1, .inr (.inl g)))) (k : LG p l e s m below meth c b D ct ak n (pc + 3) lv (.int 0 :: rest) (h'.set 72 (.inl (4, 1, .inr (.inl (vp_updL g 0 z.toInt64)))))) : LG p l e s m below meth c b D ct ak n pc lv (.ref 72 :: .ref 0 :: rest) h := by
  obtain ⟨hx, hb, hr2, hml, hown, hlk, hts, hK, hKY, hTY, hRO, hfl⟩ := hC
  intro ad Hh locs cells slots ls h1 h2 hP hD hS hl hak
  obtain ⟨N, hN⟩ := hr
  refine am_callW (X := am_X am_xn) (y := am_yL3) (index := 32) (n := 2) (d := 401) (nc := 0) (ns := 0) (w := ([.ref 0, .ref 72], rest)) hx hb hml hts hown hK (am_KY_ok ak) rfl am_gL3 (by decide +kernel) (by decide) ?_ h8 (am_d3R hTY (am_e3 hrc (hN N 400 (Nat.le_refl _) (Nat.le_refl _)) hl1 ho) ad Hh.size) ⟨by decide, by decide⟩ (by show cells + 0 ≤ 601024; omega) (by show slots + 0 ≤ 7293034; omega) (LG_dec hi rfl (by decide)) hl.1 hP hD hS (fun _ h => h) hak hKY (fun ad3 Hh3 locs3 ha3 hz3 hP3 hD3 hS3 => ?_)
  · show (if decide (2 ≤ (Value.ref 72 :: Value.ref 0 :: rest).length) = true then some (([Value.ref 72, Value.ref 0] : List Value).reverse, rest) else none) = _
    rw [if_pos (by simp)]
    rfl
  · have ez := hz3 rfl
    subst ez
    exact k ad3 Hh3 locs3 cells slots ls h1 h2 hP3 hD3 hS3 hl hak
/-- it throws, and is caught -/
theorem LG_3T (hC : LC p l s m meth c b L xs D tys ct ak) {rest : List Value} {h' : List va_E} (hi : am_fL0.lookup pc = some (.invokestatic 32)) (h8 : (rest.map fun v => v.category).sum ≤ 8) (hold : am_oldL h.length lv rest = true) (hrc : am_rcv [.ref 0] h 0 = true) (hr : jRun 400 20 [.ref 0] h (.inr 0, h', 1, 6)) (k : LG p l e s m below meth c b D ct ak n (pc + 3) lv (.int 1 :: rest) h') : LG p l e s m below meth c b D ct ak (n + 1) pc lv (.ref 72 :: .ref 0 :: rest) h := by
  obtain ⟨hx, hb, hr2, hml, hown, hlk, hts, hK, hKY, hTY, hRO, hfl⟩ := hC
  intro ad Hh locs cells slots ls h1 h2 hP hD hS hl hak
  obtain ⟨N, hN⟩ := hr
  unfold am_oldL at hold
  rw [Bool.and_eq_true] at hold
  refine am_callW (X := am_X am_xn) (y := am_yL3) (index := 32) (n := 2) (d := 401) (nc := 1) (ns := 6) (w := ([.ref 0, .ref 72], rest)) hx hb hml hts hown hK (am_KY_ok ak) rfl am_gL3 (by decide +kernel) (by decide) ?_ h8 (am_d3T hfl hTY hrc (hN N 400 (Nat.le_refl _) (Nat.le_refl _)) ad Hh.size) ⟨by decide, by decide⟩ (by show cells + 1 ≤ 601024; omega) (by show slots + 6 ≤ 7293034; omega) (LG_dec hi rfl (by decide)) hl.1 hP hD hS (fun _ h => h) hak hKY (fun ad3 Hh3 locs3 ha3 hz3 hP3 hD3 hS3 => ?_)
  · show (if decide (2 ≤ (Value.ref 72 :: Value.ref 0 :: rest).length) = true then some (([Value.ref 72, Value.ref 0] : List Value).reverse, rest) else none) = _
    rw [if_pos (by simp)]
    rfl
  · have k1 := k ad3 Hh3 locs3 (cells + 1) (slots + 6) ls (by omega) (by omega) hP3 hD3 hS3 (by rw [am_lv_old ha3 hold.1]; exact hl) (fun i hi => (ha3 i (Or.inr hi)).trans (hak i hi))
    rw [List.map_cons, am_st_old ha3 hold.2] at k1
    exact k1
theorem LG_4R (hC : LC p l s m meth c b L xs D tys ct ak) {x1 x2 z : Int32} {g : Nat → Int64} {rest : List Value} {h' : List va_E} (hi : am_fL0.lookup pc = some (.invokestatic 43)) (h8 : (rest.map fun v => v.category).sum ≤ 8) (hrc : am_rcv [.ref 0, .int x1, .int x2] h 0 = true) (hr : jRun 400 169 [.ref 0, .int x1, .int x2] h (.inl (some (.int z)), h', 0, 0)) (hl1 : h.length ≤ h'.length) (ho : h'[72]? = some (.inl (4, 1, .inr (.inl g)))) (k : LG p l e s m below meth c b D ct ak n (pc + 3) lv (.int 0 :: rest) (h'.set 72 (.inl (4, 1, .inr (.inl (vp_updL g 0 z.toInt64)))))) : LG p l e s m below meth c b D ct ak n pc lv (.ref 72 :: .int x2 :: .int x1 :: .ref 0 :: rest) h := by
  obtain ⟨hx, hb, hr2, hml, hown, hlk, hts, hK, hKY, hTY, hRO, hfl⟩ := hC
  intro ad Hh locs cells slots ls h1 h2 hP hD hS hl hak
  obtain ⟨N, hN⟩ := hr
  refine am_callW (X := am_X am_xn) (y := am_yL4) (index := 43) (n := 4) (d := 401) (nc := 0) (ns := 0) (w := ([.ref 0, .int x1, .int x2, .ref 72], rest)) hx hb hml hts hown hK (am_KY_ok ak) rfl am_gL4 (by decide +kernel) (by decide) ?_ h8 (am_d4R hTY (am_e4 hrc (hN N 400 (Nat.le_refl _) (Nat.le_refl _)) hl1 ho) ad Hh.size) ⟨by decide, by decide⟩ (by show cells + 0 ≤ 601024; omega) (by show slots + 0 ≤ 7293034; omega) (LG_dec hi rfl (by decide)) hl.1 hP hD hS (fun _ h => h) hak hKY (fun ad3 Hh3 locs3 ha3 hz3 hP3 hD3 hS3 => ?_)
  · show (if decide (4 ≤ (Value.ref 72 :: Value.int x2 :: Value.int x1 :: Value.ref 0 :: rest).length) = true then some (([Value.ref 72, Value.int x2, Value.int x1, Value.ref 0] : List Value).reverse, rest) else none) = _
    rw [if_pos (by simp)]
    rfl
  · have ez := hz3 rfl
    subst ez
    exact k ad3 Hh3 locs3 cells slots ls h1 h2 hP3 hD3 hS3 hl hak
theorem LG_4T (hC : LC p l s m meth c b L xs D tys ct ak) {x1 x2 : Int32} {rest : List Value} {h' : List va_E} (hi : am_fL0.lookup pc = some (.invokestatic 43)) (h8 : (rest.map fun v => v.category).sum ≤ 8) (hold : am_oldL h.length lv rest = true) (hrc : am_rcv [.ref 0, .int x1, .int x2] h 0 = true) (hr : jRun 400 169 [.ref 0, .int x1, .int x2] h (.inr 1, h', 1, 6)) (k : LG p l e s m below meth c b D ct ak n (pc + 3) lv (.int 1 :: rest) h') : LG p l e s m below meth c b D ct ak (n + 1) pc lv (.ref 72 :: .int x2 :: .int x1 :: .ref 0 :: rest) h := by
  obtain ⟨hx, hb, hr2, hml, hown, hlk, hts, hK, hKY, hTY, hRO, hfl⟩ := hC
  intro ad Hh locs cells slots ls h1 h2 hP hD hS hl hak
  obtain ⟨N, hN⟩ := hr
  unfold am_oldL at hold
  rw [Bool.and_eq_true] at hold
  refine am_callW (X := am_X am_xn) (y := am_yL4) (index := 43) (n := 4) (d := 401) (nc := 1) (ns := 6) (w := ([.ref 0, .int x1, .int x2, .ref 72], rest)) hx hb hml hts hown hK (am_KY_ok ak) rfl am_gL4 (by decide +kernel) (by decide) ?_ h8 (am_d4T hfl hTY hrc (hN N 400 (Nat.le_refl _) (Nat.le_refl _)) ad Hh.size) ⟨by decide, by decide⟩ (by show cells + 1 ≤ 601024; omega) (by show slots + 6 ≤ 7293034; omega) (LG_dec hi rfl (by decide)) hl.1 hP hD hS (fun _ h => h) hak hKY (fun ad3 Hh3 locs3 ha3 hz3 hP3 hD3 hS3 => ?_)
  · show (if decide (4 ≤ (Value.ref 72 :: Value.int x2 :: Value.int x1 :: Value.ref 0 :: rest).length) = true then some (([Value.ref 72, Value.int x2, Value.int x1, Value.ref 0] : List Value).reverse, rest) else none) = _
    rw [if_pos (by simp)]
    rfl
  · have k1 := k ad3 Hh3 locs3 (cells + 1) (slots + 6) ls (by omega) (by omega) hP3 hD3 hS3 (by rw [am_lv_old ha3 hold.1]; exact hl) (fun i hi => (ha3 i (Or.inr hi)).trans (hak i hi))
    rw [List.map_cons, am_st_old ha3 hold.2] at k1
    exact k1
end LW2
/-! two sides of the cells -/
theorem mix_comm (s r : cm_S) (h : List va_E) : cm_mix 0 41 s (cm_mix 41 72 r h) = cm_mix 41 72 r (cm_mix 0 41 s h) := by
  apply List.ext_getElem?
  intro a
  unfold cm_mix
  simp only [List.getElem?_mapIdx, Option.map_map]
  cases h[a]? with
  | none => rfl
  | some e =>
    simp only [Option.map_some, Function.comp]
    by_cases h1 : 0 ≤ a ∧ a < 41
    · rw [if_pos h1, if_neg (by omega), if_pos h1]
    · by_cases h2 : 41 ≤ a ∧ a < 72
      · rw [if_neg h1, if_pos h2, if_pos h2]
      · rw [if_neg h1, if_neg h2, if_neg h2, if_neg h1]
theorem mix_out {lo hi : Nat} (hlo : hi ≤ 72) (s : cm_S) (h : List va_E) (e : va_E) : (cm_mix lo hi s h).set 72 e = cm_mix lo hi s (h.set 72 e) := by
  apply List.ext_getElem?
  intro a
  by_cases ha : 72 = a
  · subst ha
    rw [cm_mix_no (by omega)]
    by_cases hl : 72 < h.length
    · rw [List.getElem?_set_self (by rw [cm_mix_len]; exact hl), List.getElem?_set_self hl]
    · rw [List.getElem?_eq_none (by rw [List.length_set, cm_mix_len]; omega), List.getElem?_eq_none (by rw [List.length_set]; omega)]
  · rw [List.getElem?_set_ne ha]
    by_cases hr : lo ≤ a ∧ a < hi
    · by_cases hl : a < h.length
      · unfold cm_mix
        rw [List.getElem?_mapIdx, List.getElem?_mapIdx, List.getElem?_set_ne ha, List.getElem?_eq_getElem hl]
      · rw [List.getElem?_eq_none (by rw [cm_mix_len]; omega), List.getElem?_eq_none (by rw [cm_mix_len, List.length_set]; omega)]
    · rw [cm_mix_no hr, cm_mix_no hr, List.getElem?_set_ne ha]
/-- the cells: the class's state s, the reference's r, the law's out -/
def cm_two (s r : cm_S) (h0 : List va_E) : List va_E := cm_mix 0 41 s (cm_mix 41 72 r h0)
def okO (h0 : List va_E) : Prop := h0.length = 73 ∧ ∃ g, h0[72]? = some (.inl (4, 1, .inr (.inl g)))
theorem two_len {s r : cm_S} {h0 : List va_E} (h : okO h0) : (cm_two s r h0).length = 73 := by
  unfold cm_two
  rw [cm_mix_len, cm_mix_len]
  exact h.1
theorem two_72 {s r : cm_S} {h0 : List va_E} : (cm_two s r h0)[72]? = h0[72]? := by
  unfold cm_two
  rw [cm_mix_no (by omega), cm_mix_no (by omega)]
theorem two_set {s r : cm_S} {h0 : List va_E} {e : va_E} : (cm_two s r h0).set 72 e = cm_two s r (h0.set 72 e) := by
  unfold cm_two
  rw [mix_out (by omega), mix_out (by omega)]
theorem two_rc {s r : cm_S} {h0 : List va_E} (h : okO h0) {as : List Value} : am_rcv (.ref 0 :: as) (cm_two s r h0) 0 = true := by
  have e : (cm_two s r h0)[0]? = some (cm_cell s 0) := by
    unfold cm_two
    rw [cm_mix_at (by omega) (by omega) (by rw [cm_mix_len, h.1]; omega)]
  unfold am_rcv
  simp only [e]
  rfl
theorem two_rm {s r : cm_S} {h0 : List va_E} (h : okO h0) {as : List Value} : am_rcv (.ref 41 :: as) (cm_two s r h0) 9 = true := by
  have e : (cm_two s r h0)[41]? = some (cm_cell r 41) := by
    unfold cm_two
    rw [cm_mix_no (by omega), cm_mix_at (by omega) (by omega) (by rw [h.1]; omega)]
  unfold am_rcv
  simp only [e]
  rfl
/-- a call of the class -/
theorem two_c {y : Nat} {as : List cm_V} {s r : cm_S} {h0 : List va_E} {o : cm_R} (hO : okO h0) (h : cm_sem y as s = some o) (hA : jA 0 41 y as) (hd : dok y as) (hs : cm_cs 0 41 s) (hE : drk y as + 6 ≤ 400) : jRun 400 y (as.map cm_v) (cm_two s r h0) (jR 0 41 (cm_mix 41 72 r h0) o) ∧ jRk 0 41 o := j_sem (h0 := cm_mix 41 72 r h0) (by rw [cm_mix_len, hO.1]; omega) (by omega) cm_ptck0.1 h hA hd hs hE
theorem two_r {y : Nat} {as : List cm_V} {s r : cm_S} {h0 : List va_E} {o : cm_R} (hO : okO h0) (h : cm_sem y as r = some o) (hA : jA 41 72 y as) (hd : dok y as) (hs : cm_cs 41 72 r) (hE : drk y as + 6 ≤ 400) : jRun 400 y (as.map cm_v) (cm_two s r h0) (jR 41 72 (cm_mix 0 41 s h0) o) ∧ jRk 41 72 o := by
  unfold cm_two
  rw [mix_comm]
  exact j_sem (h0 := cm_mix 0 41 s h0) (by rw [cm_mix_len, hO.1]; omega) (by omega) cm_ptck0.2 h hA hd hs hE
