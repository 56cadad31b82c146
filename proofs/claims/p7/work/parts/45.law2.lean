/-! ===== the law's two methods that catch ===== -/
theorem am_cn12 : am_cn 12 = "ScriptFrontLaw" := by decide +kernel
section AM16
variable {p : Program} {l : Launch} {e : Env} {R : Room} {s : State} {m : MethodId} {args : Array Value} {below : List Frame} {meth : Method} {c : Code}
/-- what a frame of the law's class stands on -/
theorem am_ML {cc : ByteArray} {D : va_G} {A : Nat → Prop} {tys : List (ClassId × FieldType)} {ct ak : Nat → Nat} {Ts : List Jvm.Cond} {nL d : Nat} {ro : Nat → Option (Nat × (Nat → Int32))} {fetch : Nat → Option Instr} {ret : Option FieldType}
    (hT : ∀ w ∈ am_Ts, w ∈ Ts) (hTY : am_TY tys ct) (hx : p.tables.exec = Jvm.exec) (hb : c.code = cc) (hml : c.maxLocals = nL) (hts : ∀ w ∈ Ts, w.before args s = true) (hown : s.vm.findClass "ScriptFrontLaw" = some m.cls) (hlocks : meth.locks = false) (hret : meth.sig.returnType = ret) (hK : va_K D am_cl tys s) (hK0 : am_KX ak A s) (hA : ∀ q, s.heap.size ≤ q → A q) (hRO : ∀ ad : Nat → Nat, (∀ i, 1000 ≤ i → ad i = ak i) → am_RO ro ad A s)
    (hfe : ∀ pc i, fetch pc = some i → ∃ n, decode cc pc = .ok (i, n) ∧ (am_len i ≠ 0 → n = am_len i)) (hRf : d + 9 ≤ R.frames) (hRl : (d + 1) * 40 + 400 ≤ R.locals) :
    am_M p l s m args meth c R cc D am_cl A tys ct ak Ts "ScriptFrontLaw" nL (am_KX ak) (am_cal 12) am_nm am_bt am_mL am_rt am_wM (am_fl 12) (am_kc 12) (am_kl 12) (fun _ => none) ro false fetch (am_oi 12) (am_nw 12) ret d := by
  rw [← am_cn12] at hown ⊢
  exact ⟨hx, hb, hml, hts, hown, hlocks, hret, hK, am_KX_ok ak, hK0, hA, am_FLok 12 hT, fun ad ha => ⟨am_KCok 12 hT hK0.1.1 ha, fun _ _ z => (by cases z), hRO ad ha⟩, am_KLok 12 hT, hTY, fun z => (by cases z), am_CTok am_hM am_hC 12 hT hK0.1.1.2, am_OIok 12 hT, am_NWok 12 hT, am_ARok hT, hfe, hRf, hRl⟩
end AM16
def am_lr (fL : List (Nat × Instr)) (nL fuel d : Nat) (as : List Value) (h : List va_E) : Option am_R := am_exec (fun pc => fL.lookup pc) (am_step (am_fl 12) (am_kc 12) (am_kl 12) (fun _ => none) (fun _ => none) false nL) (am_cal 12) (am_oi 12) (am_nw 12) (am_all am_thr fuel d) (fun _ => none) (some .int) 1 6 20 0 (lv_args 0 as) [] h
theorem am_tsw {yL : MethodName} {bL : ByteArray} {nL : Nat} {hh : List (Nat × Nat × Nat × Nat)} : ∀ w ∈ am_Ts, w ∈ (Jvm.Cond.codeWith yL bL nL (some FieldType.int) hh :: am_Ts) := fun _ h => List.mem_cons_of_mem _ h
/-- it comes back -/
theorem am_lr_R {l : Launch} {D : va_G} {tys : List (ClassId × FieldType)} {ct ak : Nat → Nat} (hTY : am_TY tys ct) {yL : MethodName} {bL : ByteArray} {nL : Nat} {hh : List (Nat × Nat × Nat × Nat)} {fL : List (Nat × Instr)} (hcls : yL.cls = "ScriptFrontLaw") (hck : am_chk bL fL = true)
    {fuel d : Nat} {as : List Value} {h h' : List va_E} {v : Option Value} {nc ns : Nat} (hw : (as.map fun v => v.category).sum ≤ nL) (hr : am_lr fL nL fuel d as h = some (.inl v, h', nc, ns)) (ad : Nat → Nat) (sz : Nat) :
    Met l yL (Jvm.Cond.codeWith yL bL nL (some FieldType.int) hh :: am_Ts) (am_rm (d + 1) nc ns) (am_Pre D am_cl ct tys ak (am_KX ak) ad h sz as) (am_Post D am_cl ct tys (am_X am_xn) ad h.length (va_A (am_ws ad ct h) sz) (.inl v) h' nc) nc ns (va_A (am_ws ad ct h) sz) := by
  refine va_MetW (cc := bL) (maxL := nL) (ret := some FieldType.int) (hh := hh) (by rw [hcls]; decide +kernel) rfl ?_
  intro p e s m args below meth c s₁ B hml hv
  obtain ⟨rfl, hsz, hP, hK, hD0, hak, hK0⟩ := hv
  have hts := atoms_spec (ws := Jvm.Cond.codeWith yL bL nL (some FieldType.int) hh :: am_Ts) B.pre
  subst hsz
  have hD := hD0.self (sz := s.heap.size)
  have hl := lv_entry (as.map (am_tv ad)) (n := nL) (by rw [am_sl_len, am_cats]; exact hw)
  rw [lg_entry_eq]
  generalize (lg_sl (as.map (am_tv ad)) ++ List.replicate (nL - (lg_sl (as.map (am_tv ad))).length) Slot.unset).toArray = ls at hl ⊢
  rw [← am_args_lv] at hl
  have hown := findClass_of_methodNamed B.named
  rw [hcls] at hown
  have hm := am_ML (l := l) (R := am_rm (d + 1) nc ns) (meth := meth) (d := d) (ro := fun _ => none) (fetch := fun pc => fL.lookup pc) (A := va_A (am_ws ad ct h) s.heap.size) am_tsw hTY B.exec B.bytes hml hts hown B.notSynchronized B.returns hK hK0 (fun q hq => Or.inr hq) (fun _ _ _ _ _ z => (by cases z)) (fun pc i hi => am_chk_ok hck hi) (by show d + 9 ≤ d + 1 + 8; omega) (Nat.le_refl _)
  exact am_exec_R (X := am_X am_xn) (thr := fun _ => none) (xc := 1) (xs := 6) (run := am_all am_thr fuel d) hm (fun y as h v h' nc ns hr ad sz => am_meetsB hTY hr ad sz) (ad0 := ad) (n0 := h.length) (NC := nc) (NS := ns) (Nat.le_refl _) (Nat.le_refl _) 20 0 (lv_args 0 as) [] h nc ns hr ad s.heap [] 0 0 ls (by omega) (by omega) hP hD va_S.rf hl hak (fun _ _ => rfl) (Nat.le_refl _) (fun _ => rfl)
def am_lseg (fL : List (Nat × Instr)) (nL fuel d n : Nat) (as : List Value) (h : List va_E) : Option (am_F × Nat × Nat) := am_seg (fun pc => fL.lookup pc) (am_step (am_fl 12) (am_kc 12) (am_kl 12) (fun _ => none) (fun _ => none) false nL) (am_cal 12) (am_oi 12) (am_nw 12) (am_all am_thr fuel d) n 0 (lv_args 0 as) [] h
set_option maxHeartbeats 1000000 in
/-- what it calls throws, and is caught -/
theorem am_lr_T {l : Launch} (hfl : ∀ e : Env, l.admits e → e.platform.stackTraces = false) {D : va_G} {tys : List (ClassId × FieldType)} {ct ak : Nat → Nat} (hTY : am_TY tys ct) {yL : MethodName} {bL : ByteArray} {nL : Nat} {z : Nat × Nat × Nat × Nat} {fL : List (Nat × Instr)} (hcls : yL.cls = "ScriptFrontLaw") (hck : am_chk bL fL = true)
    {fuel d : Nat} {as : List Value} {h h' : List va_E} {nc ns n pc : Nat} {lv : am_L} {st : List Value} {i : Instr} {q : Nat × Nat × Nat × Nat} {w : List Value × List Value} {ex : Nat} (hw : (as.map fun v => v.category).sum ≤ nL) (hsg : am_lseg fL nL fuel d n as h = some ((pc, lv, st, h), 0, 0)) (hi : fL.lookup pc = some i) (hil : am_len i = 3) (hq : am_cal 12 i = some q) (hq2 : q.1 = 0) (hpop : am_pop (am_vir q.1) q.2.2.1 st = some w) (h8 : (w.2.map fun v => v.category).sum ≤ 8) (hrc : am_rcv w.1 h q.2.2.2 = true)
    (hr : am_all am_thr fuel d q.2.1 w.1 h = some (.inr ex, h', nc, ns)) (hzc : z.1 ≤ pc ∧ pc < z.2.1) (hz2 : z.2.2.2 ≠ 0) (hlk : Jvm.Cond.classLink "ScriptFrontLaw" z.2.2.2 (am_xn ex) ∈ am_Ts) (hcs : Jvm.Cond.castable (am_xn ex) (am_xn ex) ∈ am_spc)
    {j hp2 : Nat} (hd1 : (∃ k : Fin 4, decode bL z.2.2.1 = .ok (.astore_n k, 1) ∧ (k : Nat) = j ∧ z.2.2.1 + 1 = hp2) ∨ (decode bL z.2.2.1 = .ok (.astore j, 2) ∧ z.2.2.1 + 2 = hp2)) (hj : j < nL) (hd2 : decode bL hp2 = .ok (.iconst 1, 1)) (hd3 : decode bL (hp2 + 1) = .ok (.ireturn, 1)) (ad : Nat → Nat) (sz : Nat) :
    Met l yL (Jvm.Cond.codeWith yL bL nL (some FieldType.int) [z] :: am_Ts) (am_rm (d + 1) nc ns) (am_Pre D am_cl ct tys ak (am_KX ak) ad h sz as) (am_Post D am_cl ct tys (am_X am_xn) ad h.length (va_A (am_ws ad ct h) sz) (.inl (some (.int 1))) h' nc) nc ns (va_A (am_ws ad ct h) sz) := by
  refine va_MetW (cc := bL) (maxL := nL) (ret := some FieldType.int) (hh := [z]) (by rw [hcls]; decide +kernel) rfl ?_
  intro p e s m args below meth c s₁ B hml hv
  obtain ⟨rfl, hsz, hP, hK, hD0, hak, hK0⟩ := hv
  have hts := atoms_spec (ws := Jvm.Cond.codeWith yL bL nL (some FieldType.int) [z] :: am_Ts) B.pre
  subst hsz
  have hD := hD0.self (sz := s.heap.size)
  have hl := lv_entry (as.map (am_tv ad)) (n := nL) (by rw [am_sl_len, am_cats]; exact hw)
  rw [lg_entry_eq]
  generalize (lg_sl (as.map (am_tv ad)) ++ List.replicate (nL - (lg_sl (as.map (am_tv ad))).length) Slot.unset).toArray = ls at hl ⊢
  rw [← am_args_lv] at hl
  have hown := findClass_of_methodNamed B.named
  rw [hcls] at hown
  have hA : ∀ q, s.heap.size ≤ q → va_A (am_ws ad ct h) s.heap.size q := fun q hq => Or.inr hq
  have hm := am_ML (l := l) (R := am_rm (d + 1) nc ns) (meth := meth) (d := d) (ro := fun _ => none) (fetch := fun pc => fL.lookup pc) (A := va_A (am_ws ad ct h) s.heap.size) am_tsw hTY B.exec B.bytes hml hts hown B.notSynchronized B.returns hK hK0 hA (fun _ _ _ _ _ z => (by cases z)) (fun pc i hi => am_chk_ok hck hi) (by show d + 9 ≤ d + 1 + 8; omega) (Nat.le_refl _)
  obtain ⟨m9, meth9, c9, k1, k2, k3, k4, k5, k6, k7, k8, k9⟩ := Cond.codeWith_spec (hts _ List.mem_cons_self)
  cases B.named.symm.trans k1
  cases B.method.symm.trans k2
  cases (Stand.of_body B).code.symm.trans k3
  have hsp : ∃ z0 : ExceptionTableEntry, c.exceptionTable.toList = [z0] ∧ (z0.startPc, z0.endPc, z0.handlerPc, z0.catchType) = z := by
    match hE : c.exceptionTable.toList with
    | [] => rw [hE] at k6; cases k6
    | [z0] => rw [hE] at k6; exact ⟨z0, rfl, List.head_eq_of_cons_eq k6⟩
    | _ :: _ :: _ => rw [hE] at k6; cases k6
  obtain ⟨z0, hsplit, hz0⟩ := hsp
  subst hz0
  dsimp only at hzc hz2 hlk hd1
  refine am_seg_W (X := am_X am_xn) hm (fun y as h v h' nc ns hr ad sz => am_meetsB hTY hr ad sz) n 0 (lv_args 0 as) [] h 0 0 hsg ad s.heap [] 0 0 ls (by omega) (by omega) hP hD va_S.rf hl hak (fun ad1 H1 locs1 ls1 ha hz1 hle hP1 hD1 hS1 hl1 hak1 => ?_)
  obtain ⟨hx, hb, hml, hts, -, hlocks, hret, -, h0, -, -, -, -, -, -, -, hCT, -, -, -, hfe, hRf, hRl⟩ := hm
  have hd : decode bL pc = .ok (i, 3) := by
    obtain ⟨n, hd, hn⟩ := hfe pc i hi
    rw [hd, hn (by rw [hil]; decide), hil]
  refine am_callC am_xn hx hb hml hts hown hK h0 hCT hq hq2 hpop h8 hrc (am_meetsT hfl hTY hr ad1 H1.size) ⟨hRf, hRl⟩ (by show 0 + 0 + nc ≤ nc; omega) (by show 0 + 0 + ns ≤ ns; omega) hd hl1.1 hP1 hD1 hS1 hA hak1 hK0 hsplit (by simp [covers, hzc.1, hzc.2]) hz2 (hts _ (List.mem_cons_of_mem _ hlk)) (am_spc_ok hK0 _ hcs) (fun ad2 H2 locs2 a ha2 hz hP2 hD2 hS2 => ?_)
  have hl2 : lv_has ls1 nL [] := ⟨hl1.1, hl1.2.1, fun q hq => by cases hq⟩
  have hend : ∀ ls2 : Array Slot, W p l e (am_rm (d + 1) nc ns) s m (as.map (am_tv ad)).toArray below meth c H2 locs2 (0 + 0 + nc) (0 + 0 + ns) (MQ below (am_Post D am_cl ct tys (am_X am_xn) ad h.length (va_A (am_ws ad ct h) s.heap.size) (.inl (some (.int 1))) h' nc) (as.map (am_tv ad)).toArray s nc ns (va_A (am_ws ad ct h) s.heap.size)) (F0 m hp2 ls2 []) := by
    intro ls2
    refine lv_iconst hx hb hd2 (v := 1) (by decide) ?_
    have e1 : 0 + 0 + nc = nc := by omega
    have e2 : 0 + 0 + ns = ns := by omega
    rw [e1, e2]
    exact W.zret hx hb hret (by decide) (fun t ht hW => ⟨ad2, fun i hi => (ha2 i hi).trans (ha i hi), fun z => by
      rw [hz z, hz1 rfl], rfl, by rw [ht]; exact hP2, va_K.moved hW.alike hK, hD2, hS2.F ht⟩) hS2.2.2 hd3 hlocks
  rcases hd1 with ⟨k, d1, d2, d3⟩ | ⟨d1, d2⟩
  · refine lv_astore_n hx hb d1 d2 hl2 hj rfl (fun ls2 _ => ?_)
    rw [d3]
    exact hend ls2
  · refine lv_astore hx hb d1 hl2 hj rfl (fun ls2 _ => ?_)
    rw [d2]
    exact hend ls2
