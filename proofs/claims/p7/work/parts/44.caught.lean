/-! ===== a call whose method throws, caught by the caller ===== -/
section AM15
variable {p : Program} {l : Launch} {e : Env} {R : Room} {s : State} {m : MethodId} {args : Array Value} {below : List Frame} {meth : Method} {c : Code} {H : Heap} {locs : List Loc} {cells slots : Nat} {Q : State → Prop}
variable {cc : ByteArray} {D : va_G} {cl : List vw_C} {A : Nat → Prop} {tys : List (ClassId × FieldType)} {ad ct ak : Nat → Nat} {Ts : List Jvm.Cond} {own : String} {nL : Nat} {K0 : (Nat → Prop) → State → Prop}
variable {cal : Instr → Option (Nat × Nat × Nat × Nat)} {nm : Nat → MethodName} {bt : Nat → ByteArray} {mL : Nat → Nat} {rt : Nat → Option FieldType} {wsM : Nat → List Jvm.Cond}
set_option maxHeartbeats 1000000 in
theorem am_callC (xn : Nat → String) (hx : p.tables.exec = Jvm.exec) (hb : c.code = cc) (hml : c.maxLocals = nL) (hts : ∀ w ∈ Ts, w.before args s = true) (hown : s.vm.findClass own = some m.cls) (hK : va_K D cl tys s) (h0 : am_K0 K0) (hCT : am_CT cal own cl Ts s nm bt mL rt wsM)
    {i : Instr} {q : Nat × Nat × Nat × Nat} (hq : cal i = some q) (hq2 : q.1 = 0) {d nc ns ex : Nat} {h h' : List va_E} {st : List Value} {w : List Value × List Value} (hw : am_pop (am_vir q.1) q.2.2.1 st = some w) (h8 : (w.2.map fun v => v.category).sum ≤ 8)
    (hrc : am_rcv w.1 h q.2.2.2 = true)
    (hM : am_MT l (nm q.2.1) (wsM q.2.1) (am_rm d nc ns) (am_Pre D cl ct tys ak K0 ad h H.size w.1) (am_Post D cl ct tys (am_X xn) ad h.length (va_A (am_ws ad ct h) H.size) (.inr ex) h' nc) nc ns (va_A (am_ws ad ct h) H.size))
    (hR : d + 9 ≤ R.frames ∧ (d + 1) * 40 + 400 ≤ R.locals) (hc : cells + nc ≤ R.cells) (hs : slots + ns ≤ R.slots) {pc : Nat} {ls : Array Slot} (hd : decode cc pc = .ok (i, 3)) (hls : ls.size = nL)
    (hP : va_P D cl (am_ws ad ct h) H) (hD : va_D A (am_ws ad ct h)) (hS : va_S A s.heap H locs) (hA : ∀ q, s.heap.size ≤ q → A q) (hak : ∀ i, 1000 ≤ i → ad i = ak i) (hK0 : K0 A s)
    {z : ExceptionTableEntry} (hsplit : c.exceptionTable.toList = [z]) (hz1 : covers z pc = true) (hz2 : z.catchType ≠ 0) (hlink : (Jvm.Cond.classLink own z.catchType (xn ex)).before args s = true) (hcast : (Jvm.Cond.castable (xn ex) (xn ex)).before args s = true)
    (kk : ∀ (ad' : Nat → Nat) (H1 : Heap) (locs1 : List Loc) (a : Nat), (∀ i, (i < h.length ∨ 1000 ≤ i) → ad' i = ad i) → (nc = 0 → ad' = ad) → va_P D cl (am_ws ad' ct h') H1 → va_D A (am_ws ad' ct h') → va_S A s.heap H1 locs1 → W p l e R s m args below meth c H1 locs1 (cells + nc) (slots + ns) Q (F0 m z.handlerPc ls [.ref a])) :
    W p l e R s m args below meth c H locs cells slots Q (F0 m pc ls (st.map (am_tv ad))) := by
  obtain ⟨⟨ws', hws⟩, hm20, hd3, hkind⟩ := hCT i q hq
  obtain ⟨hp1, hp2⟩ := am_pop_eq hw
  have hR2 : (am_rm d nc ns).frames + 1 ≤ R.frames ∧ 8 + (mL q.2.1 + 11) + (am_rm d nc ns).locals ≤ R.locals := by
    refine ⟨by show d + 8 + 1 ≤ _; omega, ?_⟩
    show 8 + (mL q.2.1 + 11) + (d * 40 + 400) ≤ _
    omega
  have hroom : ∀ (pc : Nat) (ls : Array Slot) (rest : List Value), 2 * (F0 m pc ls rest).monitorRoom + ((w.2.map (am_tv ad)).map fun v => v.category).sum ≤ 8 := fun pc ls rest => lv_room (by rw [am_cats]; exact h8)
  have hf := am_free hD hS hA
  intro T hT X1
  rcases hkind with ⟨k0, index, C, T1, N, rfl, hcl, hC, hG⟩ | ⟨k1, -⟩ | ⟨k2, -⟩ | ⟨k3, -⟩
  · obtain ⟨a, as, ew, el, est⟩ := hp1 (by rw [k0]; rfl)
    rw [ew] at hrc
    unfold am_rcv at hrc
    simp only at hrc
    split at hrc
    · next o ho =>
      have ho2 : o.1 = q.2.2.2 := by simpa using hrc
      have hav : (Value.ref (ad a) :: as.map (am_tv ad)).toArray = (w.1.map (am_tv ad)).toArray := by rw [ew]; rfl
      have hat := am_ws_at (ad := ad) (ct := ct) ho
      have e1 : am_te ad ct (.inr o) = .inr (q.2.2.2, o.2.map (am_tv ad)) := by rw [← ho2]; rfl
      rw [e1] at hat
      obtain ⟨cellB, hcell, hobj, hcls⟩ := va_recv hK hP hcl hat
      obtain ⟨⟨c1, c2, c3, c4, c5, c6, c7, c8, hy, hlen, hlk⟩, hinst, hsel⟩ := cwV (R := R) (rm := am_rm d nc ns) (mc := nc) (ms := ns) q.2.2.1 hts hG hws rfl rfl ⟨hC, hd3⟩ hR2
      obtain ⟨mk, methM, hnamed, hmethM, hstM, habM⟩ := Cond.instanceMethod_spec hinst
      obtain ⟨methM', cM, hmethM', -, -, -, -, -, -, hsigM⟩ := Cond.code_spec hnamed c7
      cases hmethM.symm.trans hmethM'
      obtain ⟨z1, z2, z3, q1, q2, q3, q4, kP, hkP, hkPi⟩ := Cond.selects_spec hsel
      cases hcls.symm.trans q1
      cases (State.methodFound?_of_named hnamed hy).symm.trans q2
      cases hnamed.symm.trans q3
      have hselP : selectMethod e.platform s.vm cellB.cls mk = .method mk := by rw [Launch.admits_selectMethod X1.admits]; exact q4
      obtain ⟨vm₁, X₁, hstep₁⟩ := X1.invokevirtual hx hown hlk hnamed hmethM hstM hkP hkPi hy (a := ad a) (cell := cellB) (by rw [hT]; exact hcell)
        (fun z h => by rw [h] at hobj; cases hobj) hselP hmethM habM hkP hkPi (g := F0 m pc ls (st.map (am_tv ad))) rfl (argsL := as.map (am_tv ad)) (rest := w.2.map (am_tv ad)) (by rw [List.length_map, el]; exact hlen _ hsigM) (by show st.map (am_tv ad) = _; rw [est, List.map_append, List.map_reverse]; rfl) (by rw [hb]; exact hd)
      obtain ⟨x, st₀, t, T', L, r1, X', r2, r3, r4, r5, r6⟩ := am_backT hM (am_blind h0) c1 c2 c3 c4 c5 c6 (fun a' U hW => word_at hW (Or.inl (by first | rfl | simp [Cond.onTables, Cond.keeps, Cond.steady])) c8) X₁ (g := { F0 m pc ls (st.map (am_tv ad)) with stack := w.2.map (am_tv ad) }) (mk := mk) (a := (Value.ref (ad a) :: as.map (am_tv ad)).toArray) rfl (hls.trans hml.symm) (by rw [hb]; exact hd) (hroom _ _ _) (X₁.named hnamed) hc hs (am_ahead h0 hK hP hD hS hA hak hK0 hav _ hT X₁.warmed)
      obtain ⟨ad', a1, a2, ⟨x1, ex1, cellX, x2, x3, x4⟩, a4, a5, a6, hz, hk⟩ := r5
      cases ex1
      rw [r1.trans hT] at hz hk
      have hS1 : va_S A s.heap T'.heap (locs ++ L) := ⟨Nat.le_trans hS.1 (by rw [r3]; exact hz), fun q h1 h2 => by rw [r3, hk q (Nat.lt_of_lt_of_le h1 hS.1) (fun z => h2 (hf q z))]; exact hS.2.1 q h1 h2, fun q hq => by
          rcases List.mem_append.mp hq with h | h
          · exact hS.2.2 q h
          · exact hf _ (r2 q h)⟩
      obtain ⟨cE, cT, hcE, hcT, hasg⟩ := Cond.castable_spec hcast
      have hfx : s.vm.findClass (xn ex) = some cellX.cls := by
        rw [← X'.warmed.alike.findClass, r4]
        exact x4
      cases hcE.symm.trans hfx
      obtain ⟨vm', XV, stV⟩ := X'.caughtLink x (g := { F0 m pc ls (st.map (am_tv ad)) with stack := w.2.map (am_tv ad) }) rfl hown [] z [] hsplit (fun y hy => by cases hy) hz1 hz2 hlink hcT (by rw [r3]; exact x2) x3 hasg
      obtain ⟨t2, b1, b2⟩ := kk ad' T'.heap (locs ++ L) x a1 a2 (by rw [r3]; exact a4) (a6.weaken (fun k q _ z => hf q.1 z)) hS1 (T'.setVm vm') rfl XV
      refine ⟨t2, hstep₁ _ fun acts => ?_, b2⟩
      rw [doInvoke_state]
      refine r6.trans ?_
      rw [X'.pushThrowing_eq]
      exact stV _ b1
    · cases hrc
  · omega
  · omega
  · omega
end AM15
