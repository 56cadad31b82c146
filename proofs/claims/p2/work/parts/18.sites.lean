/-- what an exception's cell is; xn: the names of the exceptions' classes -/
def am_X (xn : Nat → String) (ex a : Nat) (t : State) : Prop := ∃ cell : Cell, t.heap[a]? = some cell ∧ cell.vm.isStatics = false ∧ t.vm.findClass (xn ex) = some cell.cls
theorem am_X_o (xn : Nat → String) : am_XO (am_X xn) := by
  intro ex a t u h1 h2 h3
  obtain ⟨cell, q1, q2, q3⟩ := h3
  exact ⟨cell, by rw [← h1]; exact q1, q2, by rw [← h2]; exact q3⟩
/-- a throw of a new exception with a text: its five rows and its words -/
def am_ST (xn : Nat → String) (own : String) (cc : ByteArray) (Ts : List Jvm.Cond) (args : Array Value) (s : State) (pc ex : Nat) : Prop :=
  ∃ (ix k ic : Nat) (names : List String) (tx : String) (a0 : Nat), decode cc pc = .ok (.new ix, 3) ∧ decode cc (pc + 3) = .ok (.dup, 1) ∧ decode cc (pc + 4) = .ok (.ldc k, 2) ∧ decode cc (pc + 6) = .ok (.invokespecial ic, 3) ∧ decode cc (pc + 9) = .ok (.athrow, 1) ∧ Jvm.Cond.classLink own ix (xn ex) ∈ Ts ∧ Jvm.Cond.instantiable (xn ex) 6 ∈ Ts ∧ Jvm.Cond.initialized (xn ex) ∈ Ts ∧ vk_R own k tx a0 s ∧ Bundle.fit (xn ex) = true ∧ (∀ n ∈ names, Bundle.fit n = true) ∧ (∀ a ∈ Bundle.ownAtoms own ic (xn ex) names, a.before args s = true) ∧ names.length ≤ 4
section AM12
variable {p : Program} {l : Launch} {e : Env} {R : Room} {s : State} {m : MethodId} {args : Array Value} {below : List Frame} {meth : Method} {c : Code}
variable {cc : ByteArray} {D : va_G} {cl : List vw_C} {A : Nat → Prop} {tys : List (ClassId × FieldType)} {ct ak : Nat → Nat} {Ts : List Jvm.Cond} {own : String} {nL : Nat} {thr : Nat → Option Nat}
set_option maxHeartbeats 1000000 in
theorem am_site (xn : Nat → String) (htr : e.platform.stackTraces = false) (hx : p.tables.exec = Jvm.exec) (hb : c.code = cc) (hml : c.maxLocals = nL) (hts : ∀ w ∈ Ts, w.before args s = true) (hown : s.vm.findClass own = some m.cls) (hlocks : meth.locks = false) (hnh : c.exceptionTable.isEmpty = true) (hK : va_K D cl tys s) (hA : ∀ q, s.heap.size ≤ q → A q) (hNA : ∀ (aS : Addr) (cS : Cell), s.heap[aS]? = some cS → cS.vm.isStatics = true → ¬ A aS) (hRf : 9 ≤ R.frames) (hRl : 400 ≤ R.locals)
    (hST : ∀ pc ex, thr pc = some ex → am_ST xn own cc Ts args s pc ex) : am_SI p l e R s m args below meth c D cl A tys ct ak nL (am_X xn) thr 1 6 := by
  intro ad0 n0 NC NS hNC hNS pc ex st h ad H locs cells slots ls ht h8 hcn hsn hP hD hS hls hak hag hn0 hc0
  obtain ⟨ix, k, ic, names, tx, a0, d0, d3, d4, d6, d9, w1, w2, w3, hR, hfit, hfits, hat, hnl⟩ := hST pc ex ht
  obtain ⟨cX, kX0, hfx, hkx0, -⟩ := Cond.instantiable_spec (hts _ w2)
  refine W.newcK hx hb hown (hts _ w1) (hts _ w2) (hts _ w3) (g := F0 m pc ls (st.map (am_tv ad))) rfl d0 (by omega) (by omega) hfx rfl (fun H1 kX hkx e1 z1 o1 => ?_)
  refine lv_dup hx hb d3 rfl ?_
  refine va_ldcS hx hb hown hR d4 ?_
  intro T hT X1
  obtain ⟨U, ce, L, u1, u2, u3, u4, u5, u6, u7, u8, u9⟩ := am_throw6 X1 hx htr hown hfit hfits hat (fun aS cS q1 q2 => by
      have hlt := (Array.getElem?_eq_some_iff.mp q1).1
      rw [hT, o1 aS (Nat.lt_of_lt_of_le hlt hS.1), hS.2.1 aS hlt (hNA aS cS q1 q2)]
      exact q1) (a := H.size) hfx hkx (by rw [hT]; exact e1) hS.1 (msg := .ref a0) rfl (g := F0 m (pc + 3 + 1 + 2) ls (.ref a0 :: .ref H.size :: .ref H.size :: st.map (am_tv ad))) rfl (hls.trans hml.symm) rfl rfl rfl (by rw [hb]; exact d6) (by rw [hb]; exact d9) (by
      intro z hz
      rw [Array.isEmpty_iff] at hnh
      rw [hnh] at hz
      cases hz) (by omega) (by
      have h0 : (F0 m (pc + 3 + 1 + 2) ls (.ref a0 :: .ref H.size :: .ref H.size :: st.map (am_tv ad))).monitorRoom = 0 := rfl
      rw [h0, List.map_cons, List.sum_cons, am_cats]
      have h1 : (Value.ref H.size).category = 1 := rfl
      rw [h1]
      omega) hlocks
  have hkeep : ∀ q : Nat, q < H.size → U.heap[q]? = H[q]? := fun q hq => by
    rw [u7, Array.getElem?_setIfInBounds_ne (Nat.ne_of_gt hq), hT, o1 q hq]
  have hsz : U.heap.size = H.size + 1 := by rw [u7, Array.size_setIfInBounds, hT, z1]
  refine ⟨U, u1, .threw H.size, u2, u3, ⟨ad, hag, fun z => hc0 (by omega), ⟨H.size, rfl, ce, ?_, by rw [u9]; rfl, ?_⟩, hP.kept (fun k q hk => hkeep q.1 (hP k q hk).lt), va_K.moved u4.alike hK, hD, ⟨by rw [hsz]; exact Nat.le_trans hS.1 (Nat.le_succ _), fun q h1 h2 => by rw [hkeep q (Nat.lt_of_lt_of_le h1 hS.1)]; exact hS.2.1 q h1 h2⟩⟩, locs ++ L, ⟨⟨H.size, rfl⟩, u4, ?_⟩, fun q hq => ?_⟩
  · rw [u7, Array.getElem?_setIfInBounds_self_of_lt (by rw [hT, z1]; omega)]
  · rw [u8, u4.alike.findClass]
    exact hfx
  · have e2 : cells + 1 = NC := hcn
    have e3 : slots + 6 = NS := hsn
    rw [← e2, ← e3]
    exact u5
  · rcases List.mem_append.mp hq with z | z
    · exact hS.2.2 q z
    · rw [u6 q z]
      exact hA _ hS.1
end AM12
