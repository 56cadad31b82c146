section AM3
variable {p : Program} {l : Launch} {e : Env} {R : Room} {s : State} {m : MethodId} {args : Array Value} {below : List Frame} {meth : Method} {c : Code} {H : Heap} {locs : List Loc} {cells slots : Nat} {Q : State → Prop}
variable {cc : ByteArray} {D : va_G} {cl : List vw_C} {A : Nat → Prop} {tys : List (ClassId × FieldType)} {ad ct ak : Nat → Nat} {Ts : List Jvm.Cond} {own : String} {nL : Nat} {K0 : (Nat → Prop) → State → Prop} {X : Nat → Nat → State → Prop}
theorem am_nk_ty {t : ArrayType} {t0 : Nat} (h : am_nk t = some t0) : t0 < 5 ∧ am_aty t0 = newarray.typeOf t ∧ componentBytes (newarray.typeOf t) ≤ 8 ∧ (∀ (cA n : Nat), vp_cell cA (am_zero t0 n) = arrV cA n (fun _ => defaultValue (newarray.typeOf t))) ∧ ∀ (U : State) (cA : ClassId), va_RA U cA (am_aty t0) → U.vm.findClass ("[" ++ (newarray.typeOf t).toString) = some cA := by
  cases t <;> cases h <;> exact ⟨by decide, rfl, by decide, fun _ _ => rfl, fun _ _ z => z⟩
/-- a new row -/
theorem am_newa {h : List va_E} (hx : p.tables.exec = Jvm.exec) (hb : c.code = cc) (hts : ∀ w ∈ Ts, w.before args s = true) {t : ArrayType} {t0 : Nat} (ht : am_nk t = some t0) (harr : Jvm.Cond.arrayClass (newarray.typeOf t) ∈ Ts) (hTY : am_TY tys ct)
    (hK : va_K D cl tys s) (hP : va_P D cl (am_ws ad ct h) H) (hD : va_D A (am_ws ad ct h)) (hS : va_S A s.heap H locs) (hA : ∀ q, s.heap.size ≤ q → A q) {x : Int32} (hn : ¬ x < 0) (hN : x.toNatClampNeg ≤ 65536) (hcells : cells + 1 ≤ R.cells) (hslots : slots + x.toNatClampNeg ≤ R.slots) {pc : Nat} {ls : Array Slot} {st : List Value} {lv : am_L} (hdg : decode cc pc = .ok (.newarray t, 2))
    (hl : lv_has ls nL (am_lv ad lv)) (hlen : h.length < 1000) (ho : am_oldL h.length lv st = true) (ho2 : am_oldH h.length h = true)
    (kk : ∀ (ad' : Nat → Nat) (H1 : Heap), (∀ i, (i < h.length ∨ 1000 ≤ i) → ad' i = ad i) → va_P D cl (am_ws ad' ct (h ++ [.inl (t0, am_zero t0 x.toNatClampNeg)])) H1 → va_D A (am_ws ad' ct (h ++ [.inl (t0, am_zero t0 x.toNatClampNeg)])) → va_S A s.heap H1 locs → lv_has ls nL (am_lv ad' lv) → W p l e R s m args below meth c H1 locs (cells + 1) (slots + x.toNatClampNeg) Q (F0 m (pc + 2) ls ((Value.ref h.length :: st).map (am_tv ad')))) :
    W p l e R s m args below meth c H locs cells slots Q (F0 m pc ls ((Value.int x :: st).map (am_tv ad))) := by
  obtain ⟨k1, k2, k3, k4, k5⟩ := am_nk_ty ht
  refine va_newaK hx hb (hts _ harr) (g := F0 m pc ls ((Value.int x :: st).map (am_tv ad))) rfl hdg (rest := st.map (am_tv ad)) rfl hn rfl (Nat.le_trans (Nat.mul_le_mul hN k3) (by decide)) hcells hslots rfl (fun H1 cA e1 z1 o1 hof hfc => ?_)
  have hcA : cA = ct t0 := by
    have h5 := k5 s (ct t0) (hK.2 t0 _ (hTY t0 k1)).2
    exact Option.some.inj (hfc.symm.trans h5)
  subst hcA
  let ad' : Nat → Nat := fun i => if i = h.length then H.size else ad i
  have ha : ∀ i, (i < h.length ∨ 1000 ≤ i) → ad' i = ad i := fun i hi => if_neg (by omega)
  have ea : ad' h.length = H.size := if_pos rfl
  unfold am_oldL at ho
  rw [Bool.and_eq_true] at ho
  have ew : am_ws ad' ct (h ++ [.inl (t0, am_zero t0 x.toNatClampNeg)]) = am_ws ad ct h ++ [(H.size, .inl (ct t0, am_zero t0 x.toNatClampNeg))] := by
    have e0 : am_ws ad' ct (h ++ [.inl (t0, am_zero t0 x.toNatClampNeg)]) = am_ws ad' ct h ++ [(ad' h.length, am_te ad' ct (.inl (t0, am_zero t0 x.toNatClampNeg)))] := by simp [am_ws, List.mapIdx_append]
    rw [e0, am_ws_old ct ha (Nat.le_refl _) ho2, ea]
    rfl
  have hk : ∀ (k : Nat) (y : Nat × va_E), (am_ws ad ct h)[k]? = some y → H1[y.1]? = H[y.1]? := fun k y hy => o1 y.1 ((hP k y hy).lt)
  have hP1 : va_P D cl (am_ws ad ct h ++ [(H.size, .inl (ct t0, am_zero t0 x.toNatClampNeg))]) H1 := by
    refine (hP.kept hk).app (fun k y hy => ?_)
    have hz : k < 1 := (List.getElem?_eq_some_iff.mp hy).1
    rw [show k = 0 by omega] at hy
    cases hy
    show H1[H.size]? = some (vp_cell (ct t0) (am_zero t0 x.toNatClampNeg))
    rw [e1, k4]
  have hD1 : va_D A (am_ws ad ct h ++ [(H.size, .inl (ct t0, am_zero t0 x.toNatClampNeg))]) := hD.push hP rfl (hA _ hS.1)
  have hS1 : va_S A s.heap H1 locs := ⟨Nat.le_trans hS.1 (by omega), fun y h1 h2 => (o1 y (Nat.lt_of_lt_of_le h1 hS.1)).trans (hS.2.1 y h1 h2), hS.2.2⟩
  have kq := kk ad' H1 ha (by rw [ew]; exact hP1) (by rw [ew]; exact hD1) hS1 (by rw [am_lv_old ha ho.1]; exact hl)
  have es : (Value.ref h.length :: st).map (am_tv ad') = .ref H.size :: st.map (am_tv ad) := by
    rw [List.map_cons, am_st_old ha ho.2]
    show Value.ref (ad' h.length) :: _ = _
    rw [ea]
  rw [es] at kq
  exact kq
end AM3
