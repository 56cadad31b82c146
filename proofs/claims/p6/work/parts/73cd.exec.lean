/-! ===== every method meets its run, texts and all ===== -/
def am_tcP : List Nat := [704, 714, 1079, 1081, 1228, 1232, 1243]
def am_tck (e : ((Nat × Nat) × (Nat × Nat)) × Nat) : Bool := decide (e.1.2.1 < 3) && (am_at e.2 (.methodLink (am_cn e.1.1.1) e.1.1.2 (tx_nm e.1.2.1)) && decide ((parseMethodDescriptor (tx_nm e.1.2.1).desc).map (fun d => d.parameters.length) = some e.1.2.2))
set_option maxRecDepth 100000 in
theorem am_tcks : (am_tcT.zip am_tcP).all am_tck = true ∧ am_tcT.length = am_tcP.length := by decide +kernel
set_option maxRecDepth 100000 in
theorem tx_iw : am_at 705 (.instanceMethod (tx_nm 0)) = true ∧ am_at 706 (.selects "java/lang/String" (tx_nm 0) (tx_nm 0)) = true ∧ am_at 715 (.instanceMethod (tx_nm 1)) = true ∧ am_at 716 (.selects "java/lang/String" (tx_nm 1) (tx_nm 1)) = true ∧ am_at 1229 (.instanceMethod (tx_nm 2)) = true ∧ am_at 1230 (.selects "java/lang/String" (tx_nm 2) (tx_nm 2)) = true ∧ am_at 239 (.initialized "java/lang/String") = true := by decide +kernel
/-- a call of a text's method: its words -/
theorem am_cal2_tx {co : Nat} {i : Instr} {q : Nat × Nat × Nat × Nat} (h : am_cal2 co i = some q) (h0 : am_cal co i = none) : ∃ index op n, i = .invokevirtual index ∧ q = (4, 400 + op, n, 0) ∧ op < 3 ∧ (parseMethodDescriptor (tx_nm op).desc).map (fun d => d.parameters.length) = some n ∧ (tx_nm op).cls = "java/lang/String" ∧ tx_mL op ≤ 20 ∧ ∀ w ∈ wsV (am_cn co) index "java/lang/String" (tx_nm op) (tx_ws op), w ∈ am_Ts := by
  unfold am_cal2 at h
  rw [h0] at h
  cases i with
  | invokevirtual k =>
    have h : (am_tcT.lookup (co, k)).map (fun q => (4, 400 + q.1, q.2, 0)) = some q := h
    cases hl : am_tcT.lookup (co, k) with
    | none => rw [hl] at h; cases h
    | some e =>
      rw [hl] at h
      cases h
      obtain ⟨pp, hz⟩ := am_zip (p := am_tcP) am_tcks.2 (am_mem_look hl)
      have hc := List.all_eq_true.mp am_tcks.1 _ hz
      obtain ⟨c1, hc⟩ := j_and hc
      obtain ⟨c2, c3⟩ := j_and hc
      replace c1 : e.1 < 3 := of_decide_eq_true c1
      replace c3 := of_decide_eq_true c3
      obtain ⟨i1, i2, i3, i4, i5, i6, i7⟩ := tx_iw
      have h3 : (tx_nm e.1).cls = "java/lang/String" ∧ tx_mL e.1 ≤ 20 ∧ Jvm.Cond.instanceMethod (tx_nm e.1) ∈ am_Ts ∧ Jvm.Cond.selects "java/lang/String" (tx_nm e.1) (tx_nm e.1) ∈ am_Ts := by
        obtain ⟨e1, e2⟩ := e
        match e1, c1 with
        | 0, _ => exact ⟨rfl, Nat.le_of_ble_eq_true rfl, am_at_in i1, am_at_in i2⟩
        | 1, _ => exact ⟨rfl, Nat.le_of_ble_eq_true rfl, am_at_in i3, am_at_in i4⟩
        | 2, _ => exact ⟨rfl, Nat.le_of_ble_eq_true rfl, am_at_in i5, am_at_in i6⟩
      refine ⟨k, e.1, e.2, rfl, rfl, c1, c3, h3.1, h3.2.1, fun w hw => ?_⟩
      rcases List.mem_append.mp hw with z | z
      · simp only [List.mem_cons, List.not_mem_nil, or_false] at z
        rcases z with rfl | rfl | rfl | rfl
        · exact am_at_in c2
        · exact h3.2.2.1
        · exact h3.2.2.2
        · exact am_at_in i7
      · exact tx_wsT (by omega) w z
  | _ => cases h
/-- what a text's method answers, it answers by its contract -/
theorem am_run2_tx {l : Launch} {D : va_G} {ct ak : Nat → Nat} {tys : List (ClassId × FieldType)} {X : Nat → Nat → State → Prop} (hTY : am_TY tys ct) {F d y : Nat} {as : List Value} {h : List va_E} {r : am_R} (hy : 400 ≤ y) (hr : am_run2 F d y as h = some r) : ∃ v a as', as = .ref a :: as' ∧ (1000 ≤ a ∧ a < 1039) ∧ r = (.inl v, h, 0, 0) ∧ tx_M l D ct tys ak X d (y - 400) as v := by
  cases d with
  | zero => cases hr
  | succ d =>
    rw [am_run2, if_pos hy] at hr
    obtain ⟨h4, hr⟩ := cm_if_eq hr
    obtain ⟨d, rfl⟩ : ∃ k, d = k + 4 := ⟨d - 4, by omega⟩
    cases hx : am_tx (y - 400) as with
    | none => rw [hx] at hr; cases hr
    | some v =>
      rw [hx] at hr
      cases hr
      unfold am_tx at hx
      split at hx
      · next a =>
        obtain ⟨ha, hx⟩ := cm_if_eq hx
        refine ⟨some v, a, [], rfl, ha, rfl, ?_⟩
        by_cases h0 : y - 400 = 0
        · rw [if_pos h0] at hx
          cases hx
          rw [h0]
          exact tx_length (d := d + 3) hTY ha
        · rw [if_neg h0] at hx
          obtain ⟨h2, hx⟩ := cm_if_eq hx
          cases hx
          rw [h2]
          exact tx_empty (d := d + 4) hTY ha
      · next a j =>
        obtain ⟨ha, hx⟩ := cm_if_eq hx
        obtain ⟨h1, hx⟩ := cm_if_eq hx
        cases hx
        obtain ⟨h1, h2⟩ := j_and h1
        have h1 : y - 400 = 1 := by simpa using h1
        refine ⟨_, a, [.int j], rfl, ha, rfl, ?_⟩
        rw [h1]
        exact tx_charAt (d := d + 1) hTY ha h2
      · cases hx
theorem am_cal_lt {co : Nat} {i : Instr} {q : Nat × Nat × Nat × Nat} (h : am_cal co i = some q) : q.2.1 < 400 := by
  have hk : ∃ k r, am_calT.lookup (co, k) = some (q, r) := by
    unfold am_cal at h
    split at h
    · next k =>
      obtain ⟨z, hz, h1⟩ := Option.bind_eq_some_iff.mp h
      obtain ⟨h2, h3⟩ := am_if h1
      cases h3
      exact ⟨k, z.2, hz⟩
    · next k =>
      obtain ⟨z, hz, h1⟩ := Option.bind_eq_some_iff.mp h
      obtain ⟨h2, h3⟩ := am_if h1
      cases h3
      exact ⟨k, z.2, hz⟩
    · next k =>
      obtain ⟨z, hz, h1⟩ := Option.bind_eq_some_iff.mp h
      obtain ⟨h2, h3⟩ := am_if h1
      cases h3
      exact ⟨k, z.2, hz⟩
    · cases h
  obtain ⟨k, ps, hl⟩ := hk
  have h := am_hC _ (am_mem_look hl)
  unfold am_ckC at h
  simp only [Bool.and_eq_true, decide_eq_true_eq] at h
  obtain ⟨-, -, -, -, hy, -⟩ := h
  have hm := am_melen
  have hy : q.2.1 < am_me.length := hy
  omega
section JXR
variable {p : Program} {l : Launch} {e : Env} {R : Room} {s : State} {m : MethodId} {args : Array Value} {below : List Frame} {meth : Method} {c : Code}
variable {cc : ByteArray} {D : va_G} {A : Nat → Prop} {tys : List (ClassId × FieldType)} {ct ak : Nat → Nat} {Ts : List Jvm.Cond} {own : String} {nL : Nat} {X : Nat → Nat → State → Prop}
variable {co : Nat}
variable {fl : Nat → Option (Nat × Nat × FieldType × Bool)} {kc : Nat → Option Value} {kl : Nat → Option Int64} {gs : Nat → Option Value} {ro : Nat → Option (Nat × (Nat → Int32))} {ini : Bool}
variable {fetch : Nat → Option Instr} {oi : Nat → Bool} {nw : Nat → Option (Nat × List Value)} {run : Nat → List Value → List va_E → Option am_R} {thr : Nat → Option Nat} {ret : Option FieldType} {xc xs d : Nat}
set_option maxHeartbeats 4000000 in
set_option maxRecDepth 20000 in
/-- A RUN THAT COMES BACK -/
theorem am_exec_R2 (hm : am_M p l s m args meth c R cc D am_cl A tys ct ak Ts own nL (am_KY ak) (am_cal co) am_nm am_bt am_mL am_rt am_wM fl kc kl gs ro ini fetch oi nw ret d)
    (hco : am_cn co = own) (hTs : ∀ w ∈ am_Ts, w ∈ Ts) (htx : ∀ y as h r, 400 ≤ y → run y as h = some r → ∃ v a as', as = .ref a :: as' ∧ (1000 ≤ a ∧ a < 1039) ∧ r = (.inl v, h, 0, 0) ∧ tx_M l D ct tys ak X d (y - 400) as v)
    (hrun : ∀ y as h v h' nc ns, y < 400 → run y as h = some (.inl v, h', nc, ns) → ∀ (ad : Nat → Nat) (sz : Nat), Met l (am_nm y) (am_wM y) (am_rm d nc ns) (am_Pre D am_cl ct tys ak (am_KY ak) ad h sz as) (am_Post D am_cl ct tys X ad h.length (va_A (am_ws ad ct h) sz) (.inl v) h' nc) nc ns (va_A (am_ws ad ct h) sz))
    {ad0 : Nat → Nat} {n0 NC NS : Nat} (hNC : NC ≤ R.cells) (hNS : NS ≤ R.slots) {v : Option Value} {h' : List va_E} :
    ∀ (kk : Nat) (pc : Nat) (lv : am_L) (st : List Value) (h : List va_E) (nc ns : Nat), am_exec fetch (am_step fl kc kl gs ro ini nL) (am_cal2 co) oi nw run thr ret xc xs kk pc lv st h = some (.inl v, h', nc, ns) →
    ∀ (ad : Nat → Nat) (H : Heap) (locs : List Loc) (cells slots : Nat) (ls : Array Slot), cells + nc = NC → slots + ns = NS → va_P D am_cl (am_ws ad ct h) H → va_D A (am_ws ad ct h) → va_S A s.heap H locs → lv_has ls nL (am_lv ad lv) → (∀ i, 1000 ≤ i → ad i = ak i) → (∀ i, (i < n0 ∨ 1000 ≤ i) → ad i = ad0 i) → n0 ≤ h.length → (cells = 0 → ad = ad0) →
    W p l e R s m args below meth c H locs cells slots (MQ below (am_Post D am_cl ct tys X ad0 n0 A (.inl v) h' NC) args s NC NS A) (F0 m pc ls (st.map (am_tv ad))) := by
  obtain ⟨hx, hb, hml, hts, hown, hlocks, hret, hK, h0, hK0, hA, hFL, hKGR, hKL, hTY, hin, hCT, hOI, hNW, hAR, hfe, hRf, hRl⟩ := hm
  intro kk
  induction kk with
  | zero => intro pc lv st h nc ns hex; cases hex
  | succ kk ih =>
    intro pc lv st h nc ns hex ad H locs cells slots ls hcn hsn hP hD hS hl hak hag hn0 hc0
    obtain ⟨hKC, hGS, hRO⟩ := hKGR ad hak
    rw [am_exec_s] at hex
    split at hex
    · exact absurd (am_if hex).2 (fun z => by cases z)
    · split at hex
      · cases hex
      · next i hi =>
        have hdec := hfe pc i hi
        split at hex
        · -- return
          obtain ⟨h1, h2⟩ := am_if hex
          cases h2
          rw [Bool.and_eq_true] at h1
          obtain ⟨n, hd, hn⟩ := hdec
          cases hn (by simp [am_len])
          have hst : st = [] := List.isEmpty_iff.mp h1.2
          have hrn : ret = none := Option.isNone_iff_eq_none.mp h1.1
          subst hst
          have e1 : cells = NC := by omega
          have e2 : slots = NS := by omega
          subst e1; subst e2
          exact W.vret hx hb (hret.trans hrn) (fun t ht hW => ⟨ad, hag, hc0, rfl, by rw [ht]; exact hP, va_K.moved hW.alike hK, hD, hS.F ht⟩) hS.2.2 hd hlocks
        · -- ireturn
          split at hex
          · next x =>
            split at hex
            · next ty =>
              obtain ⟨h1, h2⟩ := am_if hex
              cases h2
              obtain ⟨n, hd, hn⟩ := hdec
              cases hn (by simp [am_len])
              have e1 : cells = NC := by omega
              have e2 : slots = NS := by omega
              subst e1; subst e2
              exact W.zret hx hb hret (of_decide_eq_true h1) (fun t ht hW => ⟨ad, hag, hc0, rfl, by rw [ht]; exact hP, va_K.moved hW.alike hK, hD, hS.F ht⟩) hS.2.2 hd hlocks
            · cases hex
          · cases hex
        · -- new
          next k =>
          obtain ⟨q, hq, h2⟩ := Option.bind_eq_some_iff.mp hex
          obtain ⟨h3, h4⟩ := am_if h2
          obtain ⟨r, hr, h5⟩ := Option.bind_eq_some_iff.mp h4
          obtain ⟨r1, r2, r3, r4⟩ := r
          cases h5
          dsimp only at hcn hsn
          simp only [Bool.and_eq_true, decide_eq_true_eq] at h3
          obtain ⟨n, hd, hn⟩ := hdec
          cases hn (by simp [am_len])
          obtain ⟨C, T, ty, g1, g2, g3, g4, g5, g6, g7, g8⟩ := hNW k q hq
          refine am_new (nL := nL) hx hb hts g2 ty g3 hown g4 g5 g6 hK hP hD hS hA g1 g7 g8 (by omega) (by omega) hd hl h3.1 h3.2.1 h3.2.2 (fun ad' H1 ha hP1 hD1 hS1 hl1 => ?_)
          exact ih (pc + 3) lv (.ref h.length :: st) (h ++ [.inr q]) r3 r4 hr ad' H1 locs (cells + 1) (slots + q.2.length) ls (by omega) (by omega) hP1 hD1 hS1 hl1 (fun i hi => (ha i (Or.inr hi)).trans (hak i hi)) (fun i hi => (ha i (hi.imp (fun z => Nat.lt_of_lt_of_le z hn0) id)).trans (hag i hi)) (by simp; omega) (fun z => absurd z (by omega))
        · -- newarray
          next t =>
          obtain ⟨x, r0, rfl, h1⟩ := am_i1_eq hex
          obtain ⟨t0, ht0, h2⟩ := Option.bind_eq_some_iff.mp h1
          obtain ⟨h3, h4⟩ := am_if h2
          obtain ⟨r, hr, h5⟩ := Option.bind_eq_some_iff.mp h4
          obtain ⟨r1, r2, r3, r4⟩ := r
          cases h5
          dsimp only at hcn hsn
          simp only [Bool.and_eq_true, decide_eq_true_eq] at h3
          obtain ⟨n, hd, hn⟩ := hdec
          cases hn (by simp [am_len])
          have hol : am_oldL h.length lv r0 = true := by
            have := h3.2.2.2.1
            unfold am_oldL at this ⊢
            rw [Bool.and_eq_true] at this ⊢
            exact ⟨this.1, (by have := this.2; rw [List.all_cons, Bool.and_eq_true] at this; exact this.2)⟩
          refine am_newa (nL := nL) hx hb hts ht0 (hAR t t0 ht0) hTY hK hP hD hS hA h3.1 h3.2.1 (by omega) (by omega) hd hl h3.2.2.1 hol h3.2.2.2.2 (fun ad' H1 ha hP1 hD1 hS1 hl1 => ?_)
          exact ih (pc + 2) lv (.ref h.length :: r0) _ r3 r4 hr ad' H1 locs (cells + 1) (slots + x.toNatClampNeg) ls (by omega) (by omega) hP1 hD1 hS1 hl1 (fun i hi => (ha i (Or.inr hi)).trans (hak i hi)) (fun i hi => (ha i (hi.imp (fun z => Nat.lt_of_lt_of_le z hn0) id)).trans (hag i hi)) (by simp; omega) (fun z => absurd z (by omega))
        · -- the rest
          split at hex
          · -- Object.<init>
            next hoi =>
            split at hoi
            · next k =>
              obtain ⟨a, r, rfl, h1⟩ := am_r1_eq hex
              obtain ⟨h2, h3⟩ := am_if h1
              obtain ⟨n, hd, hn⟩ := hdec
              cases hn (by simp [am_len])
              obtain ⟨o1, o2, o3⟩ := hOI _ hoi
              refine W.objInit hx hb hown (hts _ o1) (hts _ o2) (hts _ o3) (g := F0 m pc ls ((Value.ref a :: r).map (am_tv ad))) rfl (hl.1.trans hml.symm) rfl hd (by omega) ?_ (ih (pc + 3) lv r h nc ns h3 ad H locs cells slots ls hcn hsn hP hD hS hl hak hag hn0 hc0)
              have h8 := of_decide_eq_true h2
              have := lv_room (m := m) (pc := pc) (ls := ls) (rest := (Value.ref a :: r).map (am_tv ad)) (st := r.map (am_tv ad)) (by rw [am_cats]; exact h8)
              omega
            · cases hoi
          · split at hex
            · -- a call
              next q hq =>
              obtain ⟨w, hw, h1⟩ := Option.bind_eq_some_iff.mp hex
              obtain ⟨h2, h3⟩ := am_if h1
              obtain ⟨r, hr, h4⟩ := Option.bind_eq_some_iff.mp h3
              obtain ⟨r1, r2, r3, r4⟩ := r
              simp only at h4
              split at h4
              · exact absurd (am_if h4).2 (fun z => by cases z)
              · next v1 =>
                obtain ⟨h5, h6⟩ := am_if h4
                obtain ⟨rr, hrr, h7⟩ := Option.bind_eq_some_iff.mp h6
                obtain ⟨s1, s2, s3, s4⟩ := rr
                cases h7
                dsimp only at hcn hsn
                simp only [Bool.and_eq_true, decide_eq_true_eq] at h2 h5
                rcases hq0 : am_cal co i with _ | q0
                · obtain ⟨index, op, n, rfl, rfl, hop, hdn, hcls, hm20, hwT⟩ := am_cal2_tx hq hq0
                  obtain ⟨vv, a, as', hasE, haR, hrE, hM⟩ := htx _ _ _ _ (by show 400 ≤ 400 + op; omega) hr
                  cases hrE
                  obtain ⟨a0, as0, ew, el, est⟩ := (am_pop_eq hw).1 rfl
                  rw [hasE] at ew
                  cases ew
                  obtain ⟨n3, hd, hn⟩ := hdec
                  cases hn (by simp [am_len])
                  rw [est]
                  rw [hasE, show 400 + op - 400 = op by omega] at hM
                  refine am_callX (X := X) (nL := nL) (d := d) (nc := 0) (ns := 0) (tws := tx_ws op) hx hb hml hts hown hK h0 rfl hm20 hcls ⟨by rw [hcls]; decide, by rw [hcls]; decide, hdn⟩ (am_good hTs (by rw [← hco]; exact hwT)) el h2.1 (by rw [hak a haR.1]; exact (hK0.2.1 a haR.1 haR.2).1) (hM _ ad H.size) ⟨hRf, hRl⟩ (by omega) (by omega) hd hl.1 hP hD hS hA hak hK0 (fun ad' H1 locs1 ha hz hP1 hD1 hS1 => ?_)
                  have e := hz rfl
                  subst e
                  have k1 := ih (pc + 3) lv (v1.toList ++ w.2) _ s3 s4 hrr ad' H1 locs1 (cells + 0) (slots + 0) ls (by omega) (by omega) hP1 hD1 hS1 hl hak hag hn0 hc0
                  rw [List.map_append] at k1
                  exact k1
                obtain rfl : q = q0 := by
                  have := am_cal2_of hq0
                  rw [hq] at this
                  exact Option.some.inj this
                replace hq := hq0
                have hlt := am_cal_lt hq
                have hd3 : decode cc pc = .ok (i, 3) := by
                  obtain ⟨n, hd, hn⟩ := hdec
                  have : am_len i = 3 := by
                    rcases (hCT i q hq).2.2.2 with ⟨-, _, _, _, _, rfl, -⟩ | ⟨-, _, rfl, -⟩ | ⟨-, _, rfl, -⟩ | ⟨-, _, _, rfl, -⟩ <;> rfl
                  rw [hd, hn (by rw [this]; decide), this]
                refine am_callR (nL := nL) (X := X) hx hb hml hts hown hK h0 hCT hq hw h2.1 (fun k0 => ?_) (hrun _ _ _ _ _ _ _ hlt hr ad H.size) ⟨hRf, hRl⟩ (by omega) (by omega) hd3 hl.1 hP hD hS hA hak hK0 (fun ad' H1 locs1 ha hz hP1 hD1 hS1 => ?_)
                · have := h2.2
                  rw [k0] at this
                  simpa using this
                · have hlv : am_lv ad' lv = am_lv ad lv ∧ w.2.map (am_tv ad') = w.2.map (am_tv ad) := by
                    have h52 := h5.2
                    rw [Bool.or_eq_true] at h52
                    rcases h52 with z | z
                    · have z : r3 = 0 := by simpa using z
                      rw [hz z]
                      exact ⟨rfl, rfl⟩
                    · unfold am_oldL at z
                      rw [Bool.and_eq_true] at z
                      exact ⟨am_lv_old ha z.1, am_st_old ha z.2⟩
                  have k1 := ih (pc + 3) lv (v1.toList ++ w.2) r2 s3 s4 hrr ad' H1 locs1 (cells + r3) (slots + r4) ls (by omega) (by omega) hP1 hD1 hS1 (by rw [hlv.1]; exact hl) (fun i hi => (ha i (Or.inr hi)).trans (hak i hi)) (fun i hi => (ha i (hi.imp (fun z => Nat.lt_of_lt_of_le z hn0) id)).trans (hag i hi)) (Nat.le_trans hn0 h5.1) (fun z => by
                    have z1 : cells = 0 := by omega
                    have z2 : r3 = 0 := by omega
                    rw [hz z2, hc0 z1])
                  rw [List.map_append, hlv.2] at k1
                  exact k1
            · -- a step
              obtain ⟨q, hq, h1⟩ := Option.bind_eq_some_iff.mp hex
              obtain ⟨q1, q2, q3, q4⟩ := q
              refine am_step_ok hx hb hts hown hK hFL hKC hKL hGS hRO hTY hin hq hdec hP hD hS hl (fun H1 locs1 ls1 hP1 hD1 hS1 hl1 => ?_)
              exact ih q1 q2 q3 q4 nc ns h1 ad H1 locs1 cells slots ls1 hcn hsn hP1 hD1 hS1 hl1 hak hag (by rw [am_step_len hq]; exact hn0) hc0
end JXR
section JXT
variable {p : Program} {l : Launch} {e : Env} {R : Room} {s : State} {m : MethodId} {args : Array Value} {below : List Frame} {meth : Method} {c : Code}
variable {cc : ByteArray} {D : va_G} {A : Nat → Prop} {tys : List (ClassId × FieldType)} {ct ak : Nat → Nat} {Ts : List Jvm.Cond} {own : String} {nL : Nat} {X : Nat → Nat → State → Prop}
variable {co : Nat}
variable {fl : Nat → Option (Nat × Nat × FieldType × Bool)} {kc : Nat → Option Value} {kl : Nat → Option Int64} {gs : Nat → Option Value} {ro : Nat → Option (Nat × (Nat → Int32))} {ini : Bool}
variable {fetch : Nat → Option Instr} {oi : Nat → Bool} {nw : Nat → Option (Nat × List Value)} {run : Nat → List Value → List va_E → Option am_R} {thr : Nat → Option Nat} {ret : Option FieldType} {xc xs d : Nat}
set_option maxHeartbeats 4000000 in
set_option maxRecDepth 20000 in
/-- A RUN THAT THROWS; hsite: what a throw's own rows do -/
theorem am_exec_T2 (hX : am_XO X) (hnh : c.exceptionTable.isEmpty = true) (hm : am_M p l s m args meth c R cc D am_cl A tys ct ak Ts own nL (am_KY ak) (am_cal co) am_nm am_bt am_mL am_rt am_wM fl kc kl gs ro ini fetch oi nw ret d)
    (hco : am_cn co = own) (hTs : ∀ w ∈ am_Ts, w ∈ Ts) (htx : ∀ y as h r, 400 ≤ y → run y as h = some r → ∃ v a as', as = .ref a :: as' ∧ (1000 ≤ a ∧ a < 1039) ∧ r = (.inl v, h, 0, 0) ∧ tx_M l D ct tys ak X d (y - 400) as v)
    (hrun : ∀ y as h v h' nc ns, y < 400 → run y as h = some (.inl v, h', nc, ns) → ∀ (ad : Nat → Nat) (sz : Nat), Met l (am_nm y) (am_wM y) (am_rm d nc ns) (am_Pre D am_cl ct tys ak (am_KY ak) ad h sz as) (am_Post D am_cl ct tys X ad h.length (va_A (am_ws ad ct h) sz) (.inl v) h' nc) nc ns (va_A (am_ws ad ct h) sz))
    (hrunT : ∀ y as h ex h' nc ns, y < 400 → run y as h = some (.inr ex, h', nc, ns) → ∀ (ad : Nat → Nat) (sz : Nat), am_MT l (am_nm y) (am_wM y) (am_rm d nc ns) (am_Pre D am_cl ct tys ak (am_KY ak) ad h sz as) (am_Post D am_cl ct tys X ad h.length (va_A (am_ws ad ct h) sz) (.inr ex) h' nc) nc ns (va_A (am_ws ad ct h) sz))
    {ad0 : Nat → Nat} {n0 NC NS : Nat} (hNC : NC ≤ R.cells) (hNS : NS ≤ R.slots) {ex : Nat} {h' : List va_E}
    (hsite : ∀ (pc ex : Nat) (st : List Value) (h : List va_E) (ad : Nat → Nat) (H : Heap) (locs : List Loc) (cells slots : Nat) (ls : Array Slot), thr pc = some ex → (st.map fun v => v.category).sum ≤ 8 → cells + xc = NC → slots + xs = NS → va_P D am_cl (am_ws ad ct h) H → va_D A (am_ws ad ct h) → va_S A s.heap H locs → ls.size = nL → (∀ i, 1000 ≤ i → ad i = ak i) → (∀ i, (i < n0 ∨ 1000 ≤ i) → ad i = ad0 i) → n0 ≤ h.length → (cells = 0 → ad = ad0) →
      W p l e R s m args below meth c H locs cells slots (am_MQT below (am_Post D am_cl ct tys X ad0 n0 A (.inr ex) h NC) args s NC NS A) (F0 m pc ls (st.map (am_tv ad)))) :
    ∀ (kk : Nat) (pc : Nat) (lv : am_L) (st : List Value) (h : List va_E) (nc ns : Nat), am_exec fetch (am_step fl kc kl gs ro ini nL) (am_cal2 co) oi nw run thr ret xc xs kk pc lv st h = some (.inr ex, h', nc, ns) →
    ∀ (ad : Nat → Nat) (H : Heap) (locs : List Loc) (cells slots : Nat) (ls : Array Slot), cells + nc = NC → slots + ns = NS → va_P D am_cl (am_ws ad ct h) H → va_D A (am_ws ad ct h) → va_S A s.heap H locs → lv_has ls nL (am_lv ad lv) → (∀ i, 1000 ≤ i → ad i = ak i) → (∀ i, (i < n0 ∨ 1000 ≤ i) → ad i = ad0 i) → n0 ≤ h.length → (cells = 0 → ad = ad0) →
    W p l e R s m args below meth c H locs cells slots (am_MQT below (am_Post D am_cl ct tys X ad0 n0 A (.inr ex) h' NC) args s NC NS A) (F0 m pc ls (st.map (am_tv ad))) := by
  obtain ⟨hx, hb, hml, hts, hown, hlocks, hret, hK, h0, hK0, hA, hFL, hKGR, hKL, hTY, hin, hCT, hOI, hNW, hAR, hfe, hRf, hRl⟩ := hm
  intro kk
  induction kk with
  | zero => intro pc lv st h nc ns hex; cases hex
  | succ kk ih =>
    intro pc lv st h nc ns hex ad H locs cells slots ls hcn hsn hP hD hS hl hak hag hn0 hc0
    obtain ⟨hKC, hGS, hRO⟩ := hKGR ad hak
    rw [am_exec_s] at hex
    split at hex
    · next e1 he1 =>
      obtain ⟨h8, h9⟩ := am_if hex
      cases h9
      exact hsite pc _ st _ ad H locs cells slots ls he1 (of_decide_eq_true h8) hcn hsn hP hD hS hl.1 hak hag hn0 hc0
    · split at hex
      · cases hex
      · next i hi =>
        have hdec := hfe pc i hi
        split at hex
        · exact absurd (am_if hex).2 (fun z => by cases z)
        · split at hex
          · split at hex
            · exact absurd (am_if hex).2 (fun z => by cases z)
            · cases hex
          · cases hex
        · -- new
          next k =>
          obtain ⟨q, hq, h2⟩ := Option.bind_eq_some_iff.mp hex
          obtain ⟨h3, h4⟩ := am_if h2
          obtain ⟨r, hr, h5⟩ := Option.bind_eq_some_iff.mp h4
          obtain ⟨r1, r2, r3, r4⟩ := r
          cases h5
          dsimp only at hcn hsn
          simp only [Bool.and_eq_true, decide_eq_true_eq] at h3
          obtain ⟨n, hd, hn⟩ := hdec
          cases hn (by simp [am_len])
          obtain ⟨C, T, ty, g1, g2, g3, g4, g5, g6, g7, g8⟩ := hNW k q hq
          refine am_new (nL := nL) hx hb hts g2 ty g3 hown g4 g5 g6 hK hP hD hS hA g1 g7 g8 (by omega) (by omega) hd hl h3.1 h3.2.1 h3.2.2 (fun ad' H1 ha hP1 hD1 hS1 hl1 => ?_)
          exact ih (pc + 3) lv (.ref h.length :: st) (h ++ [.inr q]) r3 r4 hr ad' H1 locs (cells + 1) (slots + q.2.length) ls (by omega) (by omega) hP1 hD1 hS1 hl1 (fun i hi => (ha i (Or.inr hi)).trans (hak i hi)) (fun i hi => (ha i (hi.imp (fun z => Nat.lt_of_lt_of_le z hn0) id)).trans (hag i hi)) (by simp; omega) (fun z => absurd z (by omega))
        · -- newarray
          next t =>
          obtain ⟨x, r0, rfl, h1⟩ := am_i1_eq hex
          obtain ⟨t0, ht0, h2⟩ := Option.bind_eq_some_iff.mp h1
          obtain ⟨h3, h4⟩ := am_if h2
          obtain ⟨r, hr, h5⟩ := Option.bind_eq_some_iff.mp h4
          obtain ⟨r1, r2, r3, r4⟩ := r
          cases h5
          dsimp only at hcn hsn
          simp only [Bool.and_eq_true, decide_eq_true_eq] at h3
          obtain ⟨n, hd, hn⟩ := hdec
          cases hn (by simp [am_len])
          have hol : am_oldL h.length lv r0 = true := by
            have := h3.2.2.2.1
            unfold am_oldL at this ⊢
            rw [Bool.and_eq_true] at this ⊢
            exact ⟨this.1, (by have := this.2; rw [List.all_cons, Bool.and_eq_true] at this; exact this.2)⟩
          refine am_newa (nL := nL) hx hb hts ht0 (hAR t t0 ht0) hTY hK hP hD hS hA h3.1 h3.2.1 (by omega) (by omega) hd hl h3.2.2.1 hol h3.2.2.2.2 (fun ad' H1 ha hP1 hD1 hS1 hl1 => ?_)
          exact ih (pc + 2) lv (.ref h.length :: r0) _ r3 r4 hr ad' H1 locs (cells + 1) (slots + x.toNatClampNeg) ls (by omega) (by omega) hP1 hD1 hS1 hl1 (fun i hi => (ha i (Or.inr hi)).trans (hak i hi)) (fun i hi => (ha i (hi.imp (fun z => Nat.lt_of_lt_of_le z hn0) id)).trans (hag i hi)) (by simp; omega) (fun z => absurd z (by omega))
        · -- the rest
          split at hex
          · -- Object.<init>
            next hoi =>
            split at hoi
            · next k =>
              obtain ⟨a, r, rfl, h1⟩ := am_r1_eq hex
              obtain ⟨h2, h3⟩ := am_if h1
              obtain ⟨n, hd, hn⟩ := hdec
              cases hn (by simp [am_len])
              obtain ⟨o1, o2, o3⟩ := hOI _ hoi
              refine W.objInit hx hb hown (hts _ o1) (hts _ o2) (hts _ o3) (g := F0 m pc ls ((Value.ref a :: r).map (am_tv ad))) rfl (hl.1.trans hml.symm) rfl hd (by omega) ?_ (ih (pc + 3) lv r h nc ns h3 ad H locs cells slots ls hcn hsn hP hD hS hl hak hag hn0 hc0)
              have h8 := of_decide_eq_true h2
              have := lv_room (m := m) (pc := pc) (ls := ls) (rest := (Value.ref a :: r).map (am_tv ad)) (st := r.map (am_tv ad)) (by rw [am_cats]; exact h8)
              omega
            · cases hoi
          · split at hex
            · -- a call
              next q hq =>
              obtain ⟨w, hw, h1⟩ := Option.bind_eq_some_iff.mp hex
              obtain ⟨h2, h3⟩ := am_if h1
              obtain ⟨r, hr, h4⟩ := Option.bind_eq_some_iff.mp h3
              obtain ⟨r1, r2, r3, r4⟩ := r
              simp only at h4
              split at h4
              · next ex1 =>
                obtain ⟨h5, h6⟩ := am_if h4
                cases h6
                simp only [Bool.and_eq_true, decide_eq_true_eq] at h2
                have hq0 : am_cal co i = some q := by
                  rcases hq0 : am_cal co i with _ | q0
                  · obtain ⟨index, op, n, -, rfl, -⟩ := am_cal2_tx hq hq0
                    obtain ⟨vv, a, as', -, -, hrE, -⟩ := htx _ _ _ _ (by show 400 ≤ 400 + op; omega) hr
                    cases hrE
                  · have := am_cal2_of hq0
                    rw [hq] at this
                    rw [Option.some.inj this]
                replace hq := hq0
                have hlt := am_cal_lt hq
                have hd3 : decode cc pc = .ok (i, 3) := by
                  obtain ⟨n, hd, hn⟩ := hdec
                  have : am_len i = 3 := by
                    rcases (hCT i q hq).2.2.2 with ⟨-, _, _, _, _, rfl, -⟩ | ⟨-, _, rfl, -⟩ | ⟨-, _, rfl, -⟩ | ⟨-, _, _, rfl, -⟩ <;> rfl
                  rw [hd, hn (by rw [this]; decide), this]
                refine am_callT (nL := nL) (X := X) hX hx hb hml hlocks hnh hts hown hK h0 hCT hq (of_decide_eq_true h5) hw h2.1 (fun k0 => ?_) (hrunT _ _ _ _ _ _ _ hlt hr ad H.size) ⟨hRf, hRl⟩ (by omega) (by omega) hd3 hl.1 hP hD hS hA hak hK0 hcn hsn hag hn0 hc0
                have := h2.2
                rw [k0] at this
                simpa using this
              · next v1 =>
                obtain ⟨h5, h6⟩ := am_if h4
                obtain ⟨rr, hrr, h7⟩ := Option.bind_eq_some_iff.mp h6
                obtain ⟨s1, s2, s3, s4⟩ := rr
                cases h7
                dsimp only at hcn hsn
                simp only [Bool.and_eq_true, decide_eq_true_eq] at h2 h5
                rcases hq0 : am_cal co i with _ | q0
                · obtain ⟨index, op, n, rfl, rfl, hop, hdn, hcls, hm20, hwT⟩ := am_cal2_tx hq hq0
                  obtain ⟨vv, a, as', hasE, haR, hrE, hM⟩ := htx _ _ _ _ (by show 400 ≤ 400 + op; omega) hr
                  cases hrE
                  obtain ⟨a0, as0, ew, el, est⟩ := (am_pop_eq hw).1 rfl
                  rw [hasE] at ew
                  cases ew
                  obtain ⟨n3, hd, hn⟩ := hdec
                  cases hn (by simp [am_len])
                  rw [est]
                  rw [hasE, show 400 + op - 400 = op by omega] at hM
                  refine am_callX (X := X) (nL := nL) (d := d) (nc := 0) (ns := 0) (tws := tx_ws op) hx hb hml hts hown hK h0 rfl hm20 hcls ⟨by rw [hcls]; decide, by rw [hcls]; decide, hdn⟩ (am_good hTs (by rw [← hco]; exact hwT)) el h2.1 (by rw [hak a haR.1]; exact (hK0.2.1 a haR.1 haR.2).1) (hM _ ad H.size) ⟨hRf, hRl⟩ (by omega) (by omega) hd hl.1 hP hD hS hA hak hK0 (fun ad' H1 locs1 ha hz hP1 hD1 hS1 => ?_)
                  have e := hz rfl
                  subst e
                  have k1 := ih (pc + 3) lv (v1.toList ++ w.2) _ s3 s4 hrr ad' H1 locs1 (cells + 0) (slots + 0) ls (by omega) (by omega) hP1 hD1 hS1 hl hak hag hn0 hc0
                  rw [List.map_append] at k1
                  exact k1
                obtain rfl : q = q0 := by
                  have := am_cal2_of hq0
                  rw [hq] at this
                  exact Option.some.inj this
                replace hq := hq0
                have hlt := am_cal_lt hq
                have hd3 : decode cc pc = .ok (i, 3) := by
                  obtain ⟨n, hd, hn⟩ := hdec
                  have : am_len i = 3 := by
                    rcases (hCT i q hq).2.2.2 with ⟨-, _, _, _, _, rfl, -⟩ | ⟨-, _, rfl, -⟩ | ⟨-, _, rfl, -⟩ | ⟨-, _, _, rfl, -⟩ <;> rfl
                  rw [hd, hn (by rw [this]; decide), this]
                refine am_callR (nL := nL) (X := X) hx hb hml hts hown hK h0 hCT hq hw h2.1 (fun k0 => ?_) (hrun _ _ _ _ _ _ _ hlt hr ad H.size) ⟨hRf, hRl⟩ (by omega) (by omega) hd3 hl.1 hP hD hS hA hak hK0 (fun ad' H1 locs1 ha hz hP1 hD1 hS1 => ?_)
                · have := h2.2
                  rw [k0] at this
                  simpa using this
                · have hlv : am_lv ad' lv = am_lv ad lv ∧ w.2.map (am_tv ad') = w.2.map (am_tv ad) := by
                    have h52 := h5.2
                    rw [Bool.or_eq_true] at h52
                    rcases h52 with z | z
                    · have z : r3 = 0 := by simpa using z
                      rw [hz z]
                      exact ⟨rfl, rfl⟩
                    · unfold am_oldL at z
                      rw [Bool.and_eq_true] at z
                      exact ⟨am_lv_old ha z.1, am_st_old ha z.2⟩
                  have k1 := ih (pc + 3) lv (v1.toList ++ w.2) r2 s3 s4 hrr ad' H1 locs1 (cells + r3) (slots + r4) ls (by omega) (by omega) hP1 hD1 hS1 (by rw [hlv.1]; exact hl) (fun i hi => (ha i (Or.inr hi)).trans (hak i hi)) (fun i hi => (ha i (hi.imp (fun z => Nat.lt_of_lt_of_le z hn0) id)).trans (hag i hi)) (Nat.le_trans hn0 h5.1) (fun z => by
                    have z1 : cells = 0 := by omega
                    have z2 : r3 = 0 := by omega
                    rw [hz z2, hc0 z1])
                  rw [List.map_append, hlv.2] at k1
                  exact k1
            · -- a step
              obtain ⟨q, hq, h1⟩ := Option.bind_eq_some_iff.mp hex
              obtain ⟨q1, q2, q3, q4⟩ := q
              refine am_step_ok hx hb hts hown hK hFL hKC hKL hGS hRO hTY hin hq hdec hP hD hS hl (fun H1 locs1 ls1 hP1 hD1 hS1 hl1 => ?_)
              exact ih q1 q2 q3 q4 nc ns h1 ad H1 locs1 cells slots ls1 hcn hsn hP1 hD1 hS1 hl1 hak hag (by rw [am_step_len hq]; exact hn0) hc0
end JXT
