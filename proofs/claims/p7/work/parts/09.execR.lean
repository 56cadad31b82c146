section AM5
variable {p : Program} {l : Launch} {e : Env} {R : Room} {s : State} {m : MethodId} {args : Array Value} {below : List Frame} {meth : Method} {c : Code}
variable {cc : ByteArray} {D : va_G} {cl : List vw_C} {A : Nat → Prop} {tys : List (ClassId × FieldType)} {ct ak : Nat → Nat} {Ts : List Jvm.Cond} {own : String} {nL : Nat} {K0 : (Nat → Prop) → State → Prop} {X : Nat → Nat → State → Prop}
variable {cal : Instr → Option (Nat × Nat × Nat × Nat)} {nm : Nat → MethodName} {bt : Nat → ByteArray} {mL : Nat → Nat} {rt : Nat → Option FieldType} {wsM : Nat → List Jvm.Cond}
variable {fl : Nat → Option (Nat × Nat × FieldType × Bool)} {kc : Nat → Option Value} {kl : Nat → Option Int64} {gs : Nat → Option Value} {ro : Nat → Option (Nat × (Nat → Int32))} {ini : Bool}
variable {fetch : Nat → Option Instr} {oi : Nat → Bool} {nw : Nat → Option (Nat × List Value)} {run : Nat → List Value → List va_E → Option am_R} {thr : Nat → Option Nat} {ret : Option FieldType} {xc xs d : Nat}
/-- what one method's run stands on -/
def am_M (p : Program) (l : Launch) (s : State) (m : MethodId) (args : Array Value) (meth : Method) (c : Code) (R : Room) (cc : ByteArray) (D : va_G) (cl : List vw_C) (A : Nat → Prop) (tys : List (ClassId × FieldType)) (ct ak : Nat → Nat) (Ts : List Jvm.Cond) (own : String) (nL : Nat) (K0 : (Nat → Prop) → State → Prop) (cal : Instr → Option (Nat × Nat × Nat × Nat)) (nm : Nat → MethodName) (bt : Nat → ByteArray) (mL : Nat → Nat) (rt : Nat → Option FieldType) (wsM : Nat → List Jvm.Cond) (fl : Nat → Option (Nat × Nat × FieldType × Bool)) (kc : Nat → Option Value) (kl : Nat → Option Int64) (gs : Nat → Option Value) (ro : Nat → Option (Nat × (Nat → Int32))) (ini : Bool) (fetch : Nat → Option Instr) (oi : Nat → Bool) (nw : Nat → Option (Nat × List Value)) (ret : Option FieldType) (d : Nat) : Prop :=
  p.tables.exec = Jvm.exec ∧ c.code = cc ∧ c.maxLocals = nL ∧ (∀ w ∈ Ts, w.before args s = true) ∧ s.vm.findClass own = some m.cls ∧ meth.locks = false ∧ meth.sig.returnType = ret ∧ va_K D cl tys s ∧ am_K0 K0 ∧ K0 A s ∧ (∀ q, s.heap.size ≤ q → A q) ∧
  am_FL fl own cl Ts ∧ (∀ ad : Nat → Nat, (∀ i, 1000 ≤ i → ad i = ak i) → am_KC kc own ad Ts s ∧ am_GS gs own ad A Ts s ∧ am_RO ro ad A s) ∧ am_KL kl own Ts ∧ am_TY tys ct ∧ (ini = true → meth.name = "<init>") ∧ am_CT cal own cl Ts s nm bt mL rt wsM ∧ am_OI oi own Ts ∧ am_NW nw own cl Ts ∧ am_AR Ts ∧
  (∀ pc i, fetch pc = some i → ∃ n, decode cc pc = .ok (i, n) ∧ (am_len i ≠ 0 → n = am_len i)) ∧ d + 9 ≤ R.frames ∧ (d + 1) * 40 + 400 ≤ R.locals
set_option maxHeartbeats 4000000 in
set_option maxRecDepth 20000 in
/-- A RUN THAT COMES BACK -/
theorem am_exec_R (hm : am_M p l s m args meth c R cc D cl A tys ct ak Ts own nL K0 cal nm bt mL rt wsM fl kc kl gs ro ini fetch oi nw ret d)
    (hrun : ∀ y as h v h' nc ns, run y as h = some (.inl v, h', nc, ns) → ∀ (ad : Nat → Nat) (sz : Nat), Met l (nm y) (wsM y) (am_rm d nc ns) (am_Pre D cl ct tys ak K0 ad h sz as) (am_Post D cl ct tys X ad h.length (va_A (am_ws ad ct h) sz) (.inl v) h' nc) nc ns (va_A (am_ws ad ct h) sz))
    {ad0 : Nat → Nat} {n0 NC NS : Nat} (hNC : NC ≤ R.cells) (hNS : NS ≤ R.slots) {v : Option Value} {h' : List va_E} :
    ∀ (kk : Nat) (pc : Nat) (lv : am_L) (st : List Value) (h : List va_E) (nc ns : Nat), am_exec fetch (am_step fl kc kl gs ro ini nL) cal oi nw run thr ret xc xs kk pc lv st h = some (.inl v, h', nc, ns) →
    ∀ (ad : Nat → Nat) (H : Heap) (locs : List Loc) (cells slots : Nat) (ls : Array Slot), cells + nc = NC → slots + ns = NS → va_P D cl (am_ws ad ct h) H → va_D A (am_ws ad ct h) → va_S A s.heap H locs → lv_has ls nL (am_lv ad lv) → (∀ i, 1000 ≤ i → ad i = ak i) → (∀ i, (i < n0 ∨ 1000 ≤ i) → ad i = ad0 i) → n0 ≤ h.length → (cells = 0 → ad = ad0) →
    W p l e R s m args below meth c H locs cells slots (MQ below (am_Post D cl ct tys X ad0 n0 A (.inl v) h' NC) args s NC NS A) (F0 m pc ls (st.map (am_tv ad))) := by
  obtain ⟨hx, hb, hml, hts, hown, hlocks, hret, hK, h0, hK0, hA, hFL, hKGR, hKL, hTY, hin, hCT, hOI, hNW, hAR, hfe, hRf, hRl⟩ := hm
  intro kk
  induction kk with
  | zero => intro pc lv st h nc ns hex; cases hex
  | succ kk ih =>
    intro pc lv st h nc ns hex ad H locs cells slots ls hcn hsn hP hD hS hl hak hag hn0 hc0
    obtain ⟨hKC, hGS, hRO⟩ := hKGR ad hak
    rw [am_exec_s] at hex
    split at hex
    · exact absurd (am_if hex).2 (fun z => by cases z)
    · split at hex
      · cases hex
      · next i hi =>
        have hdec := hfe pc i hi
        split at hex
        · -- return
          obtain ⟨h1, h2⟩ := am_if hex
          cases h2
          rw [Bool.and_eq_true] at h1
          obtain ⟨n, hd, hn⟩ := hdec
          cases hn (by simp [am_len])
          have hst : st = [] := List.isEmpty_iff.mp h1.2
          have hrn : ret = none := Option.isNone_iff_eq_none.mp h1.1
          subst hst
          have e1 : cells = NC := by omega
          have e2 : slots = NS := by omega
          subst e1; subst e2
          exact W.vret hx hb (hret.trans hrn) (fun t ht hW => ⟨ad, hag, hc0, rfl, by rw [ht]; exact hP, va_K.moved hW.alike hK, hD, hS.F ht⟩) hS.2.2 hd hlocks
        · -- ireturn
          split at hex
          · next x =>
            split at hex
            · next ty =>
              obtain ⟨h1, h2⟩ := am_if hex
              cases h2
              obtain ⟨n, hd, hn⟩ := hdec
              cases hn (by simp [am_len])
              have e1 : cells = NC := by omega
              have e2 : slots = NS := by omega
              subst e1; subst e2
              exact W.zret hx hb hret (of_decide_eq_true h1) (fun t ht hW => ⟨ad, hag, hc0, rfl, by rw [ht]; exact hP, va_K.moved hW.alike hK, hD, hS.F ht⟩) hS.2.2 hd hlocks
            · cases hex
          · cases hex
        · -- new
          next k =>
          obtain ⟨q, hq, h2⟩ := Option.bind_eq_some_iff.mp hex
          obtain ⟨h3, h4⟩ := am_if h2
          obtain ⟨r, hr, h5⟩ := Option.bind_eq_some_iff.mp h4
          obtain ⟨r1, r2, r3, r4⟩ := r
          cases h5
          dsimp only at hcn hsn
          simp only [Bool.and_eq_true, decide_eq_true_eq] at h3
          obtain ⟨n, hd, hn⟩ := hdec
          cases hn (by simp [am_len])
          obtain ⟨C, T, ty, g1, g2, g3, g4, g5, g6, g7, g8⟩ := hNW k q hq
          refine am_new (nL := nL) hx hb hts g2 ty g3 hown g4 g5 g6 hK hP hD hS hA g1 g7 g8 (by omega) (by omega) hd hl h3.1 h3.2.1 h3.2.2 (fun ad' H1 ha hP1 hD1 hS1 hl1 => ?_)
          exact ih (pc + 3) lv (.ref h.length :: st) (h ++ [.inr q]) r3 r4 hr ad' H1 locs (cells + 1) (slots + q.2.length) ls (by omega) (by omega) hP1 hD1 hS1 hl1 (fun i hi => (ha i (Or.inr hi)).trans (hak i hi)) (fun i hi => (ha i (hi.imp (fun z => Nat.lt_of_lt_of_le z hn0) id)).trans (hag i hi)) (by simp; omega) (fun z => absurd z (by omega))
        · -- newarray
          next t =>
          obtain ⟨x, r0, rfl, h1⟩ := am_i1_eq hex
          obtain ⟨t0, ht0, h2⟩ := Option.bind_eq_some_iff.mp h1
          obtain ⟨h3, h4⟩ := am_if h2
          obtain ⟨r, hr, h5⟩ := Option.bind_eq_some_iff.mp h4
          obtain ⟨r1, r2, r3, r4⟩ := r
          cases h5
          dsimp only at hcn hsn
          simp only [Bool.and_eq_true, decide_eq_true_eq] at h3
          obtain ⟨n, hd, hn⟩ := hdec
          cases hn (by simp [am_len])
          have hol : am_oldL h.length lv r0 = true := by
            have := h3.2.2.2.1
            unfold am_oldL at this ⊢
            rw [Bool.and_eq_true] at this ⊢
            exact ⟨this.1, (by have := this.2; rw [List.all_cons, Bool.and_eq_true] at this; exact this.2)⟩
          refine am_newa (nL := nL) hx hb hts ht0 (hAR t t0 ht0) hTY hK hP hD hS hA h3.1 h3.2.1 (by omega) (by omega) hd hl h3.2.2.1 hol h3.2.2.2.2 (fun ad' H1 ha hP1 hD1 hS1 hl1 => ?_)
          exact ih (pc + 2) lv (.ref h.length :: r0) _ r3 r4 hr ad' H1 locs (cells + 1) (slots + x.toNatClampNeg) ls (by omega) (by omega) hP1 hD1 hS1 hl1 (fun i hi => (ha i (Or.inr hi)).trans (hak i hi)) (fun i hi => (ha i (hi.imp (fun z => Nat.lt_of_lt_of_le z hn0) id)).trans (hag i hi)) (by simp; omega) (fun z => absurd z (by omega))
        · -- the rest
          split at hex
          · -- Object.<init>
            next hoi =>
            split at hoi
            · next k =>
              obtain ⟨a, r, rfl, h1⟩ := am_r1_eq hex
              obtain ⟨h2, h3⟩ := am_if h1
              obtain ⟨n, hd, hn⟩ := hdec
              cases hn (by simp [am_len])
              obtain ⟨o1, o2, o3⟩ := hOI _ hoi
              refine W.objInit hx hb hown (hts _ o1) (hts _ o2) (hts _ o3) (g := F0 m pc ls ((Value.ref a :: r).map (am_tv ad))) rfl (hl.1.trans hml.symm) rfl hd (by omega) ?_ (ih (pc + 3) lv r h nc ns h3 ad H locs cells slots ls hcn hsn hP hD hS hl hak hag hn0 hc0)
              have h8 := of_decide_eq_true h2
              have := lv_room (m := m) (pc := pc) (ls := ls) (rest := (Value.ref a :: r).map (am_tv ad)) (st := r.map (am_tv ad)) (by rw [am_cats]; exact h8)
              omega
            · cases hoi
          · split at hex
            · -- a call
              next q hq =>
              obtain ⟨w, hw, h1⟩ := Option.bind_eq_some_iff.mp hex
              obtain ⟨h2, h3⟩ := am_if h1
              obtain ⟨r, hr, h4⟩ := Option.bind_eq_some_iff.mp h3
              obtain ⟨r1, r2, r3, r4⟩ := r
              simp only at h4
              split at h4
              · exact absurd (am_if h4).2 (fun z => by cases z)
              · next v1 =>
                obtain ⟨h5, h6⟩ := am_if h4
                obtain ⟨rr, hrr, h7⟩ := Option.bind_eq_some_iff.mp h6
                obtain ⟨s1, s2, s3, s4⟩ := rr
                cases h7
                dsimp only at hcn hsn
                simp only [Bool.and_eq_true, decide_eq_true_eq] at h2 h5
                have hd3 : decode cc pc = .ok (i, 3) := by
                  obtain ⟨n, hd, hn⟩ := hdec
                  have : am_len i = 3 := by
                    rcases (hCT i q hq).2.2.2 with ⟨-, _, _, _, _, rfl, -⟩ | ⟨-, _, rfl, -⟩ | ⟨-, _, rfl, -⟩ | ⟨-, _, _, rfl, -⟩ <;> rfl
                  rw [hd, hn (by rw [this]; decide), this]
                refine am_callR (nL := nL) (X := X) hx hb hml hts hown hK h0 hCT hq hw h2.1 (fun k0 => ?_) (hrun _ _ _ _ _ _ _ hr ad H.size) ⟨hRf, hRl⟩ (by omega) (by omega) hd3 hl.1 hP hD hS hA hak hK0 (fun ad' H1 locs1 ha hz hP1 hD1 hS1 => ?_)
                · have := h2.2
                  rw [k0] at this
                  simpa using this
                · have hlv : am_lv ad' lv = am_lv ad lv ∧ w.2.map (am_tv ad') = w.2.map (am_tv ad) := by
                    have h52 := h5.2
                    rw [Bool.or_eq_true] at h52
                    rcases h52 with z | z
                    · have z : r3 = 0 := by simpa using z
                      rw [hz z]
                      exact ⟨rfl, rfl⟩
                    · unfold am_oldL at z
                      rw [Bool.and_eq_true] at z
                      exact ⟨am_lv_old ha z.1, am_st_old ha z.2⟩
                  have k1 := ih (pc + 3) lv (v1.toList ++ w.2) r2 s3 s4 hrr ad' H1 locs1 (cells + r3) (slots + r4) ls (by omega) (by omega) hP1 hD1 hS1 (by rw [hlv.1]; exact hl) (fun i hi => (ha i (Or.inr hi)).trans (hak i hi)) (fun i hi => (ha i (hi.imp (fun z => Nat.lt_of_lt_of_le z hn0) id)).trans (hag i hi)) (Nat.le_trans hn0 h5.1) (fun z => by
                    have z1 : cells = 0 := by omega
                    have z2 : r3 = 0 := by omega
                    rw [hz z2, hc0 z1])
                  rw [List.map_append, hlv.2] at k1
                  exact k1
            · -- a step
              obtain ⟨q, hq, h1⟩ := Option.bind_eq_some_iff.mp hex
              obtain ⟨q1, q2, q3, q4⟩ := q
              refine am_step_ok hx hb hts hown hK hFL hKC hKL hGS hRO hTY hin hq hdec hP hD hS hl (fun H1 locs1 ls1 hP1 hD1 hS1 hl1 => ?_)
              exact ih q1 q2 q3 q4 nc ns h1 ad H1 locs1 cells slots ls1 hcn hsn hP1 hD1 hS1 hl1 hak hag (by rw [am_step_len hq]; exact hn0) hc0
end AM5
