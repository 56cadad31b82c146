/-! ===== A ROAD of a method's run: kk instructions (a call counts as one), going on ===== -/
def am_one (fetch : Nat → Option Instr) (stp : Instr → Nat → am_L → List Value → List va_E → Option am_F) (cal : Instr → Option (Nat × Nat × Nat × Nat)) (oi : Nat → Bool) (nw : Nat → Option (Nat × List Value)) (run : Nat → List Value → List va_E → Option am_R) (pc : Nat) (lv : am_L) (st : List Value) (h : List va_E) : Option (am_F × Nat × Nat) := match fetch pc with
  | none => none
  | some i => match i with
    | .new k => (nw k).bind fun q => if (decide (h.length < 1000) && (am_oldL h.length lv st && am_oldH h.length h)) = true then some ((pc + 3, lv, .ref h.length :: st, h ++ [.inr q]), 1, q.2.length) else none
    | .newarray t => am_i1 st fun x r0 => (am_nk t).bind fun t0 => if (decide (¬ x < 0) && (decide (x.toNatClampNeg ≤ 65536) && (decide (h.length < 1000) && (am_oldL h.length lv st && am_oldH h.length h)))) = true then some ((pc + 2, lv, .ref h.length :: r0, h ++ [.inl (t0, am_zero t0 x.toNatClampNeg)]), 1, x.toNatClampNeg) else none
    | _ => match (match i with
        | .invokespecial k => oi k
        | _ => false) with
      | true => am_r1 st fun _ r => if decide ((r.map fun v => v.category).sum ≤ 8) = true then some ((pc + 3, lv, r, h), 0, 0) else none
      | false => match cal i with
        | some q => (am_pop (am_vir q.1) q.2.2.1 st).bind fun w => if (decide ((w.2.map fun v => v.category).sum ≤ 8) && ((q.1 != 0) || am_rcv w.1 h q.2.2.2)) = true then (run q.2.1 w.1 h).bind fun r => match r.1 with
            | .inr _ => none
            | .inl v => if (decide (h.length ≤ r.2.1.length) && (r.2.2.1 == 0 || am_oldL h.length lv w.2)) = true then some ((pc + 3, lv, v.toList ++ w.2, r.2.1), r.2.2.1, r.2.2.2) else none
            else none
        | none => (stp i pc lv st h).bind fun q => some (q, 0, 0)
def am_seg (fetch : Nat → Option Instr) (stp : Instr → Nat → am_L → List Value → List va_E → Option am_F) (cal : Instr → Option (Nat × Nat × Nat × Nat)) (oi : Nat → Bool) (nw : Nat → Option (Nat × List Value)) (run : Nat → List Value → List va_E → Option am_R) : Nat → Nat → am_L → List Value → List va_E → Option (am_F × Nat × Nat)
  | 0, pc, lv, st, h => some ((pc, lv, st, h), 0, 0)
  | kk + 1, pc, lv, st, h => (am_one fetch stp cal oi nw run pc lv st h).bind fun r => (am_seg fetch stp cal oi nw run kk r.1.1 r.1.2.1 r.1.2.2.1 r.1.2.2.2).bind fun r2 => some (r2.1, r.2.1 + r2.2.1, r.2.2 + r2.2.2)
section AM13
variable {p : Program} {l : Launch} {e : Env} {R : Room} {s : State} {m : MethodId} {args : Array Value} {below : List Frame} {meth : Method} {c : Code} {Q : State → Prop}
variable {cc : ByteArray} {D : va_G} {cl : List vw_C} {A : Nat → Prop} {tys : List (ClassId × FieldType)} {ct ak : Nat → Nat} {Ts : List Jvm.Cond} {own : String} {nL : Nat} {K0 : (Nat → Prop) → State → Prop} {X : Nat → Nat → State → Prop}
variable {cal : Instr → Option (Nat × Nat × Nat × Nat)} {nm : Nat → MethodName} {bt : Nat → ByteArray} {mL : Nat → Nat} {rt : Nat → Option FieldType} {wsM : Nat → List Jvm.Cond}
variable {fl : Nat → Option (Nat × Nat × FieldType × Bool)} {kc : Nat → Option Value} {kl : Nat → Option Int64} {gs : Nat → Option Value} {ro : Nat → Option (Nat × (Nat → Int32))} {ini : Bool}
variable {fetch : Nat → Option Instr} {oi : Nat → Bool} {nw : Nat → Option (Nat × List Value)} {run : Nat → List Value → List va_E → Option am_R} {ret : Option FieldType} {d : Nat}
set_option maxHeartbeats 4000000 in
set_option maxRecDepth 20000 in
/-- one instruction, and on -/
theorem am_one_W (hm : am_M p l s m args meth c R cc D cl A tys ct ak Ts own nL K0 cal nm bt mL rt wsM fl kc kl gs ro ini fetch oi nw ret d)
    (hrun : ∀ y as h v h' nc ns, run y as h = some (.inl v, h', nc, ns) → ∀ (ad : Nat → Nat) (sz : Nat), Met l (nm y) (wsM y) (am_rm d nc ns) (am_Pre D cl ct tys ak K0 ad h sz as) (am_Post D cl ct tys X ad h.length (va_A (am_ws ad ct h) sz) (.inl v) h' nc) nc ns (va_A (am_ws ad ct h) sz))
    {pc pc' : Nat} {lv lv' : am_L} {st st' : List Value} {h h' : List va_E} {nc ns : Nat} (hex : am_one fetch (am_step fl kc kl gs ro ini nL) cal oi nw run pc lv st h = some ((pc', lv', st', h'), nc, ns))
    {ad : Nat → Nat} {H : Heap} {locs : List Loc} {cells slots : Nat} {ls : Array Slot} (hcn : cells + nc ≤ R.cells) (hsn : slots + ns ≤ R.slots) (hP : va_P D cl (am_ws ad ct h) H) (hD : va_D A (am_ws ad ct h)) (hS : va_S A s.heap H locs) (hl : lv_has ls nL (am_lv ad lv)) (hak : ∀ i, 1000 ≤ i → ad i = ak i)
    (kk : ∀ (ad' : Nat → Nat) (H1 : Heap) (locs1 : List Loc) (ls1 : Array Slot), (∀ i, (i < h.length ∨ 1000 ≤ i) → ad' i = ad i) → (nc = 0 → ad' = ad) → h.length ≤ h'.length → va_P D cl (am_ws ad' ct h') H1 → va_D A (am_ws ad' ct h') → va_S A s.heap H1 locs1 → lv_has ls1 nL (am_lv ad' lv') → (∀ i, 1000 ≤ i → ad' i = ak i) → W p l e R s m args below meth c H1 locs1 (cells + nc) (slots + ns) Q (F0 m pc' ls1 (st'.map (am_tv ad')))) :
    W p l e R s m args below meth c H locs cells slots Q (F0 m pc ls (st.map (am_tv ad))) := by
  obtain ⟨hx, hb, hml, hts, hown, hlocks, hret, hK, h0, hK0, hA, hFL, hKGR, hKL, hTY, hin, hCT, hOI, hNW, hAR, hfe, hRf, hRl⟩ := hm
  obtain ⟨hKC, hGS, hRO⟩ := hKGR ad hak
  unfold am_one at hex
  split at hex
  · cases hex
  · next i hi =>
    have hdec := hfe pc i hi
    split at hex
    · -- new
      next k =>
      obtain ⟨q, hq, h2⟩ := Option.bind_eq_some_iff.mp hex
      obtain ⟨h3, h4⟩ := am_if h2
      cases h4
      simp only [Bool.and_eq_true, decide_eq_true_eq] at h3
      obtain ⟨n, hd, hn⟩ := hdec
      cases hn (by simp [am_len])
      obtain ⟨C, T, ty, g1, g2, g3, g4, g5, g6, g7, g8⟩ := hNW k q hq
      refine am_new (nL := nL) hx hb hts g2 ty g3 hown g4 g5 g6 hK hP hD hS hA g1 g7 g8 (by omega) (by omega) hd hl h3.1 h3.2.1 h3.2.2 (fun ad' H1 ha hP1 hD1 hS1 hl1 => ?_)
      exact kk ad' H1 locs ls ha (fun z => absurd z (by decide)) (by simp) hP1 hD1 hS1 hl1 (fun i hi => (ha i (Or.inr hi)).trans (hak i hi))
    · -- newarray
      next t =>
      obtain ⟨x, r0, rfl, h1⟩ := am_i1_eq hex
      obtain ⟨t0, ht0, h2⟩ := Option.bind_eq_some_iff.mp h1
      obtain ⟨h3, h4⟩ := am_if h2
      cases h4
      simp only [Bool.and_eq_true, decide_eq_true_eq] at h3
      obtain ⟨n, hd, hn⟩ := hdec
      cases hn (by simp [am_len])
      have hol : am_oldL h.length lv r0 = true := by
        have := h3.2.2.2.1
        unfold am_oldL at this ⊢
        rw [Bool.and_eq_true] at this ⊢
        exact ⟨this.1, (by have := this.2; rw [List.all_cons, Bool.and_eq_true] at this; exact this.2)⟩
      refine am_newa (nL := nL) hx hb hts ht0 (hAR t t0 ht0) hTY hK hP hD hS hA h3.1 h3.2.1 (by omega) (by omega) hd hl h3.2.2.1 hol h3.2.2.2.2 (fun ad' H1 ha hP1 hD1 hS1 hl1 => ?_)
      exact kk ad' H1 locs ls ha (fun z => absurd z (by decide)) (by simp) hP1 hD1 hS1 hl1 (fun i hi => (ha i (Or.inr hi)).trans (hak i hi))
    · -- the rest
      split at hex
      · -- Object.<init>
        next hoi =>
        split at hoi
        · next k =>
          obtain ⟨a, r, rfl, h1⟩ := am_r1_eq hex
          obtain ⟨h2, h3⟩ := am_if h1
          cases h3
          obtain ⟨n, hd, hn⟩ := hdec
          cases hn (by simp [am_len])
          obtain ⟨o1, o2, o3⟩ := hOI _ hoi
          refine W.objInit hx hb hown (hts _ o1) (hts _ o2) (hts _ o3) (g := F0 m pc ls ((Value.ref a :: st').map (am_tv ad))) rfl (hl.1.trans hml.symm) rfl hd (by omega) ?_ (kk ad H locs ls (fun _ _ => rfl) (fun _ => rfl) (Nat.le_refl _) hP hD hS hl hak)
          have h8 := of_decide_eq_true h2
          have := lv_room (m := m) (pc := pc) (ls := ls) (rest := (Value.ref a :: st').map (am_tv ad)) (st := st'.map (am_tv ad)) (by rw [am_cats]; exact h8)
          omega
        · cases hoi
      · split at hex
        · -- a call
          next q hq =>
          obtain ⟨w, hw, h1⟩ := Option.bind_eq_some_iff.mp hex
          obtain ⟨h2, h3⟩ := am_if h1
          obtain ⟨r, hr, h4⟩ := Option.bind_eq_some_iff.mp h3
          obtain ⟨r1, r2, r3, r4⟩ := r
          simp only at h4
          split at h4
          · cases h4
          · next v1 =>
            obtain ⟨h5, h6⟩ := am_if h4
            cases h6
            simp only [Bool.and_eq_true, decide_eq_true_eq] at h2 h5
            have hd3 : decode cc pc = .ok (i, 3) := by
              obtain ⟨n, hd, hn⟩ := hdec
              have : am_len i = 3 := by
                rcases (hCT i q hq).2.2.2 with ⟨-, _, _, _, _, rfl, -⟩ | ⟨-, _, rfl, -⟩ | ⟨-, _, rfl, -⟩ | ⟨-, _, _, rfl, -⟩ <;> rfl
              rw [hd, hn (by rw [this]; decide), this]
            refine am_callR (nL := nL) (X := X) hx hb hml hts hown hK h0 hCT hq hw h2.1 (fun k0 => ?_) (hrun _ _ _ _ _ _ _ hr ad H.size) ⟨hRf, hRl⟩ (by omega) (by omega) hd3 hl.1 hP hD hS hA hak hK0 (fun ad' H1 locs1 ha hz hP1 hD1 hS1 => ?_)
            · have := h2.2
              rw [k0] at this
              simpa using this
            · have hlv : am_lv ad' lv = am_lv ad lv ∧ w.2.map (am_tv ad') = w.2.map (am_tv ad) := by
                have h52 := h5.2
                rw [Bool.or_eq_true] at h52
                rcases h52 with z | z
                · have z : nc = 0 := by simpa using z
                  rw [hz z]
                  exact ⟨rfl, rfl⟩
                · unfold am_oldL at z
                  rw [Bool.and_eq_true] at z
                  exact ⟨am_lv_old ha z.1, am_st_old ha z.2⟩
              have k1 := kk ad' H1 locs1 ls ha hz h5.1 hP1 hD1 hS1 (by rw [hlv.1]; exact hl) (fun i hi => (ha i (Or.inr hi)).trans (hak i hi))
              rw [List.map_append, hlv.2] at k1
              exact k1
        · -- a step
          obtain ⟨q, hq, h1⟩ := Option.bind_eq_some_iff.mp hex
          obtain ⟨q1, q2, q3, q4⟩ := q
          cases h1
          refine am_step_ok hx hb hts hown hK hFL hKC hKL hGS hRO hTY hin hq hdec hP hD hS hl (fun H1 locs1 ls1 hP1 hD1 hS1 hl1 => ?_)
          exact kk ad H1 locs1 ls1 (fun _ _ => rfl) (fun _ => rfl) (by rw [am_step_len hq]; exact Nat.le_refl _) hP1 hD1 hS1 hl1 hak
/-- a road, and on -/
theorem am_seg_W (hm : am_M p l s m args meth c R cc D cl A tys ct ak Ts own nL K0 cal nm bt mL rt wsM fl kc kl gs ro ini fetch oi nw ret d)
    (hrun : ∀ y as h v h' nc ns, run y as h = some (.inl v, h', nc, ns) → ∀ (ad : Nat → Nat) (sz : Nat), Met l (nm y) (wsM y) (am_rm d nc ns) (am_Pre D cl ct tys ak K0 ad h sz as) (am_Post D cl ct tys X ad h.length (va_A (am_ws ad ct h) sz) (.inl v) h' nc) nc ns (va_A (am_ws ad ct h) sz))
    {pc' : Nat} {lv' : am_L} {st' : List Value} {h' : List va_E} : ∀ (n pc : Nat) (lv : am_L) (st : List Value) (h : List va_E) (nc ns : Nat), am_seg fetch (am_step fl kc kl gs ro ini nL) cal oi nw run n pc lv st h = some ((pc', lv', st', h'), nc, ns) →
    ∀ (ad : Nat → Nat) (H : Heap) (locs : List Loc) (cells slots : Nat) (ls : Array Slot), cells + nc ≤ R.cells → slots + ns ≤ R.slots → va_P D cl (am_ws ad ct h) H → va_D A (am_ws ad ct h) → va_S A s.heap H locs → lv_has ls nL (am_lv ad lv) → (∀ i, 1000 ≤ i → ad i = ak i) →
    (∀ (ad' : Nat → Nat) (H1 : Heap) (locs1 : List Loc) (ls1 : Array Slot), (∀ i, (i < h.length ∨ 1000 ≤ i) → ad' i = ad i) → (nc = 0 → ad' = ad) → h.length ≤ h'.length → va_P D cl (am_ws ad' ct h') H1 → va_D A (am_ws ad' ct h') → va_S A s.heap H1 locs1 → lv_has ls1 nL (am_lv ad' lv') → (∀ i, 1000 ≤ i → ad' i = ak i) → W p l e R s m args below meth c H1 locs1 (cells + nc) (slots + ns) Q (F0 m pc' ls1 (st'.map (am_tv ad')))) →
    W p l e R s m args below meth c H locs cells slots Q (F0 m pc ls (st.map (am_tv ad))) := by
  intro n
  induction n with
  | zero =>
    intro pc lv st h nc ns hex ad H locs cells slots ls hcn hsn hP hD hS hl hak kk
    cases hex
    exact kk ad H locs ls (fun _ _ => rfl) (fun _ => rfl) (Nat.le_refl _) hP hD hS hl hak
  | succ n ih =>
    intro pc lv st h nc ns hex ad H locs cells slots ls hcn hsn hP hD hS hl hak kk
    obtain ⟨r, hr, h1⟩ := Option.bind_eq_some_iff.mp hex
    obtain ⟨r2, hr2, h2⟩ := Option.bind_eq_some_iff.mp h1
    obtain ⟨⟨q1, q2, q3, q4⟩, n1, m1⟩ := r
    obtain ⟨q5, n2, m2⟩ := r2
    cases h2
    dsimp only at hcn hsn hr2 kk
    refine am_one_W hm hrun hr (by omega) (by omega) hP hD hS hl hak (fun ad' H1 locs1 ls1 ha hz hle hP1 hD1 hS1 hl1 hak1 => ?_)
    refine ih q1 q2 q3 q4 n2 m2 hr2 ad' H1 locs1 (cells + n1) (slots + m1) ls1 (by omega) (by omega) hP1 hD1 hS1 hl1 hak1 (fun ad2 H2 locs2 ls2 ha2 hz2 hle2 hP2 hD2 hS2 hl2 hak2 => ?_)
    have k := kk ad2 H2 locs2 ls2 (fun i hi => (ha2 i (hi.imp (fun z => Nat.lt_of_lt_of_le z hle) id)).trans (ha i hi)) (fun z => by
      rw [hz2 (by omega), hz (by omega)]) (Nat.le_trans hle hle2) hP2 hD2 hS2 hl2 hak2
    rw [← Nat.add_assoc, ← Nat.add_assoc] at k
    exact k
end AM13
