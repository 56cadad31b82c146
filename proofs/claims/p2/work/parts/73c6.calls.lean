/-! ===== branches, texts, calls ===== -/
section JOIN3
variable {E y lo hi : Nat} {h0 : List va_E} {code : List Instr} {P D : List Nat}
theorem jto_eq {t : Int} {q : Option Nat} (h : jto P t q = true) : ∃ pc, q = some pc ∧ P[t.toNat]? = some pc := by
  unfold jto at h
  split at h
  · exact ⟨_, rfl, of_decide_eq_true h⟩
  · cases h
theorem jswL_eq {α : Type} {pc : Nat} {hq : Option Nat} {d d' x : Int} {f : Int → α} (hd : jto P d (am_to pc d') = true) (hd0 : jt0 y code D hq d = true) : ∀ (ps ps' : List (Int × Int)), jswL P y code D hq pc ps ps' = true → ∃ t q, cm_sw x f d ps' = f t ∧ am_to pc (Op.lookupswitch.offset ps d' x) = some q ∧ P[t.toNat]? = some q ∧ jtag y code t.toNat = 0 ∧ D[t.toNat]? = hq
  | [], [], _ => by
    obtain ⟨q, h1, h2⟩ := jto_eq hd
    exact ⟨d, q, rfl, h1, h2, of_decide_eq_true hd0⟩
  | a :: r, b :: r', h => by
    replace h := j_and h
    obtain ⟨h1, h⟩ := h
    replace h := j_and h
    obtain ⟨h2, h⟩ := h
    replace h := j_and h
    obtain ⟨h3, h⟩ := h
    replace h1 := of_decide_eq_true h1
    obtain ⟨a1, a2⟩ := a
    obtain ⟨b1, b2⟩ := b
    have h1 : a1 = b1 := h1
    subst h1
    show ∃ t q, (if x = a1 then f b2 else cm_sw x f d r') = f t ∧ am_to pc (if a1 = x then a2 else Op.lookupswitch.offset r d' x) = some q ∧ _
    by_cases e : x = a1
    · obtain ⟨q, g1, g2⟩ := jto_eq h2
      rw [if_pos e, if_pos e.symm]
      exact ⟨b2, q, rfl, g1, g2, of_decide_eq_true h3⟩
    · rw [if_neg e, if_neg (Ne.symm e)]
      exact jswL_eq hd hd0 r r' h
  | [], _ :: _, h => by cases h
  | _ :: _, [], h => by cases h
theorem jswT_eq {α : Type} {pc : Nat} {hq : Option Nat} {d d' x : Int} {f : Int → α} (hd : jto P d (am_to pc d') = true) (hd0 : jt0 y code D hq d = true) : ∀ (os : List Int) (lw : Int) (ps : List (Int × Int)), jswT P y code D hq pc d' lw os ps = true → (x < lw → cm_sw x f d ps = f d) ∧ (lw ≤ x → ∃ t q, cm_sw x f d ps = f t ∧ am_to pc ((os[(x - lw).toNat]?).getD d') = some q ∧ P[t.toNat]? = some q ∧ jtag y code t.toNat = 0 ∧ D[t.toNat]? = hq)
  | [], lw, ps, h => by
    obtain rfl : ps = [] := List.isEmpty_iff.mp h
    obtain ⟨q, h1, h2⟩ := jto_eq hd
    exact ⟨fun _ => rfl, fun _ => ⟨d, q, rfl, h1, h2, of_decide_eq_true hd0⟩⟩
  | o :: r, lw, ps, h => by
    by_cases e : decide (am_to pc o = am_to pc d') = true
    · rw [jswT.eq_def] at h
      dsimp only at h
      rw [if_pos e] at h
      obtain ⟨g1, g2⟩ := jswT_eq hd hd0 r (lw + 1) ps h
      refine ⟨fun z => g1 (by omega), fun z => ?_⟩
      by_cases ex : x = lw
      · obtain ⟨q, k1, k2⟩ := jto_eq hd
        refine ⟨d, q, g1 (by omega), ?_, k2, of_decide_eq_true hd0⟩
        rw [show (x - lw).toNat = 0 by omega]
        exact (of_decide_eq_true e).trans k1
      · obtain ⟨t, q, k1, k2, k3, k4⟩ := g2 (by omega)
        refine ⟨t, q, k1, ?_, k3, k4⟩
        rw [show (x - lw).toNat = (x - (lw + 1)).toNat + 1 by omega]
        exact k2
    · rw [jswT.eq_def] at h
      dsimp only at h
      rw [if_neg e] at h
      cases ps with
      | nil => cases h
      | cons b r' =>
        replace h := j_and h
        obtain ⟨h1, h⟩ := h
        replace h := j_and h
        obtain ⟨h2, h⟩ := h
        replace h := j_and h
        obtain ⟨h3, h⟩ := h
        replace h1 := of_decide_eq_true h1
        obtain ⟨g1, g2⟩ := jswT_eq hd hd0 r (lw + 1) r' h
        show (x < lw → (if x = b.1 then f b.2 else cm_sw x f d r') = f d) ∧ (lw ≤ x → ∃ t q, (if x = b.1 then f b.2 else cm_sw x f d r') = f t ∧ _)
        refine ⟨fun z => ?_, fun z => ?_⟩
        · rw [if_neg (by omega)]
          exact g1 (by omega)
        · by_cases ex : x = lw
          · obtain ⟨q, k1, k2⟩ := jto_eq h2
            rw [if_pos (by omega)]
            refine ⟨b.2, q, rfl, ?_, k2, of_decide_eq_true h3⟩
            rw [show (x - lw).toNat = 0 by omega]
            exact k1
          · rw [if_neg (by omega)]
            obtain ⟨t, q, k1, k2, k3, k4⟩ := g2 (by omega)
            refine ⟨t, q, k1, ?_, k3, k4⟩
            rw [show (x - lw).toNat = (x - (lw + 1)).toNat + 1 by omega]
            exact k2
/-- a branch: the other machine's goes to the same place -/
theorem j_go (hh : hi ≤ h0.length) {pc pc' t : Nat} {i : Instr} {L : am_L} {lv : cm_L} {st st' : List cm_V} {s : cm_S} {r : cm_R} (h1 : am_thr y pc = none) (h2 : am_fc y pc = some i) (h3 : am_plain i = true) (h4 : am_isoi (am_co y) i = false) (h5 : am_cal2 (am_co y) i = none) (hn : P[t]? = some pc') (hs : am_step (am_fl (am_co y)) (am_kc (am_co y)) (am_kl (am_co y)) (am_gs2 (am_co y)) am_ro2 (am_in y) (am_mL y) i pc L (st.map cm_v) (cm_mix lo hi s h0) = some (pc', L, st'.map cm_v, cm_mix lo hi s h0)) (hL : jLv y lo hi code lv L) (hS : ∀ v ∈ st', cm_ok (jnl code) lo hi v) (hT : jTg y code t st') (hc : cm_cs lo hi s) (hd : D[t]? = some st'.length) (hN : jN E y lo hi h0 code P D t lv st' s r) : jC E y lo hi h0 pc L st s r :=
  jS h1 h2 h3 h4 h5 hn hs ⟨hL, hS, hT, hc, hd⟩ hN
set_option maxHeartbeats 2000000 in
theorem j_branch (hh : hi ≤ h0.length) {run : cm_RN} {X : cm_X} {m ix pc : Nat} {ci i : Instr} {lv : cm_L} {L : am_L} {st : List cm_V} {s : cm_S} {r : cm_R} (hc : code[ix]? = some ci) (h1 : am_thr y pc = none) (h2 : am_fc y pc = some i) (hk : jbr y code P D ix pc i ci = some true) (hI : jI y lo hi code D ix lv L st s) (hN : ∀ t lv st s, cm_blk run X code m (code.drop t) lv st s = some r → jN E y lo hi h0 code P D t lv st s r) (hb : cm_blk run X code (m + 1) (ci :: code.drop (ix + 1)) lv st s = some r) : jC E y lo hi h0 pc L st s r := by
  obtain ⟨hL, hS, hT, hs, hD⟩ := hI
  cases ci with
  | goto t =>
    replace hk := Option.some.inj hk
    split at hk
    · next off =>
      obtain ⟨k1, k2⟩ := j_and hk
      obtain ⟨k3, k2⟩ := j_and k2
      obtain ⟨q, g1, g2⟩ := jto_eq k1
      refine j_go hh (t := t.toNat) (st' := st) h1 h2 rfl rfl rfl g2 ?_ hL hS ?_ hs (jdn_eq k3 hD) (hN _ _ _ _ hb)
      · show (am_to pc off).bind _ = _
        rw [g1]
        rfl
      · rcases of_decide_eq_true k2 with z | z
        · exact jTg_0 z _
        · unfold jTg
          rw [z]
          exact hT
    · cases hk
  | ifCond c t =>
    replace hk := Option.some.inj hk
    split at hk
    · next c' off =>
      replace hk := j_and hk
      obtain ⟨k0, hk⟩ := hk
      replace hk := j_and hk
      obtain ⟨k1, hk⟩ := hk
      replace hk := j_and hk
      obtain ⟨k2, hk⟩ := hk
      replace hk := j_and hk
      obtain ⟨k4, hk⟩ := hk
      obtain ⟨k5, k3⟩ := j_and hk
      obtain rfl : c = c' := of_decide_eq_true k0
      obtain ⟨q, g1, g2⟩ := jto_eq k1
      replace hb := cm_i1_eq hb
      obtain ⟨x, st', rfl, hb⟩ := hb
      obtain ⟨p1, p2⟩ := List.forall_mem_cons.mp hS
      rw [cm_br_c c p1 (show cm_in 0 from ⟨by omega, by omega⟩)] at hb
      have e0 : Int32.ofInt 0 = 0 := by decide
      rw [e0] at hb
      have hst : am_step (am_fl (am_co y)) (am_kc (am_co y)) (am_kl (am_co y)) (am_gs2 (am_co y)) am_ro2 (am_in y) (am_mL y) (.ifCond c off) pc L ((.inl x :: st').map cm_v) (cm_mix lo hi s h0) = some (if am_c c (Int32.ofInt x) 0 = true then q else pc + 3, L, st'.map cm_v, cm_mix lo hi s h0) := by
        show (am_to pc off).bind _ = _
        rw [g1]
        rfl
      by_cases e : am_c c (Int32.ofInt x) 0 = true
      · rw [if_pos e] at hb hst
        exact j_go hh (t := t.toNat) (st' := st') h1 h2 rfl rfl rfl g2 hst hL p2 (jTg_0 (of_decide_eq_true k2) _) hs (jdn_eq k4 hD) (hN _ _ _ _ hb)
      · rw [if_neg e] at hb hst
        exact j_go hh (t := ix + 1) (st' := st') h1 h2 rfl rfl rfl (of_decide_eq_true k3) hst hL p2 (jTg_o hc rfl rfl _) hs (jdn_eq k5 hD) (hN _ _ _ _ hb)
    · cases hk
  | if_icmp c t =>
    replace hk := Option.some.inj hk
    split at hk
    · next c' off =>
      replace hk := j_and hk
      obtain ⟨k0, hk⟩ := hk
      replace hk := j_and hk
      obtain ⟨k1, hk⟩ := hk
      replace hk := j_and hk
      obtain ⟨k2, hk⟩ := hk
      replace hk := j_and hk
      obtain ⟨k4, hk⟩ := hk
      obtain ⟨k5, k3⟩ := j_and hk
      obtain rfl : c = c' := of_decide_eq_true k0
      obtain ⟨q, g1, g2⟩ := jto_eq k1
      replace hb := cm_i2_eq hb
      obtain ⟨x, w, st', rfl, hb⟩ := hb
      obtain ⟨p1, p2⟩ := List.forall_mem_cons.mp hS
      obtain ⟨p2, p3⟩ := List.forall_mem_cons.mp p2
      rw [cm_br_c c p2 p1] at hb
      have hst : am_step (am_fl (am_co y)) (am_kc (am_co y)) (am_kl (am_co y)) (am_gs2 (am_co y)) am_ro2 (am_in y) (am_mL y) (.if_icmp c off) pc L ((.inl w :: .inl x :: st').map cm_v) (cm_mix lo hi s h0) = some (if am_c c (Int32.ofInt x) (Int32.ofInt w) = true then q else pc + 3, L, st'.map cm_v, cm_mix lo hi s h0) := by
        show (am_to pc off).bind _ = _
        rw [g1]
        rfl
      by_cases e : am_c c (Int32.ofInt x) (Int32.ofInt w) = true
      · rw [if_pos e] at hb hst
        exact j_go hh (t := t.toNat) (st' := st') h1 h2 rfl rfl rfl g2 hst hL p3 (jTg_0 (of_decide_eq_true k2) _) hs (jdn_eq k4 hD) (hN _ _ _ _ hb)
      · rw [if_neg e] at hb hst
        exact j_go hh (t := ix + 1) (st' := st') h1 h2 rfl rfl rfl (of_decide_eq_true k3) hst hL p3 (jTg_o hc rfl rfl _) hs (jdn_eq k5 hD) (hN _ _ _ _ hb)
    · cases hk
  | lookupswitch d ps =>
    replace hk : jsw P y code D ((D[ix]?).map fun d => d - 1) pc i d ps.toList = true := Option.some.inj hk
    rw [hD] at hk
    replace hb := cm_i1_eq hb
    obtain ⟨x, st', rfl, hb⟩ := hb
    obtain ⟨p1, p2⟩ := List.forall_mem_cons.mp hS
    unfold jsw at hk
    split at hk
    · next d' ps' =>
      replace hk := j_and hk
      obtain ⟨k0, hk⟩ := hk
      replace hk := j_and hk
      obtain ⟨k1, hk⟩ := hk
      obtain ⟨k2, k3⟩ := j_and hk
      obtain ⟨t, q, g1, g2, g3, g4, g5⟩ := jswL_eq (x := x) (f := fun t => cm_blk run X code m (code.drop t.toNat) lv st' s) k1 k2 ps'.toList ps.toList k3
      rw [g1] at hb
      refine j_go hh (t := t.toNat) (st' := st') h1 h2 rfl rfl rfl g3 ?_ hL p2 (jTg_0 g4 _) hs g5 (hN _ _ _ _ hb)
      show (if ((ps'.toList.zip (ps'.toList.drop 1)).all (fun (a, next) => a.1 < next.1)) = true then (am_to pc (Op.lookupswitch.offset ps'.toList d' (Int32.ofInt x).toInt)).bind fun t => some (t, L, st'.map cm_v, cm_mix lo hi s h0) else none) = _
      rw [if_pos k0, cm_32 p1, g2]
      rfl
    · next d' lw hw offs =>
      replace hk := j_and hk
      obtain ⟨k0, hk⟩ := hk
      replace hk := j_and hk
      obtain ⟨k1, hk⟩ := hk
      obtain ⟨k2, k3⟩ := j_and hk
      replace k0 := of_decide_eq_true k0
      obtain ⟨g1, g2⟩ := jswT_eq (x := x) (f := fun t => cm_blk run X code m (code.drop t.toNat) lv st' s) k1 k2 offs.toList lw ps.toList k3
      have hst : ∀ q, am_to pc (if (decide (x < lw) || decide (hw < x)) = true then d' else (offs[(x - lw).toNat]?).getD d') = some q → am_step (am_fl (am_co y)) (am_kc (am_co y)) (am_kl (am_co y)) (am_gs2 (am_co y)) am_ro2 (am_in y) (am_mL y) (.tableswitch d' lw hw offs) pc L ((.inl x :: st').map cm_v) (cm_mix lo hi s h0) = some (q, L, st'.map cm_v, cm_mix lo hi s h0) := by
        intro q hq
        show (am_to pc (if (decide ((Int32.ofInt x).toInt < lw) || decide (hw < (Int32.ofInt x).toInt)) = true then d' else (offs[((Int32.ofInt x).toInt - lw).toNat]?).getD d')).bind (fun t => if ((decide ((Int32.ofInt x).toInt < lw) || decide (hw < (Int32.ofInt x).toInt)) || (offs[((Int32.ofInt x).toInt - lw).toNat]?).isSome) = true then some (t, L, st'.map cm_v, cm_mix lo hi s h0) else none) = _
        rw [cm_32 p1, hq]
        show (if ((decide (x < lw) || decide (hw < x)) || (offs[(x - lw).toNat]?).isSome) = true then some (q, L, st'.map cm_v, cm_mix lo hi s h0) else none) = _
        rw [if_pos]
        by_cases e1 : x < lw
        · simp [e1]
        · by_cases e2 : hw < x
          · simp [e2]
          · have : (x - lw).toNat < offs.size := by
              rw [Array.length_toList] at k0
              omega
            simp [this]
      by_cases e1 : x < lw
      · obtain ⟨q, m1, m2⟩ := jto_eq k1
        rw [g1 e1] at hb
        refine j_go hh (t := d.toNat) (st' := st') h1 h2 rfl rfl rfl m2 (hst q ?_) hL p2 (jTg_0 (of_decide_eq_true k2).1 _) hs (of_decide_eq_true k2).2 (hN _ _ _ _ hb)
        rw [if_pos (by simp [e1])]
        exact m1
      · obtain ⟨t, q, g1, g2, g3, g4, g5⟩ := g2 (by omega)
        rw [g1] at hb
        refine j_go hh (t := t.toNat) (st' := st') h1 h2 rfl rfl rfl g3 (hst q ?_) hL p2 (jTg_0 g4 _) hs g5 (hN _ _ _ _ hb)
        rw [Array.getElem?_toList] at g2
        by_cases e2 : hw < x
        · rw [if_pos (by simp [e2])]
          have e3 : offs[(x - lw).toNat]? = none := by
            rw [Array.length_toList] at k0
            apply Array.getElem?_eq_none
            omega
          rw [e3] at g2
          exact g2
        · rw [if_neg (by simp [e1, e2])]
          exact g2
    · cases hk
  | ireturn =>
    replace hk := Option.some.inj hk
    split at hk
    · next hrt =>
      replace hb := cm_e1_eq hb
      obtain ⟨x, rfl, hb⟩ := hb
      cases hb
      obtain ⟨p1, p2⟩ := List.forall_mem_cons.mp hS
      exact ⟨jEv_iret h1 h2 hrt rfl, hs, fun z hz => by cases hz; exact p1⟩
    · cases hk
  | lreturn =>
    replace hk := Option.some.inj hk
    split at hk
    · next hrt =>
      replace hb := cm_e1_eq hb
      obtain ⟨x, rfl, hb⟩ := hb
      replace hb := cm_if_eq hb
      obtain ⟨hx, hb⟩ := hb
      cases hb
      obtain ⟨p1, p2⟩ := List.forall_mem_cons.mp hS
      exact ⟨jEv_iret h1 h2 hrt (cm_nar_b hx), hs, fun z hz => by cases hz; exact p1⟩
    · cases hk
  | return_ =>
    replace hk := Option.some.inj hk
    split at hk
    · next hrt =>
      replace hb := cm_e0_eq hb
      obtain ⟨rfl, hb⟩ := hb
      cases hb
      exact ⟨jEv_ret h1 h2 hrt, hs, fun z hz => by cases hz⟩
    · cases hk
  | _ => cases hk
theorem cm_pop_eq {rb : Bool} : ∀ {n : Nat} {st as st' : List cm_V}, cm_pop rb n st = some (as, st') → n ≤ st.length ∧ ((rb = false ∧ as = (st.take n).reverse ∧ st' = st.drop n) ∨ (rb = true ∧ ∃ a, st.drop n = .inr (.inl a) :: st' ∧ as = .inr (.inl a) :: (st.take n).reverse))
  | 0, st, as, st', h => by
    refine ⟨Nat.zero_le _, ?_⟩
    unfold cm_pop at h
    split at h
    · cases h
      exact Or.inl ⟨rfl, rfl, rfl⟩
    · cases h
      exact Or.inr ⟨rfl, _, rfl, rfl⟩
    · cases h
  | n + 1, [], as, st', h => by cases h
  | n + 1, v :: st, as, st', h => by
    have h : (match cm_pop rb n st with
      | some (as, st) => some (as ++ [v], st)
      | none => none) = some (as, st') := h
    split at h
    · next as1 st1 e =>
      cases h
      obtain ⟨g0, g⟩ := cm_pop_eq e
      refine ⟨by simp; omega, ?_⟩
      rcases g with ⟨g1, g2, g3⟩ | ⟨g1, a, g2, g3⟩
      · refine Or.inl ⟨g1, ?_, ?_⟩
        · rw [List.take_succ_cons, List.reverse_cons, g2]
        · rw [List.drop_succ_cons, g3]
      · refine Or.inr ⟨g1, a, ?_, ?_⟩
        · rw [List.drop_succ_cons, g2]
        · rw [List.take_succ_cons, List.reverse_cons, g3]
          rfl
    · cases h
theorem cm_po_eq {α : Type} {rb : Bool} {n : Nat} {st : List cm_V} {f : List cm_V → List cm_V → Option α} {z : α} (h : cm_po rb n st f = some z) : ∃ as st', cm_pop rb n st = some (as, st') ∧ f as st' = some z := by
  unfold cm_po at h
  split at h
  · next q e => exact ⟨q.1, q.2, e, h⟩
  · cases h
theorem cm_rcv_eq {as : List cm_V} {f : Nat → Option cm_R} {z : cm_R} (h : cm_rcv as f = some z) : ∃ a r, as = .inr (.inl a) :: r ∧ f a = some z := by
  unfold cm_rcv at h
  split at h
  · exact ⟨_, _, rfl, h⟩
  · cases h
theorem j_pop {rb : Bool} {n : Nat} {st as st' : List cm_V} (h : cm_pop rb n st = some (as, st')) : am_pop rb n (st.map cm_v) = some (as.map cm_v, st'.map cm_v) ∧ (∀ v ∈ as, v ∈ st) ∧ ∀ v ∈ st', v ∈ st := by
  obtain ⟨h0, h⟩ := cm_pop_eq h
  unfold am_pop
  rw [if_pos (by simpa using h0)]
  rcases h with ⟨rfl, rfl, rfl⟩ | ⟨rfl, a, h1, rfl⟩
  · refine ⟨?_, fun v hv => List.mem_of_mem_take (List.mem_reverse.mp hv), fun v hv => List.mem_of_mem_drop hv⟩
    simp [List.map_take, List.map_drop, List.map_reverse]
  · have hd : ∀ v ∈ st.drop n, v ∈ st := fun v hv => List.mem_of_mem_drop hv
    rw [h1] at hd
    refine ⟨?_, fun v hv => ?_, fun v hv => hd v (List.mem_cons_of_mem _ hv)⟩
    · rw [← List.map_drop, h1]
      simp [cm_v, List.map_take, List.map_reverse]
    · rcases List.mem_cons.mp hv with rfl | hv
      · exact hd _ List.mem_cons_self
      · exact List.mem_of_mem_take (List.mem_reverse.mp hv)
theorem j_top {n : Nat} {v : cm_V} {st as st' : List cm_V} (h : cm_pop true n (v :: st) = some (as, st')) (hn : 1 ≤ n) : as[n]? = some v := by
  obtain ⟨h0, h⟩ := cm_pop_eq h
  rcases h with ⟨z, -, -⟩ | ⟨-, a, h1, rfl⟩
  · cases z
  · obtain ⟨k, rfl⟩ : ∃ k, n = k + 1 := ⟨n - 1, by omega⟩
    rw [List.getElem?_cons_succ, List.take_succ_cons, List.reverse_cons, List.getElem?_append_right (by simp at h0 ⊢; omega)]
    have : (st.take k).reverse.length = k := by simp at h0 ⊢; omega
    rw [this, Nat.sub_self]
    rfl
/-- the arguments of a call of y' -/
def jA (lo hi y' : Nat) (as : List cm_V) : Prop := y' < 301 ∧ (∀ v ∈ as, cm_ok true lo hi v) ∧ ∀ k, jtxl y' = some k → ∃ a, as[k]? = some (.inr (.inl a)) ∧ jtx y' a = true
def jRH (E lo hi : Nat) (h0 : List va_E) (run : cm_RN) : Prop := ∀ y' as s r, run y' as s = some r → jA lo hi y' as → cm_cs lo hi s → jRun E y' (as.map cm_v) (cm_mix lo hi s h0) (jR lo hi h0 r) ∧ jRk lo hi r
theorem cm_ok_t {v : cm_V} {nl : Bool} (h : cm_ok nl lo hi v) (hc : cm_ct v = 1) : cm_ok true lo hi v := by
  rcases v with z | a | z
  · exact h
  · exact h
  · cases hc
theorem jtx_cal {y' a k : Nat} (h : jtx y a = true) (h44 : y ≠ 44) (hk : jtxl y' = some k) : jtx y' a = true := by
  unfold jtx at h ⊢
  rw [if_neg h44] at h
  have : y' ≠ 44 := by
    intro e
    subst e
    cases hk
  rw [if_neg this]
  exact h
theorem j_args {ix n y' : Nat} {st as st' : List cm_V} (h : jarg y code ix y' n = true) (hp : cm_pop true n st = some (as, st')) (hr : ∃ a r, as = .inr (.inl a) :: r) (hS : ∀ v ∈ st, cm_ok (jnl code) lo hi v) (hT : jTg y code ix st) : jA lo hi y' as := by
  replace h := j_and h
  obtain ⟨h1, h⟩ := h
  obtain ⟨h2, h3⟩ := j_and h
  obtain ⟨-, hm, -⟩ := j_pop hp
  refine ⟨of_decide_eq_true h1, fun v hv => ?_, fun k hk => ?_⟩
  · rw [Bool.or_eq_true] at h2
    rcases h2 with z | z
    · have := hS v (hm v hv)
      rw [z] at this
      exact this
    · obtain ⟨z1, z2⟩ := j_and z
      replace z2 := of_decide_eq_true z2
      subst z2
      obtain ⟨x, r, rfl⟩ := hT.2.2 (of_decide_eq_true z1)
      obtain ⟨-, g⟩ := cm_pop_eq hp
      rcases g with ⟨q, -⟩ | ⟨-, a, g1, rfl⟩
      · cases q
      · have hv : v = .inr (.inl a) ∨ v = .inl x := by simpa using hv
        rcases hv with rfl | rfl
        · exact cm_ok_t (hS _ (hm _ (by simp))) rfl
        · exact cm_ok_t (hS _ (hm _ (by simp))) rfl
  · rw [hk] at h3
    obtain ⟨h3, h4⟩ := j_and h3
    obtain ⟨h4, h5⟩ := j_and h4
    obtain ⟨h4, h6⟩ := of_decide_eq_true h4
    obtain ⟨a, r, rfl, ha⟩ := hT.1 (of_decide_eq_true h3)
    subst h4
    exact ⟨a, j_top hp h6, jtx_cal ha (of_decide_eq_true h5) hk⟩
theorem jcal_eq {q : Option (Nat × Nat × Nat × Nat)} {kd z : Nat} (h : jcal q kd z = true) : ∃ c, q = some (kd, z / 1000, z / 100 % 10, c) ∧ (kd = 1 ∨ c = z % 100 ∧ z % 100 < 10) := by
  unfold jcal at h
  split at h
  · next q =>
    obtain ⟨h1, h2⟩ := j_and h
    obtain ⟨k1, k2, k3⟩ := of_decide_eq_true h1
    obtain ⟨q1, q2, q3, q4⟩ := q
    cases k1; cases k2; cases k3
    rw [Bool.or_eq_true] at h2
    exact ⟨q4, rfl, h2.imp of_decide_eq_true of_decide_eq_true⟩
  · cases h
theorem jtc_eq {q : Option (Nat × Nat × Nat × Nat)} {op n : Nat} (h : jtc q op n = true) : ∃ c, q = some (4, 400 + op, n, c) := by
  unfold jtc at h
  split at h
  · next q =>
    obtain ⟨k1, k2, k3⟩ := of_decide_eq_true h
    obtain ⟨q1, q2, q3, q4⟩ := q
    cases k1; cases k2; cases k3
    exact ⟨q4, rfl⟩
  · cases h
theorem jtx_44 {a : Nat} (h : jtx y a = true) (h44 : y = 44) : a = 1039 := by
  unfold jtx at h
  rw [if_pos h44] at h
  exact of_decide_eq_true h
theorem jtx_n44 {a : Nat} (h : jtx y a = true) (h44 : ¬ y = 44) : 1000 ≤ a ∧ a < 1039 := by
  unfold jtx at h
  rw [if_neg h44] at h
  exact of_decide_eq_true h
set_option maxRecDepth 20000 in
theorem cm_kT_t : cm_kT.all (fun l => decide (l.length < 4000) && l.all fun z => decide (-2147483648 ≤ z ∧ z < 2147483648)) = true := by decide +kernel
theorem cm_ka_in (a : Nat) (j : Int) : cm_in (cm_ka a j) :=
  cm_getD_all (p := cm_in) (cm_getD_l (fun l hl z hz => show _ ∧ _ from of_decide_eq_true (List.all_eq_true.mp (j_and (List.all_eq_true.mp cm_kT_t l hl)).2 z hz)) _) ⟨by omega, by omega⟩ _
theorem cm_kn_in (a : Nat) : 0 ≤ cm_kn a ∧ cm_kn a < 4000 := by
  unfold cm_kn
  rw [List.getD_eq_getElem?_getD]
  cases e : cm_kT[a - 1000]? with
  | none => exact ⟨by omega, by show ((0 : Nat) : Int) < 4000; omega⟩
  | some l =>
    have := of_decide_eq_true (j_and (List.all_eq_true.mp cm_kT_t l (List.mem_of_getElem? e))).1
    constructor
    · omega
    · show ((l.length : Nat) : Int) < 4000
      omega
set_option maxHeartbeats 2000000 in
/-- what reads a text, or the row of signs -/
theorem j_text (hE : 5 ≤ E) {run : cm_RN} {X : cm_X} {m ix pc : Nat} {ci i : Instr} {lv : cm_L} {L : am_L} {st : List cm_V} {s : cm_S} {r : cm_R} (hc : code[ix]? = some ci) (h1 : am_thr y pc = none) (h2 : am_fc y pc = some i) (hk : jci y (am_co y) code D ix i ci = true) (hd : jdn D ix (ix + 1) ci = true) (hn : P[ix + 1]? = some (pc + am_len i)) (hI : jI y lo hi code D ix lv L st s) (hN : ∀ lv st s, cm_blk run X code m (code.drop (ix + 1)) lv st s = some r → jN E y lo hi h0 code P D (ix + 1) lv st s r) (hnc : ci = .saload ∨ ci = .arraylength ∨ ci = .i2s) (hb : cm_blk run X code (m + 1) (ci :: code.drop (ix + 1)) lv st s = some r) : jC E y lo hi h0 pc L st s r := by
  obtain ⟨hL, hS, hT, hs, hD⟩ := hI
  have h4 : ∀ {st' : List cm_V} {v : cm_V}, jd4 D ix = true → st'.length + 1 ≤ st.length → cm_cts st' ≤ 8 := by
    intro st' v h4 hl
    unfold jd4 at h4
    rw [hD] at h4
    have := of_decide_eq_true h4
    have h2 : ∀ l : List cm_V, cm_cts l ≤ 2 * l.length := by
      intro l
      induction l with
      | nil => exact Nat.le_refl _
      | cons v l ih =>
        have e : cm_cts (v :: l) = cm_ct v + cm_cts l := rfl
        have e2 : cm_ct v ≤ 2 := by rcases v with z | a | z <;> exact Nat.le_of_ble_eq_true rfl
        rw [List.length_cons]
        omega
    have := h2 st'
    omega
  have hcall : ∀ {op n : Nat} {st' : List cm_V} {as : List Value} {z : Int}, jtc (jcv (am_co y) i) op n = true → am_pop true n (st.map cm_v) = some (as, st'.map cm_v) → cm_cts st' ≤ 8 → am_tx op as = some (.int (Int32.ofInt z)) → cm_in z → (∀ v ∈ st', cm_ok (jnl code) lo hi v) → jTg y code (ix + 1) (.inl z :: st') → D[ix + 1]? = some (st'.length + 1) → cm_blk run X code m (code.drop (ix + 1)) lv (.inl z :: st') s = some r → jC E y lo hi h0 pc L st s r := by
    intro op n st' as z hj hp h8 hx hz hS' hT' hd' hb
    obtain ⟨c, hq⟩ := jtc_eq hj
    obtain ⟨j, rfl, hcal⟩ := jcv_eq hq
    obtain ⟨ke, kr⟩ := hN _ _ _ hb L _ hn ⟨hL, List.forall_mem_cons.mpr ⟨hz, hS'⟩, hT', hs, hd'⟩
    refine ⟨?_, kr⟩
    generalize jR lo hi h0 r = rr at ke ⊢
    obtain ⟨o, h2', nc, ns⟩ := rr
    exact jEv_call (w := (as, st'.map cm_v)) (v := some (.int (Int32.ofInt z))) h1 h2 rfl rfl hcal hp (by rw [cm_v_cts]; simpa using h8) (jRun_tx hE hx) (Nat.le_refl _) ke
  rcases hnc with rfl | rfl | rfl
  · obtain ⟨k1, k2⟩ := j_and hk
    obtain ⟨x, a, st', rfl, ha⟩ := hT.2.1 (of_decide_eq_true k1)
    obtain ⟨p1, p2⟩ := List.forall_mem_cons.mp hS
    obtain ⟨p2, p3⟩ := List.forall_mem_cons.mp p2
    have hd' := jdn_eq hd hD
    replace hb := cm_if_eq (c := 0 ≤ x ∧ x < cm_kn a) hb
    obtain ⟨hx, hb⟩ := hb
    have hkn := cm_kn_in a
    by_cases h44 : y = 44
    · rw [if_pos h44] at k2
      unfold jia at k2
      split at k2
      · have ha := jtx_44 ha h44
        subst ha
        refine jS (lv' := lv) (L' := L) (st' := .inl (cm_ka 1039 x) :: st') (s' := s) h1 h2 rfl rfl rfl hn ?_ ⟨hL, List.forall_mem_cons.mpr ⟨cm_ka_in _ _, p3⟩, jTg_o hc rfl rfl _, hs, hd'⟩ (hN _ _ _ hb)
        show (if am_ok (Int32.ofInt x) 48 = true then some (pc + 1, L, .int (Int32.ofInt (cm_ka 1039 (((Int32.ofInt x).toNatClampNeg : Nat) : Int))) :: st'.map cm_v, cm_mix lo hi s h0) else none) = _
        have e48 : cm_kn 1039 = 48 := by decide +kernel
        rw [if_pos (cm_okix hx.1 (by omega) (by omega)), cm_clamp hx.1 (by omega), show ((x.toNat : Nat) : Int) = x by omega]
        rfl
      · cases k2
    · rw [if_neg h44] at k2
      obtain ⟨k2, k3⟩ := j_and k2
      refine hcall (st' := st') (as := [.ref a, .int (Int32.ofInt x)]) (z := cm_ka a x) k2 rfl (h4 (v := .inl 0) k3 (by simp)) ?_ (cm_ka_in _ _) p3 (jTg_o hc rfl rfl _) hd' hb
      show (if 1000 ≤ a ∧ a < 1039 then (if ((1 == 1) && am_ok (Int32.ofInt x) (cm_kn a).toNat) = true then some (Value.int (Int32.ofInt (cm_ka a (((Int32.ofInt x).toNatClampNeg : Nat) : Int)))) else none) else none) = _
      rw [if_pos (jtx_n44 ha h44), if_pos (by rw [cm_okix hx.1 (by omega) (by omega)]; rfl), cm_clamp hx.1 (by omega), show ((x.toNat : Nat) : Int) = x by omega]
  · obtain ⟨k1, k2⟩ := j_and hk
    obtain ⟨a, st', rfl, ha⟩ := hT.1 (of_decide_eq_true k1)
    obtain ⟨p1, p2⟩ := List.forall_mem_cons.mp hS
    have hd' := jdn_eq hd hD
    have hb : cm_blk run X code m (code.drop (ix + 1)) lv (.inl (cm_kn a) :: st') s = some r := hb
    have hkn := cm_kn_in a
    by_cases h44 : y = 44
    · rw [if_pos h44] at k2
      unfold jan at k2
      split at k2
      · have ha := jtx_44 ha h44
        subst ha
        refine jS (lv' := lv) (L' := L) (st' := .inl (cm_kn 1039) :: st') (s' := s) h1 h2 rfl rfl rfl hn ?_ ⟨hL, List.forall_mem_cons.mpr ⟨⟨by omega, by omega⟩, p2⟩, jTg_o hc rfl rfl _, hs, hd'⟩ (hN _ _ _ hb)
        show some (pc + 1, L, Value.int (Int32.ofNat 48) :: st'.map cm_v, cm_mix lo hi s h0) = _
        have e48 : cm_kn 1039 = 48 := by decide +kernel
        rw [e48]
        rfl
      · cases k2
    · rw [if_neg h44] at k2
      obtain ⟨k2, k3⟩ := j_and k2
      refine hcall (st' := st') (as := [.ref a]) (z := cm_kn a) k2 rfl (h4 (v := .inl 0) k3 (by simp)) ?_ ⟨by omega, by omega⟩ p2 (jTg_o hc rfl rfl _) hd' hb
      show (if 1000 ≤ a ∧ a < 1039 then _ else none) = _
      rw [if_pos (jtx_n44 ha h44)]
      rfl
  · obtain ⟨k1, k2⟩ := j_and hk
    obtain ⟨h44, k2⟩ := j_and k2
    obtain ⟨k2, k3⟩ := j_and k2
    obtain ⟨a, st', rfl, ha⟩ := hT.1 (of_decide_eq_true k1)
    obtain ⟨p1, p2⟩ := List.forall_mem_cons.mp hS
    have hd' := jdn_eq hd hD
    have hb : cm_blk run X code m (code.drop (ix + 1)) lv (.inl (if cm_kn a = 0 then 1 else 0) :: st') s = some r := hb
    refine hcall (st' := st') (as := [.ref a]) (z := if cm_kn a = 0 then 1 else 0) k2 rfl (h4 (v := .inl 0) k3 (by simp)) ?_ (by split <;> exact ⟨by omega, by omega⟩) p2 (jTg_o hc rfl rfl _) hd' hb
    show (if 1000 ≤ a ∧ a < 1039 then _ else none) = _
    rw [if_pos (jtx_n44 ha (of_decide_eq_true h44))]
    rfl
theorem j_rcv {a : Nat} {r : List cm_V} {s : cm_S} {c : Nat} (hh : hi ≤ h0.length) (hhi : hi ≤ 72) (hp : cm_pl lo hi a) (hc : cm_cl a = c) (h9 : c ≠ 99) : am_rcv ((.inr (.inl a) :: r : List cm_V).map cm_v) (cm_mix lo hi s h0) c = true := by
  subst hc
  have h72 := cm_cl_72 h9
  have hr : lo ≤ a ∧ a < hi := by
    rcases hp with z | z
    · exact z
    · omega
  show (match (cm_mix lo hi s h0)[a]? with
    | some (.inr o) => o.1 == cm_cl a
    | _ => false) = true
  rw [cm_mix_at hr.1 hr.2 hh, cm_cell_o h9]
  simp
set_option maxHeartbeats 2000000 in
/-- a call -/
theorem j_call (hh : hi ≤ h0.length) (hhi : hi ≤ 72) {run : cm_RN} {X : cm_X} (hrun : jRH E lo hi h0 run) {m ix pc : Nat} {ci i : Instr} {lv : cm_L} {L : am_L} {st : List cm_V} {s : cm_S} {r : cm_R} (hc : code[ix]? = some ci) (h1 : am_thr y pc = none) (h2 : am_fc y pc = some i) (hk : jci y (am_co y) code D ix i ci = true) (hd : jdn D ix (ix + 1) ci = true) (hn : P[ix + 1]? = some (pc + am_len i)) (hI : jI y lo hi code D ix lv L st s) (hN : ∀ lv st s, cm_blk run X code m (code.drop (ix + 1)) lv st s = some r → jN E y lo hi h0 code P D (ix + 1) lv st s r) (z : Nat) (hnc : ci = .invokevirtual z ∨ ci = .invokespecial z ∨ ci = .invokestatic z) (hb : cm_blk run X code (m + 1) (ci :: code.drop (ix + 1)) lv st s = some r) : jC E y lo hi h0 pc L st s r := by
  obtain ⟨hL, hS, hT, hs, hD⟩ := hI
  have hd := jdn_eq hd hD
  have main : ∀ {kd c : Nat} {as st' : List cm_V} {vir : Bool}, am_isoi (am_co y) i = false → am_plain i = true → am_len i = 3 → am_cal2 (am_co y) i = some (kd, z / 1000, z / 100 % 10, c) → kd < 2 → am_vir kd = vir → cm_pop vir (z / 100 % 10) st = some (as, st') → (kd = 0 → am_rcv (as.map cm_v) (cm_mix lo hi s h0) c = true) → cm_cts st' ≤ 8 → jA lo hi (z / 1000) as → (∀ r', run (z / 1000) as s = some r' → (∃ e, r'.1 = .inr e ∧ r = r') ∨ (∃ v st1, r'.1 = .inl v ∧ st1.map cm_v = (v.map cm_v).toList ++ st'.map cm_v ∧ (∀ v ∈ st1, cm_ok (jnl code) lo hi v) ∧ D[ix + 1]? = some st1.length ∧ cm_blk run X code m (code.drop (ix + 1)) lv st1 r'.2 = some r)) → (∃ r', run (z / 1000) as s = some r') → jC E y lo hi h0 pc L st s r := by
    intro kd c as st' vir e1 e2 e3 hcal hkd hv hp hrc h8 hA hcont ⟨r', hr'⟩
    obtain ⟨hj, hj2, hj3⟩ := hrun _ _ _ _ hr' hA hs
    obtain ⟨g1, g2, g3⟩ := j_pop hp
    have h7 : (decide (((st'.map cm_v).map fun v => v.category).sum ≤ 8) && ((kd != 0) || am_rcv (as.map cm_v) (cm_mix lo hi s h0) c)) = true := by
      rw [cm_v_cts]
      by_cases k0 : kd = 0
      · simp [h8, hrc k0]
      · simp [h8, k0]
    rcases hcont r' hr' with ⟨e, he, rfl⟩ | ⟨v, st1, hv1, hm1, ho1, hl1, hb1⟩
    · refine ⟨?_, hj2, hj3⟩
      unfold jR at hj ⊢
      rw [he] at hj ⊢
      exact jEv_callT (w := (as.map cm_v, st'.map cm_v)) h1 h2 e2 e1 hcal (by rw [hv]; exact g1) h7 hj hkd
    · rw [e3] at hn
      obtain ⟨ke, kr⟩ := hN _ _ _ hb1 L _ hn ⟨hL, ho1, jTg_o hc (by rcases hnc with rfl | rfl | rfl <;> rfl) (by rcases hnc with rfl | rfl | rfl <;> rfl) _, hj2, hl1⟩
      refine ⟨?_, kr⟩
      generalize jR lo hi h0 r = rr at ke ⊢
      obtain ⟨o, h2', nc, ns⟩ := rr
      unfold jR at hj
      rw [hv1] at hj
      rw [hm1] at ke
      exact jEv_call (w := (as.map cm_v, st'.map cm_v)) (v := v.map cm_v) h1 h2 e2 e1 hcal (by rw [hv]; exact g1) h7 hj (by rw [cm_mix_len, cm_mix_len]; exact Nat.le_refl _) ke
  have hlen : ∀ {vir : Bool} {as st' : List cm_V}, cm_pop vir (z / 100 % 10) st = some (as, st') → st.length = st'.length + (z / 100 % 10) + (if vir = true then 1 else 0) := by
    intro vir as st' hp
    obtain ⟨q0, q⟩ := cm_pop_eq hp
    rcases q with ⟨rfl, -, rfl⟩ | ⟨rfl, a, q1, -⟩
    · simp; omega
    · have := congrArg List.length q1
      simp at this ⊢
      omega
  rcases hnc with rfl | rfl | rfl
  · obtain ⟨k1, k2⟩ := j_and hk
    obtain ⟨c, hq, hcc⟩ := jcal_eq k1
    obtain ⟨j, rfl, hcal⟩ := jcv_eq hq
    have hb : cm_po true (z / 100 % 10) st (fun as st' => cm_rcv as fun a => if cm_cl a = z % 100 then (if cm_cts st' ≤ 8 then cm_bi (run (z / 1000) as s) fun z s' => cm_blk run X code m (code.drop (ix + 1)) lv (.inl z :: st') s' else none) else none) = some r := hb
    replace hb := cm_po_eq hb
    obtain ⟨as, st', hp, hb⟩ := hb
    replace hb := cm_rcv_eq hb
    obtain ⟨a, ar, rfl, hb⟩ := hb
    replace hb := cm_if_eq hb
    obtain ⟨hcl, hb⟩ := hb
    replace hb := cm_if_eq hb
    obtain ⟨h8, hb⟩ := hb
    have hcz : c = z % 100 ∧ z % 100 < 10 := by omega
    have hA := j_args k2 hp ⟨a, ar, rfl⟩ hS hT
    obtain ⟨g1, g2, g3⟩ := j_pop hp
    have hl := hlen hp
    have h99 : c ≠ 99 := by omega
    refine main rfl rfl rfl hcal (by omega) rfl hp (fun _ => j_rcv hh hhi (hS _ (g2 _ List.mem_cons_self)) (by omega) h99) h8 hA ?_ ?_
    · intro r' hr'
      rw [hr'] at hb
      obtain ⟨r1, r2⟩ := r'
      rcases r1 with v | e
      · rcases v with _ | v
        · cases hb
        · rcases v with w | w
          · right
            have hin := (hrun _ _ _ _ hr' hA hs).2.2 w rfl
            refine ⟨some (.inl w), .inl w :: st', rfl, rfl, List.forall_mem_cons.mpr ⟨hin, fun v hv => hS v (g3 v hv)⟩, ?_, hb⟩
            refine hd.trans ?_
            show some (st.length - (z / 100 % 10 + 1) + 1) = some (st'.length + 1)
            rw [if_pos rfl] at hl
            congr 1; omega
          · cases hb
      · left
        cases hb
        exact ⟨e, rfl, rfl⟩
    · cases hr : run (z / 1000) (.inr (.inl a) :: ar) s with
      | none => rw [hr] at hb; cases hb
      | some r' => exact ⟨r', rfl⟩
  · obtain ⟨k1, k2⟩ := j_and hk
    obtain ⟨c, hq, hcc⟩ := jcal_eq k1
    obtain ⟨j, rfl, hcal⟩ := jcv_eq hq
    have hb : cm_po true (z / 100 % 10) st (fun as st' => cm_rcv as fun a => if cm_cl a = z % 100 then (if cm_cts st' ≤ 8 then cm_bv (run (z / 1000) as s) fun s' => cm_blk run X code m (code.drop (ix + 1)) lv st' s' else none) else none) = some r := hb
    replace hb := cm_po_eq hb
    obtain ⟨as, st', hp, hb⟩ := hb
    replace hb := cm_rcv_eq hb
    obtain ⟨a, ar, rfl, hb⟩ := hb
    replace hb := cm_if_eq hb
    obtain ⟨hcl, hb⟩ := hb
    replace hb := cm_if_eq hb
    obtain ⟨h8, hb⟩ := hb
    have hcz : c = z % 100 ∧ z % 100 < 10 := by omega
    have hA := j_args k2 hp ⟨a, ar, rfl⟩ hS hT
    obtain ⟨g1, g2, g3⟩ := j_pop hp
    have hl := hlen hp
    have h99 : c ≠ 99 := by omega
    refine main rfl rfl rfl hcal (by omega) rfl hp (fun _ => j_rcv hh hhi (hS _ (g2 _ List.mem_cons_self)) (by omega) h99) h8 hA ?_ ?_
    · intro r' hr'
      rw [hr'] at hb
      obtain ⟨r1, r2⟩ := r'
      rcases r1 with v | e
      · rcases v with _ | v
        · right
          refine ⟨none, st', rfl, rfl, fun v hv => hS v (g3 v hv), ?_, hb⟩
          refine hd.trans ?_
          show some (st.length - (z / 100 % 10 + 1) + 0) = some (st'.length)
          rw [if_pos rfl] at hl
          congr 1; omega
        · cases hb
      · left
        cases hb
        exact ⟨e, rfl, rfl⟩
    · cases hr : run (z / 1000) (.inr (.inl a) :: ar) s with
      | none => rw [hr] at hb; cases hb
      | some r' => exact ⟨r', rfl⟩
  · obtain ⟨k1, k2⟩ := j_and hk
    obtain ⟨k2, k3⟩ := j_and k2
    replace k3 := of_decide_eq_true k3
    obtain ⟨c, hq, hcc⟩ := jcal_eq k1
    obtain ⟨j, rfl, hcal⟩ := jcs_eq hq
    have hb : cm_po false (z / 100 % 10) st (fun as st' => if cm_cts st' ≤ 8 then cm_bi (run (z / 1000) as s) fun z s' => cm_blk run X code m (code.drop (ix + 1)) lv (.inl z :: st') s' else none) = some r := hb
    replace hb := cm_po_eq hb
    obtain ⟨as, st', hp, hb⟩ := hb
    replace hb := cm_if_eq hb
    obtain ⟨h8, hb⟩ := hb
    obtain ⟨g1, g2, g3⟩ := j_pop hp
    have hl := hlen hp
    have hA : jA lo hi (z / 1000) as := by
      obtain ⟨m1, m2⟩ := j_and k2
      obtain ⟨m2, m3⟩ := j_and m2
      refine ⟨of_decide_eq_true m1, fun v hv => ?_, fun k hk => by rw [k3] at hk; cases hk⟩
      rw [Bool.or_eq_true] at m2
      rcases m2 with q | q
      · have := hS v (g2 v hv)
        rw [q] at this
        exact this
      · obtain ⟨q1, q2⟩ := j_and q
        obtain ⟨x, xr, rfl⟩ := hT.2.2 (of_decide_eq_true q1)
        obtain ⟨-, gg⟩ := cm_pop_eq hp
        rcases gg with ⟨-, gg, -⟩ | ⟨qq, -⟩
        · rw [of_decide_eq_true q2] at gg
          rw [gg] at hv
          have hv : v = .inl x := by simpa using hv
          subst hv
          exact cm_ok_t (hS _ List.mem_cons_self) rfl
        · cases qq
    refine main rfl rfl rfl hcal (by omega) rfl hp (fun q => by omega) h8 hA ?_ ?_
    · intro r' hr'
      rw [hr'] at hb
      obtain ⟨r1, r2⟩ := r'
      rcases r1 with v | e
      · rcases v with _ | v
        · cases hb
        · rcases v with w | w
          · right
            have hin := (hrun _ _ _ _ hr' hA hs).2.2 w rfl
            refine ⟨some (.inl w), .inl w :: st', rfl, rfl, List.forall_mem_cons.mpr ⟨hin, fun v hv => hS v (g3 v hv)⟩, ?_, hb⟩
            refine hd.trans ?_
            show some (st.length - (z / 100 % 10) + 1) = some (st'.length + 1)
            rw [if_neg (by decide)] at hl
            congr 1; omega
          · cases hb
      · left
        cases hb
        exact ⟨e, rfl, rfl⟩
    · cases hr : run (z / 1000) as s with
      | none => rw [hr] at hb; cases hb
      | some r' => exact ⟨r', rfl⟩
set_option maxHeartbeats 2000000 in
/-- UP TO A CUT -/
theorem j_blk (hE : 5 ≤ E) (hh : hi ≤ h0.length) (hhi : hi ≤ 72) (hpt : cm_ptck lo hi = true) {run : cm_RN} {X : cm_X} (hck : jckA y code P D = true) (hrun : jRH E lo hi h0 run) (hX : ∀ t lv st s r, X t lv st s = some r → jN E y lo hi h0 code P D t lv st s r) : ∀ (m ix : Nat) (lv : cm_L) (st : List cm_V) (s : cm_S) (r : cm_R), cm_blk run X code m (code.drop ix) lv st s = some r → jN E y lo hi h0 code P D ix lv st s r := by
  intro m
  induction m with
  | zero => intro ix lv st s r hb; cases hb
  | succ m ih =>
    intro ix lv st s r hb L pc hP hI
    cases hcd : code.drop ix with
    | nil => rw [hcd] at hb; cases hb
    | cons ci rest =>
      have hl : ix < code.length := by
        have := congrArg List.length hcd
        simp at this
        omega
      rw [List.drop_eq_getElem_cons hl] at hcd
      have hci : code[ix]? = some ci := by rw [List.getElem?_eq_getElem hl]; exact congrArg some (List.cons.inj hcd).1
      rw [List.drop_eq_getElem_cons hl, (List.cons.inj hcd).1] at hb
      have hk := jckA_at hck hci hP
      have hN := fun lv st s hb => ih (ix + 1) lv st s r hb
      have rest : jrs y code P D ix pc ci = true → jC E y lo hi h0 pc L st s r := by
        intro hk
        unfold jrs at hk
        obtain ⟨h1, hk⟩ := j_and hk
        replace h1 := of_decide_eq_true h1
        cases h2 : am_fc y pc with
        | none => rw [h2] at hk; cases hk
        | some i =>
          rw [h2] at hk
          have hk : jre y code P D ix pc i ci = true := hk
          unfold jre at hk
          cases hbr : jbr y code P D ix pc i ci with
          | some b =>
            rw [hbr] at hk
            have hk : b = true := hk
            subst hk
            exact j_branch hh hci h1 h2 hbr hI (fun t lv st s hb => ih t lv st s r hb) hb
          | none =>
            rw [hbr] at hk
            obtain ⟨k1, hk⟩ := j_and hk
            obtain ⟨k2, k3⟩ := j_and hk
            replace k3 := of_decide_eq_true k3
            by_cases hc : ∃ z, ci = .invokevirtual z ∨ ci = .invokespecial z ∨ ci = .invokestatic z
            · obtain ⟨z, hz⟩ := hc
              exact j_call hh hhi hrun hci h1 h2 k1 k2 k3 hI hN z hz hb
            · by_cases ht : ci = .saload ∨ ci = .arraylength ∨ ci = .i2s
              · exact j_text hE hci h1 h2 k1 k2 k3 hI hN ht hb
              · refine j_simple hh hhi hpt hci h1 h2 k1 k2 k3 hI hN ?_ hb
                split
                · exact absurd ⟨_, Or.inl rfl⟩ hc
                · exact absurd ⟨_, Or.inr (Or.inl rfl)⟩ hc
                · exact absurd ⟨_, Or.inr (Or.inr rfl)⟩ hc
                · exact absurd (Or.inl rfl) ht
                · exact absurd (Or.inr (Or.inl rfl)) ht
                · exact absurd (Or.inr (Or.inr rfl)) ht
                · rfl
      unfold jck at hk
      split at hk
      · cases hb
      · next t =>
        obtain ⟨k1, k2⟩ := j_and hk
        replace k1 := of_decide_eq_true k1
        obtain ⟨rfl, k1⟩ := k1
        have hb : X (ix + 1) lv st s = some r := hb
        obtain ⟨hL, hS, hT, hs, hD⟩ := hI
        exact hX _ _ _ _ _ hb L pc k1 ⟨hL, hS, jTg_o hci rfl rfl _, hs, jdn_eq k2 hD⟩
      · next e =>
        replace hk := of_decide_eq_true hk
        replace hb := cm_if_eq (c := cm_cts st ≤ 8) hb
        obtain ⟨h8, hb⟩ := hb
        cases hb
        obtain ⟨hL, hS, hT, hs, hD⟩ := hI
        exact ⟨jEv_thr hk (by rw [cm_v_cts]; exact h8), hs, fun z hz => by cases hz⟩
      · exact rest hk
end JOIN3
