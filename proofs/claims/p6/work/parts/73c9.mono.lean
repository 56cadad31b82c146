/-! ===== what the first machine does without texts, it does with them ===== -/
theorem am_exec_pl {fetch : Nat → Option Instr} {stp : Instr → Nat → am_L → List Value → List va_E → Option am_F} {cal : Instr → Option (Nat × Nat × Nat × Nat)} {oi : Nat → Bool} {nw : Nat → Option (Nat × List Value)} {run : Nat → List Value → List va_E → Option am_R} {thr : Nat → Option Nat} {ret : Option FieldType} {xc xs kk pc : Nat} {lv : am_L} {st : List Value} {h : List va_E} {i : Instr} (h1 : thr pc = none) (h2 : fetch pc = some i) (h3 : am_plain i = true) : am_exec fetch stp cal oi nw run thr ret xc xs (kk + 1) pc lv st h = (match am_iso oi i with
          | true => am_r1 st fun _ r => if decide ((r.map fun v => v.category).sum ≤ 8) = true then am_exec fetch stp cal oi nw run thr ret xc xs kk (pc + 3) lv r h else none
          | false => match cal i with
            | some q => (am_pop (am_vir q.1) q.2.2.1 st).bind fun w => if (decide ((w.2.map fun v => v.category).sum ≤ 8) && ((q.1 != 0) || am_rcv w.1 h q.2.2.2)) = true then (run q.2.1 w.1 h).bind fun r => match r.1 with
                | .inr e => if decide (q.1 < 2) = true then some (.inr e, r.2) else none
                | .inl v => if (decide (h.length ≤ r.2.1.length) && (r.2.2.1 == 0 || am_oldL h.length lv w.2)) = true then (am_exec fetch stp cal oi nw run thr ret xc xs kk (pc + 3) lv (v.toList ++ w.2) r.2.1).bind fun r2 => some (r2.1, r2.2.1, r.2.2.1 + r2.2.2.1, r.2.2.2 + r2.2.2.2) else none
                else none
            | none => (stp i pc lv st h).bind fun q => am_exec fetch stp cal oi nw run thr ret xc xs kk q.1 q.2.1 q.2.2.1 q.2.2.2) := by
  rw [am_exec_s, h1]
  simp only [h2]
  split
  · cases h3
  · cases h3
  · cases h3
  · cases h3
  · rfl
theorem am_plain_n {i : Instr} (h : ¬ am_plain i = true) : i = .return_ ∨ i = .ireturn ∨ (∃ k, i = .new k) ∨ ∃ t, i = .newarray t := by
  unfold am_plain at h
  split at h
  · exact Or.inl rfl
  · exact Or.inr (Or.inl rfl)
  · exact Or.inr (Or.inr (Or.inl ⟨_, rfl⟩))
  · exact Or.inr (Or.inr (Or.inr ⟨_, rfl⟩))
  · exact absurd rfl h
set_option maxHeartbeats 1000000 in
theorem am_exec_mono {fetch : Nat → Option Instr} {stp stp' : Instr → Nat → am_L → List Value → List va_E → Option am_F} {cal cal' : Instr → Option (Nat × Nat × Nat × Nat)} {oi : Nat → Bool} {nw : Nat → Option (Nat × List Value)} {run run' : Nat → List Value → List va_E → Option am_R} {thr : Nat → Option Nat} {ret : Option FieldType} {xc xs : Nat}
    (hc : ∀ i q, cal i = some q → cal' i = some q) (hs : ∀ i pc lv st h q, h.length ≤ 1000 → cal i = none → stp i pc lv st h = some q → cal' i = none ∧ stp' i pc lv st h = some q ∧ q.2.2.2.length ≤ 1000) (hr : ∀ y as h r, h.length ≤ 1000 → run y as h = some r → run' y as h = some r ∧ r.2.1.length ≤ 1000) :
    ∀ (kk kk' pc : Nat) (lv : am_L) (st : List Value) (h : List va_E) (r : am_R), kk ≤ kk' → h.length ≤ 1000 → am_exec fetch stp cal oi nw run thr ret xc xs kk pc lv st h = some r → am_exec fetch stp' cal' oi nw run' thr ret xc xs kk' pc lv st h = some r ∧ r.2.1.length ≤ 1000 := by
  intro kk
  induction kk with
  | zero => intro kk' pc lv st h r _ _ hex; cases hex
  | succ kk ih =>
    intro kk' pc lv st h r hk hl hex
    obtain ⟨kk', rfl⟩ : ∃ k, kk' = k + 1 := ⟨kk' - 1, by omega⟩
    cases ht : thr pc with
    | some e =>
      rw [am_exec_s, ht] at hex ⊢
      obtain ⟨h1, h2⟩ := am_if hex
      cases h2
      exact ⟨if_pos h1, hl⟩
    | none =>
      cases hf : fetch pc with
      | none => rw [am_exec_s, ht] at hex; simp only [hf] at hex; cases hex
      | some i =>
        by_cases hp : am_plain i = true
        · rw [am_exec_pl ht hf hp] at hex ⊢
          cases ho : am_iso oi i with
          | true =>
            rw [ho] at hex
            obtain ⟨a, r0, rfl, h1⟩ := am_r1_eq hex
            obtain ⟨h2, h3⟩ := am_if h1
            obtain ⟨g1, g2⟩ := ih kk' _ _ _ _ _ (by omega) hl h3
            refine ⟨?_, g2⟩
            show (if _ then _ else _) = _
            rw [if_pos h2]
            exact g1
          | false =>
            rw [ho] at hex
            cases hq : cal i with
            | some q =>
              rw [hq] at hex
              simp only at hex ⊢
              rw [hc i q hq]
              obtain ⟨w, hw, h1⟩ := Option.bind_eq_some_iff.mp hex
              obtain ⟨h2, h3⟩ := am_if h1
              obtain ⟨rr, hrr, h4⟩ := Option.bind_eq_some_iff.mp h3
              obtain ⟨m1, m2⟩ := hr _ _ _ _ hl hrr
              simp only [hw, Option.bind_some]
              rw [if_pos h2, m1]
              simp only [Option.bind_some]
              obtain ⟨r1, r2, r3, r4⟩ := rr
              cases r1 with
              | inr e =>
                simp only at h4 ⊢
                obtain ⟨h5, h6⟩ := am_if h4
                cases h6
                exact ⟨if_pos h5, m2⟩
              | inl v =>
                simp only at h4 ⊢
                obtain ⟨h5, h6⟩ := am_if h4
                obtain ⟨z, hz, h7⟩ := Option.bind_eq_some_iff.mp h6
                obtain ⟨g1, g2⟩ := ih kk' _ _ _ _ _ (by omega) m2 hz
                cases h7
                rw [if_pos h5, g1]
                exact ⟨rfl, g2⟩
            | none =>
              rw [hq] at hex
              simp only at hex ⊢
              obtain ⟨q, hq1, h1⟩ := Option.bind_eq_some_iff.mp hex
              obtain ⟨s1, s2, s3⟩ := hs _ _ _ _ _ _ hl hq hq1
              rw [s1, s2]
              exact ih kk' _ _ _ _ _ (by omega) s3 h1
        · rcases am_plain_n hp with rfl | rfl | ⟨k, rfl⟩ | ⟨t, rfl⟩
          · rw [am_exec_s, ht] at hex ⊢
            simp only [hf] at hex ⊢
            obtain ⟨h1, h2⟩ := am_if hex
            cases h2
            exact ⟨if_pos h1, hl⟩
          · rw [am_exec_s, ht] at hex ⊢
            simp only [hf] at hex ⊢
            refine ⟨hex, ?_⟩
            split at hex
            · split at hex
              · obtain ⟨h1, h2⟩ := am_if hex
                cases h2
                exact hl
              · cases hex
            · cases hex
          · rw [am_exec_s, ht] at hex ⊢
            simp only [hf] at hex ⊢
            obtain ⟨q, hq, h2⟩ := Option.bind_eq_some_iff.mp hex
            obtain ⟨h3, h4⟩ := am_if h2
            obtain ⟨z, hz, h5⟩ := Option.bind_eq_some_iff.mp h4
            have h6 := h3
            simp only [Bool.and_eq_true, decide_eq_true_eq] at h6
            obtain ⟨g1, g2⟩ := ih kk' _ _ _ _ _ (by omega) (by simp; omega) hz
            cases h5
            rw [hq]
            simp only [Option.bind_some]
            rw [if_pos h3, g1]
            exact ⟨rfl, g2⟩
          · rw [am_exec_s, ht] at hex ⊢
            simp only [hf] at hex ⊢
            obtain ⟨x, r0, rfl, h1⟩ := am_i1_eq hex
            obtain ⟨t0, ht0, h2⟩ := Option.bind_eq_some_iff.mp h1
            obtain ⟨h3, h4⟩ := am_if h2
            obtain ⟨z, hz, h5⟩ := Option.bind_eq_some_iff.mp h4
            have h6 := h3
            simp only [Bool.and_eq_true, decide_eq_true_eq] at h6
            obtain ⟨g1, g2⟩ := ih kk' _ _ _ _ _ (by omega) (by simp; omega) hz
            cases h5
            show ((am_nk t).bind _) = _ ∧ _
            rw [ht0]
            simp only [Option.bind_some]
            rw [if_pos h3, g1]
            exact ⟨rfl, g2⟩
theorem am_cal2_of {c : Nat} {i : Instr} {q : Nat × Nat × Nat × Nat} (h : am_cal c i = some q) : am_cal2 c i = some q := by
  unfold am_cal2
  rw [h]
theorem am_cal2_no {c : Nat} {i : Instr} (h : am_cal c i = none) (hi : ∀ k, i ≠ .invokevirtual k) : am_cal2 c i = none := by
  unfold am_cal2
  rw [h]
  first
    | done
    | (dsimp only
       split
       · next k => exact absurd rfl (hi k)
       · rfl)
theorem am_ro2_lt {a : Nat} (h : a < 1000) : am_ro2 a = none := if_neg (by omega)
/-- a step that reads no static is the same with the row of signs -/
theorem am_step_gs {fl : Nat → Option (Nat × Nat × FieldType × Bool)} {kc : Nat → Option Value} {kl : Nat → Option Int64} {gs : Nat → Option Value} {ini : Bool} {nL : Nat} {i : Instr} {pc : Nat} {lv : am_L} {st : List Value} {h : List va_E} {q : am_F} (hl : h.length ≤ 1000) (hq : am_step fl kc kl (fun _ => none) (fun _ => none) ini nL i pc lv st h = some q) : am_step fl kc kl gs am_ro2 ini nL i pc lv st h = some q ∧ ∀ k, i ≠ .invokevirtual k := by
  cases i with
  | getstatic k => cases hq
  | invokevirtual k => cases hq
  | iaload =>
    obtain ⟨a, j, r, rfl, h1⟩ := am_ri_eq hq
    refine ⟨?_, fun k => by intro z; cases z⟩
    obtain ⟨t, n, g, h2, h3⟩ := am_row_eq h1
    have ha := (List.getElem?_eq_some_iff.mp h2).1
    have e : am_ro2 a = none := am_ro2_lt (Nat.lt_of_lt_of_le ha hl)
    show (match am_ro2 a with
      | some q => _
      | none => am_row h a _) = _
    rw [e]
    exact h1
  | arraylength =>
    obtain ⟨a, r, rfl, h1⟩ := am_r1_eq hq
    refine ⟨?_, fun k => by intro z; cases z⟩
    have ha : a < 1000 := by
      rcases Nat.lt_or_ge a 1000 with z | z
      · exact z
      · have e : h[a]? = none := List.getElem?_eq_none (Nat.le_trans hl z)
        simp only [e] at h1
        cases h1
    have e : am_ro2 a = none := am_ro2_lt ha
    show (match am_ro2 a with
      | some q => _
      | none => _) = _
    rw [e]
    exact h1
  | _ => exact ⟨hq, fun k => by intro z; cases z⟩
theorem am_run_mono {fuel F : Nat} (hF : fuel ≤ F) : ∀ (d d' y : Nat) (as : List Value) (h : List va_E) (r : am_R), d ≤ d' → h.length ≤ 1000 → am_all am_thr fuel d y as h = some r → am_run2 F d' y as h = some r ∧ r.2.1.length ≤ 1000 := by
  intro d
  induction d with
  | zero => intro d' y as h r _ _ hr; cases hr
  | succ d ih =>
    intro d' y as h r hd hl hr
    obtain ⟨d', rfl⟩ : ∃ k, d' = k + 1 := ⟨d' - 1, by omega⟩
    obtain ⟨hw, hex⟩ := am_if hr
    have hy : y < 400 := by
      have hok : am_okm y := by
        cases fuel with
        | zero => cases hex
        | succ f =>
          cases ht : am_thr y 0 with
          | some e => exact am_thr_ok ht
          | none =>
            cases hf : am_fc y 0 with
            | none => rw [am_exec_s, ht] at hex; simp only [hf] at hex; cases hex
            | some i => exact am_fc_lt hf
      have hm := am_melen
      unfold am_okm at hok
      omega
    rw [am_run2, if_neg (by omega), if_pos hw]
    exact am_exec_mono (fun i q h => am_cal2_of h) (fun i pc lv st h q hl hc hs => by
      obtain ⟨g1, g2⟩ := am_step_gs (gs := am_gs2 (am_co y)) hl hs
      exact ⟨am_cal2_no hc g2, g1, by rw [am_step_len hs]; exact hl⟩) (fun y as h r hl hr => ih d' y as h r (by omega) hl hr) fuel F 0 _ _ h r hF hl hex
