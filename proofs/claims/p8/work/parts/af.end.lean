/-! ===== the end of a statement ===== -/
section TX71
variable {tx : Int → Int} {n : Int}
theorem cSt_s {s : cm_S} {e : Int} {g : Bool} {t : tTk} {cn sc : Int} {W : List (Int × Int)} (h : cSt tx n s e g t cn sc W) (z : Int) : cSt tx n (cm_p s 1407 z) e g t cn z W := ⟨cAt_fr h.1 rfl (cm_p_ne (by decide)) fun j j1 j2 => cm_p_ne (by omega), (cm_p_ne (by decide)).trans h.2.1, by simp [cm_p], (cm_p_ne (by decide)).trans h.2.2.2.1, cWaA_fr (s := s) _ (fun a i _ _ _ => rfl) h.2.2.2.2⟩
theorem cs_109 (k : Int) (s : cm_S) : (semi k → cm_sem 109 [.inl k] s = some (.inl (some (.inl 1)), s)) ∧ (¬ semi k → cm_sem 109 [.inl k] s = some (.inl (some (.inl 0)), s)) := by
  rw [cS_109, cF_109_0]
  constructor
  · intro h
    rcases h with rfl | rfl | rfl | rfl | rfl | rfl | rfl <;> rfl
  · intro h
    rw [if_neg (fun z => h (by unfold semi; omega)), if_neg (fun z => h (by unfold semi; omega)), if_neg (fun z => h (by unfold semi; omega)), if_neg (fun z => h (by unfold semi; omega)), if_neg (fun z => h (by unfold semi; omega)), if_neg (fun z => h (by unfold semi; omega)), if_neg (fun z => h (by unfold semi; omega))]
theorem cs_108 {s : cm_S} {lo hi v : Int} {T : tT} (h : cTr s lo hi v T) (h0 : 0 ≤ lo) (h1 : hi ≤ s.1 410) (h2 : hi ≤ 512) : cm_sem 108 [.inr (.inl 4), .inl v] s = some (.inl (some (.inl T.1.1)), s) := by
  have i := cTr_in h
  rw [cS_108, cF_108_0, cs_59, cm_bi_i, if_neg (by rw [cm_b0]; exact fun z => z ⟨by omega, by omega, by omega⟩), if_pos ⟨by omega, by omega⟩, cTr_kind h]
/-- its ;, written or not -/
theorem st_end (ht : tOk tx n) {s : cm_S} {b cn rn d v : Int} {V : List tT} {K : List rTs} {S : List rSg} {W : List (Int × Int)} {c : rC} (hd : 0 ≤ d ∧ d < 20) (hK : (K.length : Int) ≤ 20 * d + 20) (hcb : 0 ≤ cn ∧ cn ≤ b + 1) (q : PoU tx n b cn rn d V K S W v s c) : OX tx n s cn (cm_bi (cm_sem 108 [.inr (.inl 4), .inl v] s) fun z3 s3 => cm_bi (cm_sem 109 [.inl z3] s3) fun z4 s4 => if z4 = 0 then some (.inl (some (.inl v)), s4) else cm_bv (cm_sem 110 [.inr (.inl 14)] s4) fun s5 => some (.inl (some (.inl v)), s5)) c (fun r s' c' => ∃ v, r = some (.inl v) ∧ PoS tx n b cn rn d V K S W isS v s' c') := by
  rcases q with ⟨e, t, sc, lf, T, st, rfl, tr, nx, hbe, sz, g, ⟨x1, x2⟩, w⟩ | ⟨e, t, sc, lf, T, rx, Vx, Kx, st, rfl, tr, nx, hbe, sz, g, x1, x2, w, go, dm, r1, r2⟩
  · have e0 := st.e0
    have num := lxG_r4 ht e0.1 e0.2 st.lx
    have dl0 := dl_01 t
    rw [cs_108 tr hcb.1 (by rw [st.cn]; omega) (by omega), cm_bi_i, (cs_109 T.1.1 s).2 x2, cm_bi_i, if_pos rfl]
    exact OX_to (t_lv (by omega) hd.1 (by omega)) (OX_reti ⟨v, rfl, e, t, sc, lf, T, st, rfl, tr, nx, hbe, sz, g, x1, w⟩)
  · have e0 := st.e0
    have num := lxG_r4 ht e0.1 e0.2 st.lx
    have s59 := tok_s ht e0.1 e0.2 st.lx (c := 59) (by decide) (by decide)
    have s125 := tok_s ht e0.1 e0.2 st.lx (c := 125) (by decide) (by decide)
    have sk := tok_k ht e0.1 e0.2 st.lx
    rw [cs_108 tr hcb.1 (by rw [st.cn]; omega) (by omega), cm_bi_i, (cs_109 T.1.1 s).1 x2, cm_bi_i, if_neg (by decide), cS_110, cF_110_0, st.cd]
    have put : (t.2.2.2.2 = true ∨ rNo t = 125 ∨ rNo t = 0) → rNo t ≠ 59 → OX tx n s cn (cm_bv (some (.inl none, cm_p s 1407 (cm_w (s.1 1407 + 1)))) fun s5 => some (.inl (some (.inl v)), s5)) (e, d + 1, rx, sc, lf, Vx, (6, 0, 0, 0, 0) :: Kx, S) (fun r s' c' => ∃ v, r = some (.inl v) ∧ PoS tx n b cn rn d V K S W isS v s' c') := fun hl h59 => by
      have hsc : s.1 1407 = sc := st.2.2.1
      obtain ⟨lf2, h2⟩ := go e (cm_w (sc + 1))
      rw [cm_bv_o, hsc]
      refine OX_from (s1 := cm_p s 1407 (cm_w (sc + 1))) ⟨fun _ _ => rfl, fun j hj => cm_p_ne (by omega)⟩ (cKp_row rfl _) ?_
      refine OX_to (t_6p ht st.lx h59 hl (by omega)) (OX_to h2 (OX_reti ⟨v, rfl, e, t, cm_w (sc + 1), lf2, T, cSt_s st _, rfl, cTr_row tr rfl, nx, hbe, ?_, g, x1, ?_⟩))
      · rcases hl with hl | hl
        · have := lxG_line ht e0.1 e0.2 st.lx hl
          have := dl_01 t
          omega
        · have : dl t = 1 := by unfold dl; rw [if_pos hl]
          omega
      · rcases hl with hl | hl
        · have := lxG_line ht e0.1 e0.2 st.lx hl
          have := dl_01 t
          omega
        · have : dl t = 1 := by unfold dl; rw [if_pos hl]
          omega
    by_cases h59 : t.2.1 = 59
    · obtain ⟨g59, lt⟩ := s59.1 h59
      clear s59 s125 sk put
      have assoc : ∀ (x : Option cm_R) (f : cm_S → Option cm_R), cm_bv (cm_bv x fun s1 => some (.inl none, s1)) f = cm_bv x f := fun x f => by
        match x with
        | none => rfl
        | some (.inl none, _) => rfl
        | some (.inl (some _), _) => rfl
        | some (.inr _, _) => rfl
      rw [if_pos h59, assoc]
      refine OX_to (t_6t ht st.lx g59 (by omega)) ?_
      refine X_next ht st (fun hN' => dm _ _ _ _ _ _ (by omega) (by omega) hN' rfl r1 (by omega)) fun t1 s1 hT1 e1 b1 st1 => ?_
      have e01 := st1.e0
      have num1 := lxG_r4 ht e01.1 e01.2 st1.lx
      have dl1 := dl_01 t1
      obtain ⟨lf2, h2⟩ := go t.2.2.2.1 sc
      exact OX_to h2 (OX_reti ⟨v, rfl, t.2.2.2.1, t1, sc, lf2, T, st1, rfl, cTr_row tr e1, by rw [e1]; exact nx, by omega, by omega, g, x1, by omega⟩)
    · have g59 := s59.2 h59
      rw [if_neg h59, st.ln]
      by_cases hl : t.2.2.2.2 = true
      · rw [hl, if_neg (by decide)]
        exact put (Or.inl hl) g59
      · have hl : t.2.2.2.2 = false := by simpa using hl
        rw [hl, if_pos (by decide)]
        by_cases h125 : t.2.1 = 125
        · rw [if_pos h125]
          exact put (Or.inr (Or.inl (s125.1 h125).1)) g59
        · rw [if_neg h125, st.kd]
          by_cases h0 : t.1 = 0
          · rw [if_pos h0]
            exact put (Or.inr (Or.inr (sk.2.2.1 h0))) g59
          · rw [if_neg h0]
            refine OX_bv (lo1 := cn) (Q1 := fun _ _ => False) ?_ (Int.le_refl _) fun _ _ _ _ q => q.elim
            exact X_refuse (b_6 ht st.lx g59 hl (s125.2 h125) (sk.2.2.2.1 h0).1 (by omega))
end TX71
