/-! ===== a step that has told a fault ends all the same ===== -/
section TX34
variable {tx : Int → Int} {n : Int}
def rZ (tx : Int → Int) (n : Int) (w : Int) (j : Nat) (s : cm_S) : Prop := gB s ∧ rTx tx n s ∧ 0 ≤ s.1 4112 ∧ 0 ≤ s.1 4128 ∧ s.1 4128 ≤ 880 + j ∧ 0 ≤ s.1 4118 ∧ s.1 4118 ≤ 486 + j ∧ w ≤ s.1 4134 ∧ 0 ≤ s.1 4134 ∧ s.1 4134 ≤ 486 + j ∧ ∀ i : Int, 0 ≤ i → i < s.1 4134 → 0 ≤ s.2 61 i ∧ s.2 61 i < 500
theorem rZ_of {d rn pu : Int} {lf : Bool} {V : List tT} {K : List rTs} {S : List rSg} {s : cm_S} (q : rQ (d, rn, pu, lf, V, K, S) s) (g : gB s) (hx : rTx tx n s) (h0 : 0 ≤ s.1 4112) (hK : (K.length : Int) ≤ 880) (hn : rn ≤ 486) : rZ tx n V.length 0 s := by
  obtain ⟨h1, h2, h3, h4, h5, h6, h7, h8, h9, h10⟩ := q
  simp only at h1 h2 h3 h4 h5 h6 h7 h8 h9 h10
  have hb := rVaA_b _ _ h8
  have ids := rVaA_ids _ _ h8
  refine ⟨g, hx, h0, by omega, by omega, by omega, by omega, by omega, by omega, by omega, fun i i0 i1 => ?_⟩
  have := ids.1 i i0 (by omega)
  omega
theorem Z_ret {w : Int} {j : Nat} {s : cm_S} (z : rZ tx n w j s) : RO s (some (.inl none, s)) gB := RO_ret z.1
theorem rZ_fr {w : Int} {j j' : Nat} {s s' : cm_S} (z : rZ tx n w j s) (h1 : s'.1 4108 = s.1 4108) (h2 : s'.1 4107 = s.1 4107) (h3 : s'.2 46 = s.2 46) (h4 : s'.1 4112 = s.1 4112) (h5 : 0 ≤ s'.1 4128 ∧ s'.1 4128 ≤ 880 + j') (h6 : s'.1 4118 = s.1 4118) (h7 : s'.1 4134 = s.1 4134) (h8 : s'.2 61 = s.2 61) (hj : j ≤ j') : rZ tx n w j' s' := by
  obtain ⟨z1, ⟨z2, z2'⟩, z3, z4, z5, z6, z7, z8, z9, z10, z11⟩ := z
  refine ⟨by unfold gB at z1 ⊢; omega, ⟨h2.trans z2, fun i i0 i1 => by rw [h3]; exact z2' i i0 i1⟩, by omega, h5.1, h5.2, by omega, by omega, by omega, by omega, by omega, fun i i0 i1 => by rw [h8]; exact z11 i i0 (by omega)⟩
theorem Z_pu {w : Int} {j : Nat} {s : cm_S} (z : rZ tx n w j s) (hj : j ≤ 12) {a b c x y : Int} {f : cm_S → Option cm_R} {G : cm_S → Prop} (h : ∀ s', rZ tx n w (j + 1) s' → RO s' (f s') G) : RO s (cm_bv (cm_sem 176 [.inr (.inl 41), .inl a, .inl b, .inl c, .inl x, .inl y] s) f) G := by
  have zz := z
  obtain ⟨z1, z2, z3, z4, z5, z6, z7, z8, z9, z10, z11⟩ := zz
  exact RO_bind ⟨_, cs_176 (by omega) a b c x y, rPu_fm _ _, rZ_fr z (rPu_fld (by decide)) (rPu_fld (by decide)) (rPu_row (by omega)) (rPu_fld (by decide)) (by rw [rPu_hi]; omega) (rPu_fld (by decide)) (rPu_fld (by decide)) (rPu_row (by omega)) (by omega)⟩ h
theorem Z_la {w : Int} {j : Nat} {s : cm_S} (z : rZ tx n w j s) (hj : j ≤ 12) {a b : Int} {f : cm_S → Option cm_R} {G : cm_S → Prop} (h : ∀ s', rZ tx n w (j + 1) s' → RO s' (f s') G) : RO s (cm_bv (cm_sem 177 [.inr (.inl 41), .inl a, .inl b] s) f) G := by
  have zz := z
  obtain ⟨z1, z2, z3, z4, z5, z6, z7, z8, z9, z10, z11⟩ := zz
  exact RO_bind ⟨_, cs_177 (by omega) a b, rPu_fm _ _, rZ_fr z (rPu_fld (by decide)) (rPu_fld (by decide)) (rPu_row (by omega)) (rPu_fld (by decide)) (by rw [rPu_hi]; omega) (rPu_fld (by decide)) (rPu_fld (by decide)) (rPu_row (by omega)) (by omega)⟩ h
theorem Z_tk {w : Int} {j : Nat} {s : cm_S} (z : rZ tx n w j s) {f : cm_S → Option cm_R} {G : cm_S → Prop} (h : ∀ s', rZ tx n w j s' → RO s' (f s') G) : RO s (cm_bv (cm_sem 198 [.inr (.inl 41)] s) f) G := by
  have zz := z
  obtain ⟨z1, z2, z3, z4, z5, z6, z7, z8, z9, z10, z11⟩ := zz
  refine RO_bind ⟨_, cs_198, rFm_p (rFm_p (rFm_rf s) (by omega)) (by omega), rZ_fr z ?_ ?_ rfl ?_ ⟨?_, ?_⟩ ?_ ?_ rfl (Nat.le_refl _)⟩ h
  all_goals (rw [cm_p_ne (by decide), cm_p_ne (by decide)]; try omega)
theorem Z_bd {w : Int} {j : Nat} {s : cm_S} (z : rZ tx n w j s) {f : cm_S → Option cm_R} {G : cm_S → Prop} (h : ∀ s', rZ tx n w j s' → RO s' (f s') G) : RO s (cm_bv (cm_sem 205 [.inr (.inl 41)] s) f) G := by
  refine RO_bind ⟨s, ?_, rFm_rf s, z⟩ h
  have := z.1
  unfold gB at this
  rw [cS_205, cF_205_0, cS_185, cF_185_0, if_neg (by omega), cm_bv_o]
theorem Z_look (ht : tOk tx n) {w : Int} {j : Nat} {s : cm_S} (z : rZ tx n w j s) (x : Int) : cm_sem 180 [.inr (.inl 41), .inl x] s = some (.inl none, s) := by
  have z1 : 0 < s.1 4108 := z.1
  have e14 : cm_lp cm_sem cm_k180 14 [some (.inr (.inl 41)), some (.inl x), none, none] [] s = some (.inl none, s) := by
    rw [cE_180_14, cF_180_14, if_pos z1]
  rw [cS_180, cF_180_0, cs_181 ht z.2.1 z.2.2.1, cm_bi_i, e14]
  repeat' split
  all_goals rfl
theorem Z_l (ht : tOk tx n) {w : Int} {j : Nat} {s : cm_S} (z : rZ tx n w j s) {x : Int} {f : cm_S → Option cm_R} {G : cm_S → Prop} (h : ∀ s', rZ tx n w j s' → RO s' (f s') G) : RO s (cm_bv (cm_sem 180 [.inr (.inl 41), .inl x] s) f) G := RO_bind ⟨s, Z_look ht z x, rFm_rf s, z⟩ h
theorem Z_en (ht : tOk tx n) {w : Int} {j : Nat} {s : cm_S} (z : rZ tx n w j s) : ROI s (cm_sem 200 [.inr (.inl 41)] s) fun y s' => y = 0 ∧ gB s' := by
  have z1 : 0 < s.1 4108 := z.1
  rw [cS_200, cF_200_0, Z_look ht z, cm_bv_o, if_neg (by omega), if_neg (by omega)]
  refine ⟨0, _, rfl, rFm_p (rFm_rf s) (by omega), rfl, ?_⟩
  unfold gB
  rw [cm_p_ne (by decide)]
  exact z1
theorem rl_202z {vals mark nn k : Int} (h0 : 0 ≤ mark) (h9 : vals ≤ 499) (hk : mark < 500) (o2 o3 : Option cm_V) : ∀ (m : Nat) (i : Int) (s : cm_S), vals - i = m → mark ≤ i → i ≤ vals → s.1 4134 = vals → (∀ j : Int, 0 ≤ j → j < vals → 0 ≤ s.2 61 j ∧ s.2 61 j < 500) → ∃ s', cm_lp cm_sem cm_k202 59 [some (.inr (.inl 41)), some (.inl k), o2, o3, some (.inl mark), some (.inl nn), some (.inl i)] [] s = some (.inl none, s') ∧ rFm s s' ∧ (∀ j : Nat, j ≠ 4134 → j ≠ 4141 → s'.1 j = s.1 j) ∧ s'.1 4134 = mark + 1 ∧ s'.2 61 mark = nn ∧ ∀ x : Int, x ≠ mark → s'.2 61 x = s.2 61 x := by
  intro m
  induction m with
  | zero =>
    intro i s hm h1 h2 hv hb
    rw [cE_202_59, cF_202_59, hv, if_neg (by omega), if_pos ⟨h0, hk⟩]
    have key : ∀ z : Int, rFm s (cm_p (cm_p (cm_q (cm_p s 4134 mark) 61 mark nn) 4134 (cm_w (mark + 1))) 4141 z) ∧ (∀ j : Nat, j ≠ 4134 → j ≠ 4141 → (cm_p (cm_p (cm_q (cm_p s 4134 mark) 61 mark nn) 4134 (cm_w (mark + 1))) 4141 z).1 j = s.1 j) ∧ (cm_p (cm_p (cm_q (cm_p s 4134 mark) 61 mark nn) 4134 (cm_w (mark + 1))) 4141 z).1 4134 = mark + 1 ∧ (cm_p (cm_p (cm_q (cm_p s 4134 mark) 61 mark nn) 4134 (cm_w (mark + 1))) 4141 z).2 61 mark = nn ∧ ∀ x : Int, x ≠ mark → (cm_p (cm_p (cm_q (cm_p s 4134 mark) 61 mark nn) 4134 (cm_w (mark + 1))) 4141 z).2 61 x = s.2 61 x := by
      intro z
      refine ⟨rFm_p (rFm_p (rFm_q (rFm_p (rFm_rf s) (by omega)) (by omega)) (by omega)) (by omega), fun j j1 j2 => ?_, ?_, ?_, fun x hx => ?_⟩
      · rw [cm_p_ne j2, cm_p_ne j1, cm_q_fld, cm_p_ne j1]
      · rw [cm_p_ne (by decide), cm_p_at, cm_w_id (by omega) (by omega)]
      · rw [cm_p_row, cm_p_row, cm_q_at, if_pos rfl]
      · rw [cm_p_row, cm_p_row, cm_q_at, if_neg hx, cm_p_row]
    repeat' split
    all_goals exact ⟨_, rfl, key _⟩
  | succ m ih =>
    intro i s hm h1 h2 hv hb
    have hlt : i < vals := by omega
    have hbi := hb i (by omega) hlt
    have go : ∀ w : Int, ∃ s', cm_lp cm_sem cm_k202 59 [some (.inr (.inl 41)), some (.inl k), o2, o3, some (.inl mark), some (.inl nn), some (.inl (i + 1))] [] (cm_q (cm_q s 52 (s.2 61 i) nn) 51 (s.2 61 i) w) = some (.inl none, s') ∧ rFm s s' ∧ (∀ j : Nat, j ≠ 4134 → j ≠ 4141 → s'.1 j = s.1 j) ∧ s'.1 4134 = mark + 1 ∧ s'.2 61 mark = nn ∧ ∀ x : Int, x ≠ mark → s'.2 61 x = s.2 61 x := by
      intro w
      have e61 : ∀ x, (cm_q (cm_q s 52 (s.2 61 i) nn) 51 (s.2 61 i) w).2 61 x = s.2 61 x := fun x => by rw [cm_q_ne (by decide), cm_q_ne (by decide)]
      obtain ⟨s', q1, q2, q3, q4, q5, q6⟩ := ih (i + 1) (cm_q (cm_q s 52 (s.2 61 i) nn) 51 (s.2 61 i) w) (by omega) (by omega) (by omega) hv (fun j j1 j2 => by rw [e61]; exact hb j j1 j2)
      exact ⟨s', q1, (rFm_q (rFm_q (rFm_rf s) (by omega)) (by omega)).tr q2, q3, q4, q5, fun x hx => by rw [q6 x hx, e61]⟩
    rw [cE_202_59, cF_202_59, hv, if_pos hlt, if_pos (by omega), if_pos hbi, if_pos (by omega), cm_w_id (by omega) (by omega)]
    by_cases hn : i + 1 < vals
    · rw [if_pos hn, if_pos (by omega), if_pos hbi]
      exact go _
    · rw [if_neg hn, if_pos hbi]
      exact go _
theorem Z_reC {w : Int} {j : Nat} {s : cm_S} (z : rZ tx n w j s) (hj : j ≤ 11) {k p l m : Int} (h0 : 0 ≤ m) (hw : m ≤ w) : RO s (cm_sem 202 [.inr (.inl 41), .inl k, .inl p, .inl l, .inl m] s) fun s' => rZ tx n (m + 1) (j + 1) s' ∧ ∀ i : Nat, i ≠ 4118 → i ≠ 4134 → i ≠ 4141 → s'.1 i = s.1 i := by
  have zz := z
  obtain ⟨z1, z2, z3, z4, z5, z6, z7, z8, z9, z10, z11⟩ := zz
  have hN : (0 : Int) ≤ s.1 4118 ∧ s.1 4118 < 500 := by omega
  have main : ∀ fi v : Int, RO s (cm_lp cm_sem cm_k202 59 [some (.inr (.inl 41)), some (.inl k), some (.inl p), some (.inl l), some (.inl m), some (.inl (s.1 4118)), some (.inl m)] [] (cm_q (cm_q (cm_q (cm_q (cm_q (cm_q (cm_q (cm_p s 4118 (cm_w (s.1 4118 + 1))) 47 (s.1 4118) k) 48 (s.1 4118) p) 49 (s.1 4118) l) 50 (s.1 4118) fi) 51 (s.1 4118) (-1)) 53 (s.1 4118) v) 54 (s.1 4118) 0)) (fun s' => rZ tx n (m + 1) (j + 1) s' ∧ ∀ i : Nat, i ≠ 4118 → i ≠ 4134 → i ≠ 4141 → s'.1 i = s.1 i) := by
    intro fi v
    rw [cm_w_id (by omega) (by omega)]
    generalize hs1 : (cm_q (cm_q (cm_q (cm_q (cm_q (cm_q (cm_q (cm_p s 4118 (s.1 4118 + 1)) 47 (s.1 4118) k) 48 (s.1 4118) p) 49 (s.1 4118) l) 50 (s.1 4118) fi) 51 (s.1 4118) (-1)) 53 (s.1 4118) v) 54 (s.1 4118) 0) = s1
    have f1 : ∀ i : Nat, i ≠ 4118 → s1.1 i = s.1 i := fun i hi => by rw [← hs1]; simp only [cm_q_fld]; exact cm_p_ne hi
    have f4118 : s1.1 4118 = s.1 4118 + 1 := by rw [← hs1]; simp only [cm_q_fld]; exact cm_p_at
    have g2 : ∀ (a : Nat), ¬ (47 ≤ a ∧ a ≤ 54) → s1.2 a = s.2 a := fun a ha => by rw [← hs1, cm_q_ne (by omega), cm_q_ne (by omega), cm_q_ne (by omega), cm_q_ne (by omega), cm_q_ne (by omega), cm_q_ne (by omega), cm_q_ne (by omega)]; rfl
    have gfm : rFm s s1 := by
      rw [← hs1]
      exact rFm_q (rFm_q (rFm_q (rFm_q (rFm_q (rFm_q (rFm_q (rFm_p (rFm_rf s) (by omega)) (by omega)) (by omega)) (by omega)) (by omega)) (by omega)) (by omega)) (by omega)
    clear hs1
    obtain ⟨s', q1, q2, q3, q4, q5, q6⟩ := rl_202z (vals := s.1 4134) (mark := m) (nn := s.1 4118) (k := k) h0 (by omega) (by omega) (some (.inl p)) (some (.inl l)) (s.1 4134 - m).toNat m s1 (by omega) (Int.le_refl _) (by omega) (f1 4134 (by decide)) (fun i i0 i1 => by rw [g2 61 (by omega)]; exact z11 i i0 i1)
    refine ⟨s', q1, gfm.tr q2, ⟨?_, ⟨?_, fun i i0 i1 => ?_⟩, ?_, ?_, ?_, ?_, ?_, by omega, by omega, by omega, fun i i0 i1 => ?_⟩, fun i i1 i2 i3 => by rw [q3 i i2 i3, f1 i i1]⟩
    · unfold gB at z1 ⊢
      rw [q3 _ (by decide) (by decide), f1 _ (by decide)]; exact z1
    · rw [q3 _ (by decide) (by decide), f1 _ (by decide)]; exact z2.1
    · rw [q2.1 46 (by omega), g2 46 (by omega)]; exact z2.2 i i0 i1
    · rw [q3 _ (by decide) (by decide), f1 _ (by decide)]; exact z3
    · rw [q3 _ (by decide) (by decide), f1 _ (by decide)]; exact z4
    · rw [q3 _ (by decide) (by decide), f1 _ (by decide)]; omega
    · rw [q3 _ (by decide) (by decide), f4118]; omega
    · rw [q3 _ (by decide) (by decide), f4118]; omega
    · by_cases hi : i = m
      · rw [hi, q5]; exact hN
      · rw [q6 i hi, g2 61 (by omega)]; exact z11 i i0 (by omega)
  rw [cS_202, cF_202_0, if_pos hN, if_pos hN, if_pos hN]
  by_cases hV : m < s.1 4134
  · rw [if_pos hV, if_pos (by omega), if_pos hN, if_pos hN, if_pos hN, if_pos hN]
    exact main _ _
  · rw [if_neg hV, if_pos hN, if_pos hN, if_pos hN, if_pos hN]
    exact main _ _
theorem Z_re {w : Int} {j : Nat} {s : cm_S} (z : rZ tx n w j s) (hj : j ≤ 11) {k p l m : Int} (h0 : 0 ≤ m) (hw : m ≤ w) {f : cm_S → Option cm_R} {G : cm_S → Prop} (h : ∀ s', rZ tx n (m + 1) (j + 1) s' → RO s' (f s') G) : RO s (cm_bv (cm_sem 202 [.inr (.inl 41), .inl k, .inl p, .inl l, .inl m] s) f) G := RO_bind (Z_reC z hj h0 hw) fun s' g => h s' g.1
theorem rZ_lo {w w' : Int} {j : Nat} {s : cm_S} (z : rZ tx n w j s) (h : w' ≤ w) : rZ tx n w' j s := by
  obtain ⟨z1, z2, z3, z4, z5, z6, z7, z8, z9, z10, z11⟩ := z
  exact ⟨z1, z2, z3, z4, z5, z6, z7, by omega, z9, z10, z11⟩
theorem rZ_at {w : Int} {j : Nat} {s : cm_S} (z : rZ tx n w j s) : rZ tx n (s.1 4134) j s := by
  obtain ⟨z1, z2, z3, z4, z5, z6, z7, z8, z9, z10, z11⟩ := z
  exact ⟨z1, z2, z3, z4, z5, z6, z7, Int.le_refl _, z9, z10, z11⟩
theorem Z_no {w : Int} {j : Nat} {s : cm_S} (z : rZ tx n w j s) (hj : j ≤ 11) {f : cm_S → Option cm_R} {G : cm_S → Prop} (h : ∀ s', rZ tx n w (j + 1) s' → RO s' (f s') G) : RO s (cm_bv (cm_sem 214 [.inr (.inl 41)] s) f) G := by
  have hw := z.2.2.2.2.2.2.2.1
  have h0 := z.2.2.2.2.2.2.2.2.1
  refine RO_bind ?_ h
  rw [cS_214, cF_214_0]
  exact Z_re (rZ_at z) hj h0 (Int.le_refl _) fun s' z' => RO_ret (rZ_lo z' (by omega))
theorem Z_lf {w : Int} {j : Nat} {s : cm_S} (z : rZ tx n w j s) (hj : j ≤ 11) {a b : Int} {f : cm_S → Option cm_R} {G : cm_S → Prop} (h : ∀ s', rZ tx n w (j + 1) s' → RO s' (f s') G) : RO s (cm_bv (cm_sem 201 [.inr (.inl 41), .inl a, .inl b] s) f) G := by
  have hw := z.2.2.2.2.2.2.2.1
  have h0 := z.2.2.2.2.2.2.2.2.1
  refine RO_bind ?_ h
  rw [cS_201, cF_201_0]
  exact Z_re (rZ_at z) hj h0 (Int.le_refl _) fun s' z' => Z_tk (rZ_lo z' (show w ≤ _ by omega)) fun s2 z2 => RO_ret z2
theorem Z_209 {w : Int} {j : Nat} {s : cm_S} (z : rZ tx n w j s) (hj : j ≤ 9) {f : cm_S → Option cm_R} {G : cm_S → Prop} (h : ∀ s', rZ tx n w (j + 3) s' → RO s' (f s') G) : RO s (cm_bv (cm_sem 209 [.inr (.inl 41)] s) f) G := by
  refine RO_bind ?_ h
  rw [cS_209, cF_209_0]
  exact Z_la z (by omega) fun _ z1 => Z_la z1 (by omega) fun _ z2 => Z_la z2 (by omega) fun _ z3 => RO_ret z3
theorem Z_215 {w : Int} {j : Nat} {s : cm_S} (z : rZ tx n w j s) (hj : j ≤ 5) {a b : Int} {f : cm_S → Option cm_R} {G : cm_S → Prop} (h : ∀ s', rZ tx n w (j + 7) s' → RO s' (f s') G) : RO s (cm_bv (cm_sem 215 [.inr (.inl 41), .inl a, .inl b] s) f) G := by
  refine RO_bind ?_ h
  rw [cS_215, cF_215_0]
  exact Z_pu z (by omega) fun _ z1 => Z_la z1 (by omega) fun _ z2 => Z_la z2 (by omega) fun _ z3 => Z_la z3 (by omega) fun _ z4 => Z_la z4 (by omega) fun _ z5 => Z_la z5 (by omega) fun _ z6 => Z_la z6 (by omega) fun _ z7 => RO_ret z7
theorem Z_218 {w : Int} {j : Nat} {s : cm_S} (z : rZ tx n w j s) (hj : j ≤ 8) {a b : Int} {f : cm_S → Option cm_R} {G : cm_S → Prop} (h : ∀ s', rZ tx n w (j + 4) s' → RO s' (f s') G) : RO s (cm_bv (cm_sem 218 [.inr (.inl 41), .inl a, .inl b] s) f) G := by
  refine RO_bind ?_ h
  rw [cS_218, cF_218_0]
  exact Z_tk z fun _ z0 => Z_pu z0 (by omega) fun _ z1 => Z_la z1 (by omega) fun _ z2 => Z_la z2 (by omega) fun _ z3 => Z_la z3 (by omega) fun _ z4 => RO_ret z4
theorem rZ_p {w : Int} {j : Nat} {s : cm_S} (z : rZ tx n w j s) {k : Nat} (hk : k = 4110 ∨ k = 4141) {y : Int} : rZ tx n w j (cm_p s k y) := by
  have zz := z
  obtain ⟨z1, z2, z3, z4, z5, z6, z7, z8, z9, z10, z11⟩ := zz
  refine rZ_fr z ?_ ?_ rfl ?_ ⟨?_, ?_⟩ ?_ ?_ rfl (Nat.le_refl _)
  all_goals (rw [cm_p_ne (by omega)]; try omega)
theorem Z_at {w : Int} {j : Nat} {s : cm_S} (z : rZ tx n w j s) {k : Nat} (hk : k = 4110 ∨ k = 4141) {y : Int} : RO s (some (.inl none, cm_p s k y)) gB := RO_at (rFm_p (rFm_rf s) (by omega)) (rZ_p z hk).1
end TX34
