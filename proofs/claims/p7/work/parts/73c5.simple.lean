/-! ===== more of numbers and tables ===== -/
theorem jft_0 {q1 q2 : Nat} {ty : FieldType} {b : Bool} (h : jft (some (q1, q2, ty, b)) 0 = true) : ty = .int ∧ b = false := by
  unfold jft at h
  split at h
  · next e => cases e; exact ⟨rfl, rfl⟩
  · cases h
  · cases h
  · cases h
theorem jft_1 {q1 q2 : Nat} {ty : FieldType} {b : Bool} (h : jft (some (q1, q2, ty, b)) 1 = true) : ty = .boolean ∧ b = false := by
  unfold jft at h
  split at h
  · cases h
  · next e => cases e; exact ⟨rfl, rfl⟩
  · cases h
  · cases h
theorem jft_2 {q1 q2 : Nat} {ty : FieldType} {b : Bool} (h : jft (some (q1, q2, ty, b)) 2 = true) : ∃ n, ty = .object n ∧ b = false := by
  unfold jft at h
  split at h
  · cases h
  · cases h
  · next e => cases e; exact ⟨_, rfl, rfl⟩
  · cases h
theorem cm_nar_c {z : Int} (h : 0 ≤ z ∧ z < 65536) : vp_nar .char (Int32.ofInt z) = Int32.ofInt z := by
  show ((Int32.ofInt z).toUInt32.toUInt16.toUInt32.toInt32) = _
  have e : (Int32.ofInt z).toUInt32.toUInt16.toUInt32 = (Int32.ofInt z).toUInt32 % 65536 := by
    rw [← UInt32.toNat_inj]
    simp
  rw [e]
  exact cm_i2c_id h
theorem cm_nar_y {z : Int} (h : -128 ≤ z ∧ z < 128) : vp_nar .byte (Int32.ofInt z) = Int32.ofInt z := cm_i2b_id h
set_option maxRecDepth 20000 in
theorem cm_kr_t : cm_krT.all (fun l => l.all fun z => decide (-9223372036854775808 ≤ z ∧ z < 9223372036854775808)) = true ∧ (cm_krT.drop 1).all (fun l => l.all fun z => decide (-2147483648 ≤ z ∧ z < 2147483648)) = true := by decide +kernel
theorem cm_getD_all {l : List Int} {p : Int → Prop} (h : ∀ z ∈ l, p z) (h0 : p 0) (n : Nat) : p (l.getD n 0) := by
  rw [List.getD_eq_getElem?_getD]
  cases e : l[n]? with
  | none => exact h0
  | some z => exact h z (List.mem_of_getElem? e)
theorem cm_getD_l {T : List (List Int)} {p : Int → Prop} (h : ∀ l ∈ T, ∀ z ∈ l, p z) (n : Nat) : ∀ z ∈ T.getD n [], p z := by
  rw [List.getD_eq_getElem?_getD]
  cases e : T[n]? with
  | none => intro z hz; cases hz
  | some l => exact h l (List.mem_of_getElem? e)
theorem cm_kr_inl {a : Nat} (h : cm_rk a = 14) (j : Int) : cm_inl (cm_kr a j) :=
  cm_getD_all (p := cm_inl) (cm_getD_l (fun l hl z hz => show _ ∧ _ from of_decide_eq_true (List.all_eq_true.mp (List.all_eq_true.mp cm_kr_t.1 l hl) z hz)) _) ⟨by omega, by omega⟩ _
theorem cm_rk10 {a : Nat} (h : cm_rk a = 10) : 43 ≤ a := by
  have h72 := cm_rk_72 (a := a) (by omega)
  have : (List.range 72).all (fun a => decide (cm_rk a ≠ 10 ∨ 43 ≤ a)) = true := by decide +kernel
  have := of_decide_eq_true (List.all_eq_true.mp this a (List.mem_range.mpr h72))
  omega
theorem cm_kr_in {a : Nat} (h : cm_rk a = 10) (j : Int) : cm_in (cm_kr a j) := by
  have h43 := cm_rk10 h
  have e : cm_krT.getD (a - 42) [] = (cm_krT.drop 1).getD (a - 43) [] := by
    rw [List.getD_eq_getElem?_getD, List.getD_eq_getElem?_getD, List.getElem?_drop, show 1 + (a - 43) = a - 42 by omega]
  unfold cm_kr
  rw [e]
  exact cm_getD_all (p := cm_in) (cm_getD_l (fun l hl z hz => show _ ∧ _ from of_decide_eq_true (List.all_eq_true.mp (List.all_eq_true.mp cm_kr_t.2 l hl) z hz)) _) ⟨by omega, by omega⟩ _
/-! ===== the steps that go on at the next index ===== -/
section JOIN2
variable {E y lo hi : Nat} {h0 : List va_E} {code : List Instr} {P D : List Nat}
theorem jdn_eq {ix n k : Nat} {ci : Instr} (h : jdn D ix n ci = true) (hD : D[ix]? = some k) : D[n]? = some (k - (jeff ci).1 + (jeff ci).2) := by
  unfold jdn at h
  rw [hD] at h
  exact of_decide_eq_true h
theorem j_and {a b : Bool} (h : (a && b) = true) : a = true ∧ b = true := (Bool.and_eq_true a b).mp h
theorem jnl_f {ix : Nat} {ci : Instr} (hc : code[ix]? = some ci) (h : jlp ci = true) : jnl code = false := by
  cases e : jnl code with
  | false => rfl
  | true =>
    have := List.all_eq_true.mp e ci (List.mem_of_getElem? hc)
    rw [h] at this
    cases this
theorem jls_t {ix k : Nat} (hc : code[ix]? = some (.lstore k)) : jls code k = true := List.any_eq_true.mpr ⟨_, List.mem_of_getElem? hc, by simp⟩
theorem j_gf {c j k kd a : Nat} {ty : FieldType} {b : Bool} {s : cm_S} (hh : hi ≤ h0.length) (hhi : hi ≤ 72) (hfl : am_fl c j = some (k / 100, k % 100, ty, b)) (hfk : cm_fk (k / 100) (k % 100) = kd) (h9 : kd < 9) (hp : cm_pl lo hi a) (hcl : cm_cl a = k / 100) (ini : Bool) (nL pc : Nat) (L : am_L) (st : List Value) : am_step (am_fl c) (am_kc c) (am_kl c) (am_gs2 c) am_ro2 ini nL (.getfield j) pc L (.ref a :: st) (cm_mix lo hi s h0) = some (pc + 3, L, cm_fv s a (k % 100) :: st, cm_mix lo hi s h0) ∧ lo ≤ a ∧ a < hi := by
  have h10 := cm_fk_cl (c := k / 100) (j := k % 100) (by omega)
  have hnf := cm_fk_nf (c := k / 100) (j := k % 100) (by omega)
  obtain ⟨g1, g2⟩ := j_get (lo := lo) (h0 := h0) (s := s) hh hhi hp hcl (by omega) (f := fun c fs => if decide (c = k / 100) = true then (fs[k % 100]?).bind fun v => some (pc + 3, L, v :: st, cm_mix lo hi s h0) else none)
  refine ⟨?_, g2⟩
  show (am_fl c j).bind _ = _
  rw [hfl]
  show am_obj (cm_mix lo hi s h0) a (fun c fs => if decide (c = k / 100) = true then (fs[k % 100]?).bind fun v => some (pc + 3, L, v :: st, cm_mix lo hi s h0) else none) = _
  rw [g1, if_pos (by simp), ← hcl, cm_fs_get (by rw [hcl]; exact hnf)]
  rfl
theorem j_pf {c j k kd a : Nat} {ty : FieldType} {s : cm_S} {z : Int} {v : Value} (hh : hi ≤ h0.length) (hhi : hi ≤ 72) (hfl : am_fl c j = some (k / 100, k % 100, ty, false)) (hfk : cm_fk (k / 100) (k % 100) = kd) (h9 : kd < 9) (hp : cm_pl lo hi a) (hcl : cm_cl a = k / 100) (hna : narrow ty v = v) (hfi : fits ty v = true) (hv : cm_fv (cm_p s (100 * a + k % 100) z) a (k % 100) = v) (ini : Bool) (nL pc : Nat) (L : am_L) (st : List Value) : am_step (am_fl c) (am_kc c) (am_kl c) (am_gs2 c) am_ro2 ini nL (.putfield j) pc L (v :: .ref a :: st) (cm_mix lo hi s h0) = some (pc + 3, L, st, cm_mix lo hi (cm_p s (100 * a + k % 100) z) h0) := by
  have h10 := cm_fk_cl (c := k / 100) (j := k % 100) (by omega)
  have hnf := cm_fk_nf (c := k / 100) (j := k % 100) (by omega)
  obtain ⟨g1, g2⟩ := j_get (lo := lo) (h0 := h0) (s := s) hh hhi hp hcl (by omega) (f := fun c fs => if (decide (c = k / 100) && (decide (k % 100 < fs.length) && ((!false || ini) && (decide (narrow ty v = v) && fits ty v)))) = true then some (pc + 3, L, st, (cm_mix lo hi s h0).set a (.inr (c, fs.set (k % 100) v))) else none)
  show (am_fl c j).bind _ = _
  rw [hfl]
  show am_obj (cm_mix lo hi s h0) a (fun c fs => if (decide (c = k / 100) && (decide (k % 100 < fs.length) && ((!false || ini) && (decide (narrow ty v = v) && fits ty v)))) = true then some (pc + 3, L, st, (cm_mix lo hi s h0).set a (.inr (c, fs.set (k % 100) v))) else none) = _
  rw [g1, if_pos (by simp [hna, hfi]; omega)]
  rw [cm_mix_set g2.1 g2.2 hh (s' := cm_p s (100 * a + k % 100) z) (by rw [cm_cell_p (by omega) (by rw [hcl]; exact hnf) hv, hcl]) (fun b hb => cm_cell_pb (by omega) hb)]
set_option maxHeartbeats 4000000 in
set_option maxRecDepth 20000 in
theorem j_simple (hh : hi ≤ h0.length) (hhi : hi ≤ 72) (hpt : cm_ptck lo hi = true) {run : cm_RN} {X : cm_X} {m ix pc : Nat} {ci i : Instr} {lv : cm_L} {L : am_L} {st : List cm_V} {s : cm_S} {r : cm_R} (hc : code[ix]? = some ci) (h1 : am_thr y pc = none) (h2 : am_fc y pc = some i) (hk : jci y (am_co y) code D ix i ci = true) (hd : jdn D ix (ix + 1) ci = true) (hn : P[ix + 1]? = some (pc + am_len i)) (hI : jI y lo hi code D ix lv L st s) (hN : ∀ lv st s, cm_blk run X code m (code.drop (ix + 1)) lv st s = some r → jN E y lo hi h0 code P D (ix + 1) lv st s r) (hnc : (match ci with
    | .invokevirtual _ => false
    | .invokespecial _ => false
    | .invokestatic _ => false
    | .saload => false
    | .arraylength => false
    | .i2s => false
    | _ => true) = true) (hb : cm_blk run X code (m + 1) (ci :: code.drop (ix + 1)) lv st s = some r) : jC E y lo hi h0 pc L st s r := by
  obtain ⟨hL, hS, hT, hs, hD⟩ := hI
  replace hd := jdn_eq hd hD
  cases ci with
  | iconst z =>
    obtain ⟨hv, hz⟩ := jkI_eq hk
    obtain ⟨g1, g2, g3, g4⟩ := jkv_step hv (am_mL y) (am_in y) pc L (st.map cm_v) (cm_mix lo hi s h0)
    exact jS (lv' := lv) (st' := .inl z :: st) h1 h2 g2 g3 g4 hn g1 ⟨hL, List.forall_mem_cons.mpr ⟨hz, hS⟩, jTg_i hc rfl hT z, hs, hd⟩ (hN _ _ _ hb)
  | sipush z =>
    obtain ⟨hv, hz⟩ := jkL_eq hk
    obtain ⟨g1, g2, g3, g4⟩ := jkv_step hv (am_mL y) (am_in y) pc L (st.map cm_v) (cm_mix lo hi s h0)
    exact jS (lv' := lv) (st' := .inr (.inr z) :: st) h1 h2 g2 g3 g4 hn g1 ⟨hL, List.forall_mem_cons.mpr ⟨⟨jnl_f hc rfl, hz⟩, hS⟩, jTg_o hc rfl rfl _, hs, hd⟩ (hN _ _ _ hb)
  | ldc a =>
    obtain ⟨hk1, hk2⟩ := j_and hk
    obtain ⟨g1, g2, g3, g4⟩ := jkv_step (jkR_eq hk1) (am_mL y) (am_in y) pc L (st.map cm_v) (cm_mix lo hi s h0)
    exact jS (lv' := lv) (st' := .inr (.inl a) :: st) h1 h2 g2 g3 g4 hn g1 ⟨hL, List.forall_mem_cons.mpr ⟨jtx_pl hk2, hS⟩, jTg_t hc (fun _ => hk2) rfl _, hs, hd⟩ (hN _ _ _ hb)
  | iload k =>
    replace hb := cm_li_eq hb
    obtain ⟨x, hx, hb⟩ := hb
    obtain ⟨q1, q2, q3, q4⟩ := hL k _ hx
    have hk : jil i k = true := hk
    unfold jil at hk
    split at hk
    · obtain rfl : _ = k := by simpa using hk
      refine jS (lv' := lv) (L' := L) (st' := .inl x :: st) (s' := s) h1 h2 rfl rfl rfl hn ?_ ⟨hL, List.forall_mem_cons.mpr ⟨q2, hS⟩, jTg_i hc rfl hT x, hs, hd⟩ (hN _ _ _ hb)
      show am_gi L _ _ = _
      unfold am_gi
      rw [q1]
      rfl
    · obtain rfl : _ = k := by simpa using hk
      refine jS (lv' := lv) (L' := L) (st' := .inl x :: st) (s' := s) h1 h2 rfl rfl rfl hn ?_ ⟨hL, List.forall_mem_cons.mpr ⟨q2, hS⟩, jTg_i hc rfl hT x, hs, hd⟩ (hN _ _ _ hb)
      show am_gi L _ _ = _
      unfold am_gi
      rw [q1]
      rfl
    · cases hk
  | aload k =>
    replace hb := cm_lr_eq hb
    obtain ⟨x, hx, hb⟩ := hb
    obtain ⟨q1, q2, q3, q4⟩ := hL k _ hx
    have ht : jtp y (.aload k) = true → jtx y x = true := fun z => by
      obtain ⟨a, ha, hx⟩ := q4 (of_decide_eq_true z)
      cases ha
      exact hx
    have hk : jal i k = true := hk
    unfold jal at hk
    split at hk
    · obtain rfl : _ = k := by simpa using hk
      refine jS (lv' := lv) (L' := L) (st' := .inr (.inl x) :: st) (s' := s) h1 h2 rfl rfl rfl hn ?_ ⟨hL, List.forall_mem_cons.mpr ⟨q2, hS⟩, jTg_t hc ht rfl _, hs, hd⟩ (hN _ _ _ hb)
      show am_gr L _ _ = _
      unfold am_gr
      rw [q1]
      rfl
    · obtain rfl : _ = k := by simpa using hk
      refine jS (lv' := lv) (L' := L) (st' := .inr (.inl x) :: st) (s' := s) h1 h2 rfl rfl rfl hn ?_ ⟨hL, List.forall_mem_cons.mpr ⟨q2, hS⟩, jTg_t hc ht rfl _, hs, hd⟩ (hN _ _ _ hb)
      show am_gr L _ _ = _
      unfold am_gr
      rw [q1]
      rfl
    · cases hk
  | lload k =>
    replace hb := cm_ll_eq hb
    obtain ⟨x, hx, hb⟩ := hb
    obtain ⟨q1, q2, q3, q4⟩ := hL k _ hx
    have hk : jll i k = true := hk
    unfold jll at hk
    split at hk
    · obtain rfl : _ = k := by simpa using hk
      refine jS (lv' := lv) (L' := L) (st' := .inr (.inr x) :: st) (s' := s) h1 h2 rfl rfl rfl hn ?_ ⟨hL, List.forall_mem_cons.mpr ⟨q2, hS⟩, jTg_o hc rfl rfl _, hs, hd⟩ (hN _ _ _ hb)
      show am_gl L _ _ = _
      unfold am_gl
      rw [q1]
      rfl
    · cases hk
  | istore k =>
    replace hb := cm_i1_eq hb
    obtain ⟨x, st', rfl, hb⟩ := hb
    obtain ⟨p1, p2⟩ := List.forall_mem_cons.mp hS
    obtain ⟨hk, hk2⟩ := j_and hk
    obtain ⟨hk2, hk3⟩ := j_and hk2
    unfold jis at hk
    split at hk
    · obtain rfl : _ = k := by simpa using hk
      refine jS (lv' := lv.set _ (some (.inl x))) (L' := am_sto L _ (cm_v (.inl x))) (st' := st') (s' := s) h1 h2 rfl rfl rfl hn ?_ ⟨jLv_sto hL hk3 p1 rfl, p2, jTg_o hc rfl rfl _, hs, hd⟩ (hN _ _ _ hb)
      exact if_pos hk2
    · obtain rfl : _ = k := by simpa using hk
      refine jS (lv' := lv.set _ (some (.inl x))) (L' := am_sto L _ (cm_v (.inl x))) (st' := st') (s' := s) h1 h2 rfl rfl rfl hn ?_ ⟨jLv_sto hL hk3 p1 rfl, p2, jTg_o hc rfl rfl _, hs, hd⟩ (hN _ _ _ hb)
      exact if_pos hk2
    · cases hk
  | astore k =>
    replace hb := cm_r1_eq hb
    obtain ⟨x, st', rfl, hb⟩ := hb
    obtain ⟨p1, p2⟩ := List.forall_mem_cons.mp hS
    obtain ⟨hk, hk2⟩ := j_and hk
    obtain ⟨hk2, hk3⟩ := j_and hk2
    unfold jas at hk
    split at hk
    · obtain rfl : _ = k := by simpa using hk
      refine jS (lv' := lv.set _ (some (.inr (.inl x)))) (L' := am_sto L _ (cm_v (.inr (.inl x)))) (st' := st') (s' := s) h1 h2 rfl rfl rfl hn ?_ ⟨jLv_sto hL hk3 p1 rfl, p2, jTg_o hc rfl rfl _, hs, hd⟩ (hN _ _ _ hb)
      exact if_pos hk2
    · obtain rfl : _ = k := by simpa using hk
      refine jS (lv' := lv.set _ (some (.inr (.inl x)))) (L' := am_sto L _ (cm_v (.inr (.inl x)))) (st' := st') (s' := s) h1 h2 rfl rfl rfl hn ?_ ⟨jLv_sto hL hk3 p1 rfl, p2, jTg_o hc rfl rfl _, hs, hd⟩ (hN _ _ _ hb)
      exact if_pos hk2
    · cases hk
  | lstore k =>
    replace hb := cm_l1_eq hb
    obtain ⟨x, st', rfl, hb⟩ := hb
    obtain ⟨p1, p2⟩ := List.forall_mem_cons.mp hS
    obtain ⟨hk, hk2⟩ := j_and hk
    obtain ⟨hk2, hk3⟩ := j_and hk2
    obtain ⟨hk3, hk4⟩ := j_and hk3
    unfold jlt at hk
    split at hk
    · obtain rfl : _ = k := by simpa using hk
      refine jS (L' := am_sto2 L _ (.long (Int64.ofInt x))) (st' := st') (s' := s) h1 h2 rfl rfl rfl hn ?_ ⟨jLv_sto2 hL hk3 (of_decide_eq_true hk4) (jls_t hc) p1.1 p1.2, p2, jTg_o hc rfl rfl _, hs, hd⟩ (hN _ _ _ hb)
      exact if_pos hk2
    · cases hk
  | iinc k c =>
    replace hb := cm_li_eq hb
    obtain ⟨x, hx, hb⟩ := hb
    obtain ⟨q1, q2, q3, q4⟩ := hL k _ hx
    obtain ⟨hk, hk2⟩ := j_and hk
    obtain ⟨hk2, hk3⟩ := j_and hk2
    unfold jii at hk
    split at hk
    · obtain ⟨hk4, hk5⟩ := j_and hk
      have e1 := eq_of_beq hk4
      have e2 := of_decide_eq_true hk5
      subst e1
      subst e2
      refine jS (lv' := lv.set _ (some (.inl (cm_w (x + _))))) (L' := am_sto L _ (cm_v (.inl (cm_w (x + _))))) (st' := st) (s' := s) h1 h2 rfl rfl rfl hn ?_ ⟨jLv_sto hL hk3 (cm_w_in _) rfl, hS, jTg_o hc rfl rfl _, hs, hd⟩ (hN _ _ _ hb)
      show am_gi L _ _ = _
      unfold am_gi
      rw [q1]
      show (if decide (_ < am_mL y) = true then some (pc + 3, am_sto L _ (.int (Int32.ofInt x + Int32.ofInt _)), st.map cm_v, cm_mix lo hi s h0) else none) = _
      rw [if_pos hk2, ← Int32.ofInt_add, ← cm_w_of]
      rfl
    · cases hk
  | iadd =>
    obtain rfl : i = .iadd := of_decide_eq_true hk
    replace hb := cm_i2_eq hb
    obtain ⟨x, w, st', rfl, hb⟩ := hb
    obtain ⟨p1, p2⟩ := List.forall_mem_cons.mp hS
    obtain ⟨p2, p3⟩ := List.forall_mem_cons.mp p2
    refine jS (lv' := lv) (L' := L) (st' := .inl (cm_w (x + w)) :: st') (s' := s) h1 h2 rfl rfl rfl hn ?_ ⟨hL, List.forall_mem_cons.mpr ⟨cm_w_in _, p3⟩, jTg_o hc rfl rfl _, hs, hd⟩ (hN _ _ _ hb)
    show some (pc + 1, L, Value.int (Int32.ofInt x + Int32.ofInt w) :: st'.map cm_v, cm_mix lo hi s h0) = _
    rw [← Int32.ofInt_add, ← cm_w_of]
    rfl
  | isub =>
    obtain rfl : i = .isub := of_decide_eq_true hk
    replace hb := cm_i2_eq hb
    obtain ⟨x, w, st', rfl, hb⟩ := hb
    obtain ⟨p1, p2⟩ := List.forall_mem_cons.mp hS
    obtain ⟨p2, p3⟩ := List.forall_mem_cons.mp p2
    refine jS (lv' := lv) (L' := L) (st' := .inl (cm_w (x - w)) :: st') (s' := s) h1 h2 rfl rfl rfl hn ?_ ⟨hL, List.forall_mem_cons.mpr ⟨cm_w_in _, p3⟩, jTg_o hc rfl rfl _, hs, hd⟩ (hN _ _ _ hb)
    show some (pc + 1, L, Value.int (Int32.ofInt x - Int32.ofInt w) :: st'.map cm_v, cm_mix lo hi s h0) = _
    rw [← Int32.ofInt_sub, ← cm_w_of]
    rfl
  | imul =>
    obtain rfl : i = .imul := of_decide_eq_true hk
    replace hb := cm_i2_eq hb
    obtain ⟨x, w, st', rfl, hb⟩ := hb
    obtain ⟨p1, p2⟩ := List.forall_mem_cons.mp hS
    obtain ⟨p2, p3⟩ := List.forall_mem_cons.mp p2
    refine jS (lv' := lv) (L' := L) (st' := .inl (cm_w (x * w)) :: st') (s' := s) h1 h2 rfl rfl rfl hn ?_ ⟨hL, List.forall_mem_cons.mpr ⟨cm_w_in _, p3⟩, jTg_o hc rfl rfl _, hs, hd⟩ (hN _ _ _ hb)
    show some (pc + 1, L, Value.int (Int32.ofInt x * Int32.ofInt w) :: st'.map cm_v, cm_mix lo hi s h0) = _
    rw [← Int32.ofInt_mul, ← cm_w_of]
    rfl
  | iand =>
    obtain rfl : i = .iand := of_decide_eq_true hk
    replace hb := cm_i2_eq hb
    obtain ⟨x, w, st', rfl, hb⟩ := hb
    obtain ⟨p1, p2⟩ := List.forall_mem_cons.mp hS
    obtain ⟨p2, p3⟩ := List.forall_mem_cons.mp p2
    refine jS (lv' := lv) (L' := L) (st' := .inl (cm_and x w) :: st') (s' := s) h1 h2 rfl rfl rfl hn ?_ ⟨hL, List.forall_mem_cons.mpr ⟨cm_in32 _, p3⟩, jTg_o hc rfl rfl _, hs, hd⟩ (hN _ _ _ hb)
    show some (pc + 1, L, Value.int (Int32.ofInt x &&& Int32.ofInt w) :: st'.map cm_v, cm_mix lo hi s h0) = _
    rw [← Int32.ofInt_toInt (Int32.ofInt x &&& Int32.ofInt w)]
    rfl
  | ior =>
    obtain rfl : i = .ior := of_decide_eq_true hk
    replace hb := cm_i2_eq hb
    obtain ⟨x, w, st', rfl, hb⟩ := hb
    obtain ⟨p1, p2⟩ := List.forall_mem_cons.mp hS
    obtain ⟨p2, p3⟩ := List.forall_mem_cons.mp p2
    refine jS (lv' := lv) (L' := L) (st' := .inl (cm_or x w) :: st') (s' := s) h1 h2 rfl rfl rfl hn ?_ ⟨hL, List.forall_mem_cons.mpr ⟨cm_in32 _, p3⟩, jTg_o hc rfl rfl _, hs, hd⟩ (hN _ _ _ hb)
    show some (pc + 1, L, Value.int (Int32.ofInt x ||| Int32.ofInt w) :: st'.map cm_v, cm_mix lo hi s h0) = _
    rw [← Int32.ofInt_toInt (Int32.ofInt x ||| Int32.ofInt w)]
    rfl
  | ishl =>
    obtain rfl : i = .ishl := of_decide_eq_true hk
    replace hb := cm_i2_eq hb
    obtain ⟨x, w, st', rfl, hb⟩ := hb
    obtain ⟨p1, p2⟩ := List.forall_mem_cons.mp hS
    obtain ⟨p2, p3⟩ := List.forall_mem_cons.mp p2
    refine jS (lv' := lv) (L' := L) (st' := .inl (cm_shl x w) :: st') (s' := s) h1 h2 rfl rfl rfl hn ?_ ⟨hL, List.forall_mem_cons.mpr ⟨cm_in32 _, p3⟩, jTg_o hc rfl rfl _, hs, hd⟩ (hN _ _ _ hb)
    show some (pc + 1, L, Value.int (Int32.ofInt x <<< (Int32.ofInt w &&& 31)) :: st'.map cm_v, cm_mix lo hi s h0) = _
    rw [← Int32.ofInt_toInt (Int32.ofInt x <<< (Int32.ofInt w &&& 31))]
    rfl
  | ishr =>
    obtain rfl : i = .ishr := of_decide_eq_true hk
    replace hb := cm_i2_eq hb
    obtain ⟨x, w, st', rfl, hb⟩ := hb
    obtain ⟨p1, p2⟩ := List.forall_mem_cons.mp hS
    obtain ⟨p2, p3⟩ := List.forall_mem_cons.mp p2
    refine jS (lv' := lv) (L' := L) (st' := .inl (cm_shr x w) :: st') (s' := s) h1 h2 rfl rfl rfl hn ?_ ⟨hL, List.forall_mem_cons.mpr ⟨cm_in32 _, p3⟩, jTg_o hc rfl rfl _, hs, hd⟩ (hN _ _ _ hb)
    show some (pc + 1, L, Value.int (Int32.ofInt x >>> (Int32.ofInt w &&& 31)) :: st'.map cm_v, cm_mix lo hi s h0) = _
    rw [← Int32.ofInt_toInt (Int32.ofInt x >>> (Int32.ofInt w &&& 31))]
    rfl
  | ladd =>
    obtain rfl : i = .ladd := of_decide_eq_true hk
    replace hb := cm_l2_eq hb
    obtain ⟨x, w, st', rfl, hb⟩ := hb
    obtain ⟨p1, p2⟩ := List.forall_mem_cons.mp hS
    obtain ⟨p2, p3⟩ := List.forall_mem_cons.mp p2
    refine jS (lv' := lv) (L' := L) (st' := .inr (.inr (cm_wl (x + w))) :: st') (s' := s) h1 h2 rfl rfl rfl hn ?_ ⟨hL, List.forall_mem_cons.mpr ⟨⟨p2.1, cm_in64 _⟩, p3⟩, jTg_o hc rfl rfl _, hs, hd⟩ (hN _ _ _ hb)
    show some (pc + 1, L, Value.long (Int64.ofInt x + Int64.ofInt w) :: st'.map cm_v, cm_mix lo hi s h0) = _
    rw [← Int64.ofInt_add, ← cm_wl_of]
    rfl
  | lsub =>
    obtain rfl : i = .lsub := of_decide_eq_true hk
    replace hb := cm_l2_eq hb
    obtain ⟨x, w, st', rfl, hb⟩ := hb
    obtain ⟨p1, p2⟩ := List.forall_mem_cons.mp hS
    obtain ⟨p2, p3⟩ := List.forall_mem_cons.mp p2
    refine jS (lv' := lv) (L' := L) (st' := .inr (.inr (cm_wl (x - w))) :: st') (s' := s) h1 h2 rfl rfl rfl hn ?_ ⟨hL, List.forall_mem_cons.mpr ⟨⟨p2.1, cm_in64 _⟩, p3⟩, jTg_o hc rfl rfl _, hs, hd⟩ (hN _ _ _ hb)
    show some (pc + 1, L, Value.long (Int64.ofInt x - Int64.ofInt w) :: st'.map cm_v, cm_mix lo hi s h0) = _
    rw [← Int64.ofInt_sub, ← cm_wl_of]
    rfl
  | lmul =>
    obtain rfl : i = .lmul := of_decide_eq_true hk
    replace hb := cm_l2_eq hb
    obtain ⟨x, w, st', rfl, hb⟩ := hb
    obtain ⟨p1, p2⟩ := List.forall_mem_cons.mp hS
    obtain ⟨p2, p3⟩ := List.forall_mem_cons.mp p2
    refine jS (lv' := lv) (L' := L) (st' := .inr (.inr (cm_wl (x * w))) :: st') (s' := s) h1 h2 rfl rfl rfl hn ?_ ⟨hL, List.forall_mem_cons.mpr ⟨⟨p2.1, cm_in64 _⟩, p3⟩, jTg_o hc rfl rfl _, hs, hd⟩ (hN _ _ _ hb)
    show some (pc + 1, L, Value.long (Int64.ofInt x * Int64.ofInt w) :: st'.map cm_v, cm_mix lo hi s h0) = _
    rw [← Int64.ofInt_mul, ← cm_wl_of]
    rfl
  | land =>
    obtain rfl : i = .land := of_decide_eq_true hk
    replace hb := cm_l2_eq hb
    obtain ⟨x, w, st', rfl, hb⟩ := hb
    obtain ⟨p1, p2⟩ := List.forall_mem_cons.mp hS
    obtain ⟨p2, p3⟩ := List.forall_mem_cons.mp p2
    refine jS (lv' := lv) (L' := L) (st' := .inr (.inr (cm_land x w)) :: st') (s' := s) h1 h2 rfl rfl rfl hn ?_ ⟨hL, List.forall_mem_cons.mpr ⟨⟨p2.1, cm_in64 _⟩, p3⟩, jTg_o hc rfl rfl _, hs, hd⟩ (hN _ _ _ hb)
    show some (pc + 1, L, Value.long (Int64.ofInt x &&& Int64.ofInt w) :: st'.map cm_v, cm_mix lo hi s h0) = _
    rw [← Int64.ofInt_toInt (Int64.ofInt x &&& Int64.ofInt w)]
    rfl
  | lshr =>
    obtain rfl : i = .lshr := of_decide_eq_true hk
    replace hb := cm_il_eq hb
    obtain ⟨x, w, st', rfl, hb⟩ := hb
    obtain ⟨p1, p2⟩ := List.forall_mem_cons.mp hS
    obtain ⟨p2, p3⟩ := List.forall_mem_cons.mp p2
    refine jS (lv' := lv) (L' := L) (st' := .inr (.inr (cm_lshr x w)) :: st') (s' := s) h1 h2 rfl rfl rfl hn ?_ ⟨hL, List.forall_mem_cons.mpr ⟨⟨p2.1, cm_in64 _⟩, p3⟩, jTg_o hc rfl rfl _, hs, hd⟩ (hN _ _ _ hb)
    show some (pc + 1, L, Value.long (Int64.ofInt x >>> ((Int32.ofInt w).toInt64 &&& 63)) :: st'.map cm_v, cm_mix lo hi s h0) = _
    rw [← Int64.ofInt_toInt (Int64.ofInt x >>> ((Int32.ofInt w).toInt64 &&& 63))]
    rfl
  | i2l =>
    obtain rfl : i = .i2l := of_decide_eq_true hk
    replace hb := cm_i1_eq hb
    obtain ⟨x, st', rfl, hb⟩ := hb
    obtain ⟨p1, p2⟩ := List.forall_mem_cons.mp hS
    refine jS (lv' := lv) (L' := L) (st' := .inr (.inr x) :: st') (s' := s) h1 h2 rfl rfl rfl hn ?_ ⟨hL, List.forall_mem_cons.mpr ⟨⟨jnl_f hc rfl, cm_in_l p1⟩, p2⟩, jTg_o hc rfl rfl _, hs, hd⟩ (hN _ _ _ hb)
    show some (pc + 1, L, Value.long (Int32.ofInt x).toInt64 :: st'.map cm_v, cm_mix lo hi s h0) = _
    rw [show (Int32.ofInt x).toInt64 = Int64.ofInt x by rw [← Int64.toInt_inj, Int32.toInt_toInt64, cm_32 p1, cm_64 (cm_in_l p1)]]
    rfl
  | l2i =>
    obtain rfl : i = .l2i := of_decide_eq_true hk
    replace hb := cm_l1_eq hb
    obtain ⟨x, st', rfl, hb⟩ := hb
    obtain ⟨p1, p2⟩ := List.forall_mem_cons.mp hS
    refine jS (lv' := lv) (L' := L) (st' := .inl (cm_w x) :: st') (s' := s) h1 h2 rfl rfl rfl hn ?_ ⟨hL, List.forall_mem_cons.mpr ⟨cm_w_in _, p2⟩, jTg_o hc rfl rfl _, hs, hd⟩ (hN _ _ _ hb)
    show some (pc + 1, L, Value.int (Int64.ofInt x).toInt32 :: st'.map cm_v, cm_mix lo hi s h0) = _
    rw [show (Int64.ofInt x).toInt32 = Int32.ofInt x from Int64.toInt32_ofInt, ← cm_w_of]
    rfl
  | i2c =>
    obtain rfl : i = .i2c := of_decide_eq_true hk
    replace hb := cm_i1_eq hb
    obtain ⟨x, st', rfl, hb⟩ := hb
    replace hb := cm_if_eq hb
    obtain ⟨hx, hb⟩ := hb
    obtain ⟨p1, p2⟩ := List.forall_mem_cons.mp hS
    refine jS (lv' := lv) (L' := L) (st' := .inl x :: st') (s' := s) h1 h2 rfl rfl rfl hn ?_ ⟨hL, List.forall_mem_cons.mpr ⟨p1, p2⟩, jTg_o hc rfl rfl _, hs, hd⟩ (hN _ _ _ hb)
    show some (pc + 1, L, Value.int ((Int32.ofInt x).toUInt32 % 65536).toInt32 :: st'.map cm_v, cm_mix lo hi s h0) = _
    rw [cm_i2c_id hx]
    rfl
  | i2b =>
    obtain rfl : i = .i2b := of_decide_eq_true hk
    replace hb := cm_i1_eq hb
    obtain ⟨x, st', rfl, hb⟩ := hb
    replace hb := cm_if_eq hb
    obtain ⟨hx, hb⟩ := hb
    obtain ⟨p1, p2⟩ := List.forall_mem_cons.mp hS
    refine jS (lv' := lv) (L' := L) (st' := .inl x :: st') (s' := s) h1 h2 rfl rfl rfl hn ?_ ⟨hL, List.forall_mem_cons.mpr ⟨p1, p2⟩, jTg_o hc rfl rfl _, hs, hd⟩ (hN _ _ _ hb)
    show some (pc + 1, L, Value.int (Int32.ofInt x).toInt8.toInt32 :: st'.map cm_v, cm_mix lo hi s h0) = _
    rw [cm_i2b_id hx]
    rfl
  | lcmp =>
    obtain rfl : i = .lcmp := of_decide_eq_true hk
    replace hb := cm_l2_eq hb
    obtain ⟨x, w, st', rfl, hb⟩ := hb
    obtain ⟨p1, p2⟩ := List.forall_mem_cons.mp hS
    obtain ⟨p2, p3⟩ := List.forall_mem_cons.mp p2
    have hin : cm_in (if x < w then -1 else if x = w then 0 else 1) := by
      split
      · exact ⟨by omega, by omega⟩
      · split <;> exact ⟨by omega, by omega⟩
    refine jS (lv' := lv) (L' := L) (st' := .inl (if x < w then -1 else if x = w then 0 else 1) :: st') (s' := s) h1 h2 rfl rfl rfl hn ?_ ⟨hL, List.forall_mem_cons.mpr ⟨hin, p3⟩, jTg_o hc rfl rfl _, hs, hd⟩ (hN _ _ _ hb)
    show some (pc + 1, L, Value.int (lg_cmp (Int64.ofInt x) (Int64.ofInt w)) :: st'.map cm_v, cm_mix lo hi s h0) = _
    have e : lg_cmp (Int64.ofInt x) (Int64.ofInt w) = Int32.ofInt (if x < w then -1 else if x = w then 0 else 1) := by
      unfold lg_cmp
      have a1 : Int64.ofInt x > Int64.ofInt w ↔ w < x := by
        show Int64.ofInt w < Int64.ofInt x ↔ _
        rw [Int64.lt_iff_toInt_lt, cm_64 p1.2, cm_64 p2.2]
      have a2 : Int64.ofInt x = Int64.ofInt w ↔ x = w := by rw [← Int64.toInt_inj, cm_64 p1.2, cm_64 p2.2]
      by_cases c1 : w < x
      · rw [if_pos (a1.mpr c1), if_neg (by omega), if_neg (by omega)]; rfl
      · rw [if_neg (fun z => c1 (a1.mp z))]
        by_cases c2 : x = w
        · rw [if_pos (a2.mpr c2), if_neg (by omega), if_pos c2]; rfl
        · rw [if_neg (fun z => c2 (a2.mp z)), if_pos (by omega)]; rfl
    rw [e]
    rfl
  | dup =>
    obtain rfl : i = .dup := of_decide_eq_true hk
    have hb : cm_dp st (fun v st' => cm_blk run X code m (code.drop (ix + 1)) lv (v :: v :: st') s) = some r := hb
    replace hb := cm_dp_eq hb
    obtain ⟨v, st', rfl, hv, hb⟩ := hb
    obtain ⟨p1, p2⟩ := List.forall_mem_cons.mp hS
    refine jS (lv' := lv) (L' := L) (st' := v :: v :: st') (s' := s) h1 h2 rfl rfl rfl hn ?_ ⟨hL, List.forall_mem_cons.mpr ⟨p1, List.forall_mem_cons.mpr ⟨p1, p2⟩⟩, jTg_o hc rfl rfl _, hs, hd⟩ (hN _ _ _ hb)
    exact if_pos (decide_eq_true ((cm_v_ct v).trans hv))
  | dup2 =>
    obtain rfl : i = .dup2 := of_decide_eq_true hk
    replace hb := cm_zr_eq hb
    obtain ⟨a, j, st', rfl, hb⟩ := hb
    obtain ⟨p1, p2⟩ := List.forall_mem_cons.mp hS
    obtain ⟨p2, p3⟩ := List.forall_mem_cons.mp p2
    exact jS (lv' := lv) (L' := L) (st' := .inl j :: .inr (.inl a) :: .inl j :: .inr (.inl a) :: st') (s' := s) h1 h2 rfl rfl rfl hn rfl ⟨hL, List.forall_mem_cons.mpr ⟨p1, List.forall_mem_cons.mpr ⟨p2, List.forall_mem_cons.mpr ⟨p1, List.forall_mem_cons.mpr ⟨p2, p3⟩⟩⟩⟩, jTg_o hc rfl rfl _, hs, hd⟩ (hN _ _ _ hb)
  | getfield k =>
    obtain ⟨ty, b, hq, hfk⟩ := jfk_eq hk
    obtain ⟨j, rfl, hfl⟩ := jfl_eq hq
    replace hb := cm_r1_eq hb
    obtain ⟨a, st', rfl, hb⟩ := hb
    replace hb := cm_if_eq hb
    obtain ⟨hcl, hb⟩ := hb
    obtain ⟨p1, p2⟩ := List.forall_mem_cons.mp hS
    obtain ⟨g, ga, gb⟩ := j_gf (s := s) (h0 := h0) hh hhi hfl hfk (by omega) p1 hcl (am_in y) (am_mL y) pc L (st'.map cm_v)
    refine jS (lv' := lv) (L' := L) (st' := .inl (s.1 (100 * a + k % 100)) :: st') (s' := s) h1 h2 rfl rfl rfl hn ?_ ⟨hL, List.forall_mem_cons.mpr ⟨hs.1 _, p2⟩, jTg_o hc rfl rfl _, hs, hd⟩ (hN _ _ _ hb)
    refine g.trans ?_
    unfold cm_fv
    rw [if_pos (by rw [hcl]; exact hfk)]
    rfl
  | getstatic k =>
    obtain ⟨ty, b, hq, hfk⟩ := jfk_eq hk
    obtain ⟨j, rfl, hfl⟩ := jfl_eq hq
    replace hb := cm_r1_eq hb
    obtain ⟨a, st', rfl, hb⟩ := hb
    replace hb := cm_if_eq hb
    obtain ⟨hcl, hb⟩ := hb
    obtain ⟨p1, p2⟩ := List.forall_mem_cons.mp hS
    obtain ⟨g, ga, gb⟩ := j_gf (s := s) (h0 := h0) hh hhi hfl hfk (by omega) p1 hcl (am_in y) (am_mL y) pc L (st'.map cm_v)
    refine jS (lv' := lv) (L' := L) (st' := .inr (.inl (cm_pt a (k % 100))) :: st') (s' := s) h1 h2 rfl rfl rfl hn ?_ ⟨hL, List.forall_mem_cons.mpr ⟨cm_pt_f hpt ga gb (by omega) (by rw [hcl]; exact hfk), p2⟩, jTg_o hc rfl rfl _, hs, hd⟩ (hN _ _ _ hb)
    refine g.trans ?_
    unfold cm_fv
    rw [if_neg (by rw [hcl, hfk]; decide), if_pos (by rw [hcl]; exact hfk)]
    rfl
  | checkcast k =>
    obtain ⟨ty, b, hq, hfk⟩ := jfk_eq hk
    obtain ⟨j, rfl, hfl⟩ := jfl_eq hq
    replace hb := cm_r1_eq hb
    obtain ⟨a, st', rfl, hb⟩ := hb
    replace hb := cm_if_eq hb
    obtain ⟨hcl, hb⟩ := hb
    obtain ⟨p1, p2⟩ := List.forall_mem_cons.mp hS
    obtain ⟨g, ga, gb⟩ := j_gf (s := s) (h0 := h0) hh hhi hfl hfk (by omega) p1 hcl (am_in y) (am_mL y) pc L (st'.map cm_v)
    refine jS (lv' := lv) (L' := L) (st' := .inr (.inl (s.1 (100 * a + k % 100)).toNat) :: st') (s' := s) h1 h2 rfl rfl rfl hn ?_ ⟨hL, List.forall_mem_cons.mpr ⟨hs.2.2 a _ ga gb (by rw [hcl]; exact hfk), p2⟩, jTg_o hc rfl rfl _, hs, hd⟩ (hN _ _ _ hb)
    refine g.trans ?_
    unfold cm_fv
    rw [if_neg (by rw [hcl, hfk]; decide), if_neg (by rw [hcl, hfk]; decide)]
    rfl
  | putfield k =>
    obtain ⟨hk, hty⟩ := j_and hk
    obtain ⟨ty, b, hq, hfk⟩ := jfk_eq hk
    obtain ⟨j, rfl, hfl⟩ := jfp_eq hq
    rw [hq] at hty
    obtain ⟨rfl, rfl⟩ := jft_0 hty
    replace hb := cm_zr_eq hb
    obtain ⟨a, z, st', rfl, hb⟩ := hb
    replace hb := cm_if_eq hb
    obtain ⟨hcl, hb⟩ := hb
    obtain ⟨p1, p2⟩ := List.forall_mem_cons.mp hS
    obtain ⟨p2, p3⟩ := List.forall_mem_cons.mp p2
    refine jS (lv' := lv) (L' := L) (st' := st') (s' := cm_p s (100 * a + k % 100) z) h1 h2 rfl rfl rfl hn ?_ ⟨hL, p3, jTg_o hc rfl rfl _, cm_cs_p hs p1 (by omega) (fun q => by rw [hcl, hfk] at q; omega), hd⟩ (hN _ _ _ hb)
    refine j_pf hh hhi hfl hfk (by omega) p2 hcl rfl rfl ?_ (am_in y) (am_mL y) pc L (st'.map cm_v)
    unfold cm_fv
    rw [if_pos (by rw [hcl]; exact hfk)]
    show Value.int (Int32.ofInt (if 100 * a + k % 100 = 100 * a + k % 100 then z else _)) = _
    rw [if_pos rfl]
    rfl
  | instanceof k =>
    obtain ⟨hk, hty⟩ := j_and hk
    obtain ⟨ty, b, hq, hfk⟩ := jfk_eq hk
    obtain ⟨j, rfl, hfl⟩ := jfp_eq hq
    rw [hq] at hty
    obtain ⟨rfl, rfl⟩ := jft_1 hty
    replace hb := cm_zr_eq hb
    obtain ⟨a, z, st', rfl, hb⟩ := hb
    replace hb := cm_if_eq hb
    obtain ⟨hcl, hb⟩ := hb
    replace hb := cm_if_eq hb
    obtain ⟨hz, hb⟩ := hb
    obtain ⟨p1, p2⟩ := List.forall_mem_cons.mp hS
    obtain ⟨p2, p3⟩ := List.forall_mem_cons.mp p2
    refine jS (lv' := lv) (L' := L) (st' := st') (s' := cm_p s (100 * a + k % 100) z) h1 h2 rfl rfl rfl hn ?_ ⟨hL, p3, jTg_o hc rfl rfl _, cm_cs_p hs p1 (by omega) (fun q => by rw [hcl, hfk] at q; omega), hd⟩ (hN _ _ _ hb)
    refine j_pf hh hhi hfl hfk (by omega) p2 hcl (cm_nar_b hz) (cm_fit_b hz) ?_ (am_in y) (am_mL y) pc L (st'.map cm_v)
    unfold cm_fv
    rw [if_pos (by rw [hcl]; exact hfk)]
    show Value.int (Int32.ofInt (if 100 * a + k % 100 = 100 * a + k % 100 then z else _)) = _
    rw [if_pos rfl]
  | putstatic k =>
    obtain ⟨hk, hty⟩ := j_and hk
    obtain ⟨ty, b, hq, hfk⟩ := jfk_eq hk
    obtain ⟨j, rfl, hfl⟩ := jfp_eq hq
    rw [hq] at hty
    obtain ⟨n, rfl, rfl⟩ := jft_2 hty
    replace hb := cm_rr_eq hb
    obtain ⟨a, p, st', rfl, hb⟩ := hb
    replace hb := cm_if_eq hb
    obtain ⟨hcl, hb⟩ := hb
    obtain ⟨p1, p2⟩ := List.forall_mem_cons.mp hS
    obtain ⟨p2, p3⟩ := List.forall_mem_cons.mp p2
    have hp : cm_in (p : Int) := by
      have p1 : cm_pl lo hi p := p1
      unfold cm_pl at p1
      constructor <;> omega
    refine jS (lv' := lv) (L' := L) (st' := st') (s' := cm_p s (100 * a + k % 100) p) h1 h2 rfl rfl rfl hn ?_ ⟨hL, p3, jTg_o hc rfl rfl _, cm_cs_p hs hp (by omega) (fun q => by rw [Int.toNat_natCast]; exact p1), hd⟩ (hN _ _ _ hb)
    refine j_pf hh hhi hfl hfk (by omega) p2 hcl rfl rfl ?_ (am_in y) (am_mL y) pc L (st'.map cm_v)
    unfold cm_fv
    rw [if_neg (by rw [hcl, hfk]; decide), if_neg (by rw [hcl, hfk]; decide)]
    show Value.ref (if 100 * a + k % 100 = 100 * a + k % 100 then (p : Int) else _).toNat = _
    rw [if_pos rfl, Int.toNat_natCast]
    rfl
  | iaload =>
    obtain rfl : i = .iaload := of_decide_eq_true hk
    replace hb := cm_ri_eq hb
    obtain ⟨a, j, st', rfl, hb⟩ := hb
    obtain ⟨p1, p2⟩ := List.forall_mem_cons.mp hS
    obtain ⟨p2, p3⟩ := List.forall_mem_cons.mp p2
    by_cases hr : cm_rk a = 0
    · rw [if_pos hr] at hb
      replace hb := cm_if_eq hb
      obtain ⟨hj, hb⟩ := hb
      obtain ⟨g1, g2, g3⟩ := j_row (s := s) hh hhi p2 (by omega : cm_rk a ≠ 99)
      obtain ⟨r1, r2⟩ := cm_rn_f (a := a) (by omega)
      refine jS (lv' := lv) (L' := L) (st' := .inl (s.2 a j) :: st') (s' := s) h1 h2 rfl rfl rfl hn ?_ ⟨hL, List.forall_mem_cons.mpr ⟨hs.2.1 _ _, p3⟩, jTg_o hc rfl rfl _, hs, hd⟩ (hN _ _ _ hb)
      show (match am_ro2 a with
        | some q => _
        | none => am_row (cm_mix lo hi s h0) a _) = _
      rw [show am_ro2 a = none from if_neg (by omega)]
      show am_row (cm_mix lo hi s h0) a _ = _
      unfold am_row
      rw [g3, cm_cell_r (by omega)]
      show (if (cm_rk a == 0 && am_ok (Int32.ofInt j) (cm_rn a).toNat) = true then _ else _) = _
      rw [if_pos (by rw [hr, cm_okix hj.1 (by omega) (by omega)]; rfl), cm_clamp hj.1 (by omega)]
      have ej : ((j.toNat : Nat) : Int) = j := by omega
      dsimp only
      rw [ej]
      rfl
    · rw [if_neg hr] at hb
      replace hb := cm_if_eq hb
      obtain ⟨hr, hb⟩ := hb
      replace hb := cm_if_eq hb
      obtain ⟨hj, hb⟩ := hb
      obtain ⟨g1, g2, g3⟩ := j_row (s := s) hh hhi p2 (by omega : cm_rk a ≠ 99)
      obtain ⟨r1, r2⟩ := cm_rn_f (a := a) (by omega)
      refine jS (lv' := lv) (L' := L) (st' := .inl (cm_kr a j) :: st') (s' := s) h1 h2 rfl rfl rfl hn ?_ ⟨hL, List.forall_mem_cons.mpr ⟨cm_kr_in hr j, p3⟩, jTg_o hc rfl rfl _, hs, hd⟩ (hN _ _ _ hb)
      show (match am_ro2 a with
        | some q => _
        | none => am_row (cm_mix lo hi s h0) a _) = _
      rw [show am_ro2 a = none from if_neg (by omega)]
      show am_row (cm_mix lo hi s h0) a _ = _
      unfold am_row
      rw [g3, cm_cell_10 hr]
      show (if ((0 == 0) && am_ok (Int32.ofInt j) (cm_rn a).toNat) = true then _ else _) = _
      rw [if_pos (by rw [cm_okix hj.1 (by omega) (by omega)]; rfl), cm_clamp hj.1 (by omega)]
      have ej : ((j.toNat : Nat) : Int) = j := by omega
      dsimp only
      rw [ej]
      rfl
  | caload =>
    obtain rfl : i = .caload := of_decide_eq_true hk
    replace hb := cm_ri_eq hb
    obtain ⟨a, j, st', rfl, hb⟩ := hb
    obtain ⟨p1, p2⟩ := List.forall_mem_cons.mp hS
    obtain ⟨p2, p3⟩ := List.forall_mem_cons.mp p2
    replace hb := cm_if_eq hb
    obtain ⟨hr, hb⟩ := hb
    replace hb := cm_if_eq hb
    obtain ⟨hj, hb⟩ := hb
    obtain ⟨g1, g2, g3⟩ := j_row (s := s) hh hhi p2 (by omega : cm_rk a ≠ 99)
    obtain ⟨r1, r2⟩ := cm_rn_f (a := a) (by omega)
    refine jS (lv' := lv) (L' := L) (st' := .inl (s.2 a j) :: st') (s' := s) h1 h2 rfl rfl rfl hn ?_ ⟨hL, List.forall_mem_cons.mpr ⟨hs.2.1 _ _, p3⟩, jTg_o hc rfl rfl _, hs, hd⟩ (hN _ _ _ hb)
    show am_row (cm_mix lo hi s h0) a _ = _
    unfold am_row
    rw [g3, cm_cell_r (by omega)]
    show (if (cm_rk a == 1 && am_ok (Int32.ofInt j) (cm_rn a).toNat) = true then _ else _) = _
    rw [if_pos (by rw [hr, cm_okix hj.1 (by omega) (by omega)]; rfl), cm_clamp hj.1 (by omega)]
    have ej : ((j.toNat : Nat) : Int) = j := by omega
    dsimp only
    rw [ej]
    rfl
  | baload =>
    obtain rfl : i = .baload := of_decide_eq_true hk
    replace hb := cm_ri_eq hb
    obtain ⟨a, j, st', rfl, hb⟩ := hb
    obtain ⟨p1, p2⟩ := List.forall_mem_cons.mp hS
    obtain ⟨p2, p3⟩ := List.forall_mem_cons.mp p2
    replace hb := cm_if_eq hb
    obtain ⟨hr, hb⟩ := hb
    replace hb := cm_if_eq hb
    obtain ⟨hj, hb⟩ := hb
    obtain ⟨g1, g2, g3⟩ := j_row (s := s) hh hhi p2 (by omega : cm_rk a ≠ 99)
    obtain ⟨r1, r2⟩ := cm_rn_f (a := a) (by omega)
    refine jS (lv' := lv) (L' := L) (st' := .inl (s.2 a j) :: st') (s' := s) h1 h2 rfl rfl rfl hn ?_ ⟨hL, List.forall_mem_cons.mpr ⟨hs.2.1 _ _, p3⟩, jTg_o hc rfl rfl _, hs, hd⟩ (hN _ _ _ hb)
    show am_row (cm_mix lo hi s h0) a _ = _
    unfold am_row
    rw [g3, cm_cell_r (by omega)]
    show (if ((cm_rk a == 2 || cm_rk a == 3) && am_ok (Int32.ofInt j) (cm_rn a).toNat) = true then _ else _) = _
    rw [if_pos (by rw [cm_okix hj.1 (by omega) (by omega)]; rcases hr with hr | hr <;> rw [hr] <;> rfl), cm_clamp hj.1 (by omega)]
    have ej : ((j.toNat : Nat) : Int) = j := by omega
    dsimp only
    rw [ej]
    rfl
  | laload =>
    obtain rfl : i = .laload := of_decide_eq_true hk
    replace hb := cm_ri_eq hb
    obtain ⟨a, j, st', rfl, hb⟩ := hb
    obtain ⟨p1, p2⟩ := List.forall_mem_cons.mp hS
    obtain ⟨p2, p3⟩ := List.forall_mem_cons.mp p2
    replace hb := cm_if_eq hb
    obtain ⟨hr, hb⟩ := hb
    replace hb := cm_if_eq hb
    obtain ⟨hj, hb⟩ := hb
    obtain ⟨g1, g2, g3⟩ := j_row (s := s) hh hhi p2 (by omega : cm_rk a ≠ 99)
    obtain ⟨r1, r2⟩ := cm_rn_f (a := a) (by omega)
    refine jS (lv' := lv) (L' := L) (st' := .inr (.inr (cm_kr a j)) :: st') (s' := s) h1 h2 rfl rfl rfl hn ?_ ⟨hL, List.forall_mem_cons.mpr ⟨⟨jnl_f hc rfl, cm_kr_inl hr j⟩, p3⟩, jTg_o hc rfl rfl _, hs, hd⟩ (hN _ _ _ hb)
    show am_rowl (cm_mix lo hi s h0) a _ = _
    unfold am_rowl
    rw [g3, cm_cell_14 hr]
    show (if ((4 == 4) && am_ok (Int32.ofInt j) (cm_rn a).toNat) = true then _ else _) = _
    rw [if_pos (by rw [cm_okix hj.1 (by omega) (by omega)]; rfl), cm_clamp hj.1 (by omega)]
    have ej : ((j.toNat : Nat) : Int) = j := by omega
    dsimp only
    rw [ej]
    rfl
  | iastore =>
    obtain rfl : i = .iastore := of_decide_eq_true hk
    replace hb := cm_rii_eq hb
    obtain ⟨a, j, z, st', rfl, hb⟩ := hb
    obtain ⟨p1, p2⟩ := List.forall_mem_cons.mp hS
    obtain ⟨p2, p3⟩ := List.forall_mem_cons.mp p2
    obtain ⟨p3, p4⟩ := List.forall_mem_cons.mp p3
    replace hb := cm_if_eq hb
    obtain ⟨hr, hb⟩ := hb
    replace hb := cm_if_eq hb
    obtain ⟨hj, hb⟩ := hb
    obtain ⟨g1, g2, g3⟩ := j_row (s := s) hh hhi p3 (by omega : cm_rk a ≠ 99)
    obtain ⟨r1, r2⟩ := cm_rn_f (a := a) (by omega)
    refine jS (lv' := lv) (L' := L) (st' := st') (s' := cm_q s a j z) h1 h2 rfl rfl rfl hn ?_ ⟨hL, p4, jTg_o hc rfl rfl _, cm_cs_q hs p1, hd⟩ (hN _ _ _ hb)
    have e : Int32.ofInt z = Int32.ofInt z := rfl
    show am_row (cm_mix lo hi s h0) a _ = _
    unfold am_row
    rw [g3, cm_cell_r (by omega)]
    show (if (cm_rk a == 0 && am_ok (Int32.ofInt j) (cm_rn a).toNat) = true then some (pc + 1, L, st'.map cm_v, (cm_mix lo hi s h0).set a (.inl (cm_rk a, (cm_rn a).toNat, .inl (upd (fun i => Int32.ofInt (s.2 a (i : Int))) (Int32.ofInt j).toNatClampNeg (Int32.ofInt z))))) else none) = _
    rw [if_pos (by rw [hr, cm_okix hj.1 (by omega) (by omega)]; rfl), cm_clamp hj.1 (by omega), e, cm_mix_set g1 g2 hh (s' := cm_q s a j z) (cm_cell_q (by omega) hj.1) (fun b hb => cm_cell_qb hb)]
    rfl
  | castore =>
    obtain rfl : i = .castore := of_decide_eq_true hk
    replace hb := cm_rii_eq hb
    obtain ⟨a, j, z, st', rfl, hb⟩ := hb
    obtain ⟨p1, p2⟩ := List.forall_mem_cons.mp hS
    obtain ⟨p2, p3⟩ := List.forall_mem_cons.mp p2
    obtain ⟨p3, p4⟩ := List.forall_mem_cons.mp p3
    replace hb := cm_if_eq hb
    obtain ⟨hr, hb⟩ := hb
    replace hb := cm_if_eq hb
    obtain ⟨hj, hb⟩ := hb
    obtain ⟨hz, hb⟩ := cm_if_eq hb
    obtain ⟨g1, g2, g3⟩ := j_row (s := s) hh hhi p3 (by omega : cm_rk a ≠ 99)
    obtain ⟨r1, r2⟩ := cm_rn_f (a := a) (by omega)
    refine jS (lv' := lv) (L' := L) (st' := st') (s' := cm_q s a j z) h1 h2 rfl rfl rfl hn ?_ ⟨hL, p4, jTg_o hc rfl rfl _, cm_cs_q hs p1, hd⟩ (hN _ _ _ hb)
    have e : vp_nar .char (Int32.ofInt z) = Int32.ofInt z := cm_nar_c hz
    show am_row (cm_mix lo hi s h0) a _ = _
    unfold am_row
    rw [g3, cm_cell_r (by omega)]
    show (if (cm_rk a == 1 && am_ok (Int32.ofInt j) (cm_rn a).toNat) = true then some (pc + 1, L, st'.map cm_v, (cm_mix lo hi s h0).set a (.inl (cm_rk a, (cm_rn a).toNat, .inl (upd (fun i => Int32.ofInt (s.2 a (i : Int))) (Int32.ofInt j).toNatClampNeg (vp_nar .char (Int32.ofInt z)))))) else none) = _
    rw [if_pos (by rw [hr, cm_okix hj.1 (by omega) (by omega)]; rfl), cm_clamp hj.1 (by omega), e, cm_mix_set g1 g2 hh (s' := cm_q s a j z) (cm_cell_q (by omega) hj.1) (fun b hb => cm_cell_qb hb)]
    rfl
  | bastore =>
    obtain rfl : i = .bastore := of_decide_eq_true hk
    replace hb := cm_rii_eq hb
    obtain ⟨a, j, z, st', rfl, hb⟩ := hb
    obtain ⟨p1, p2⟩ := List.forall_mem_cons.mp hS
    obtain ⟨p2, p3⟩ := List.forall_mem_cons.mp p2
    obtain ⟨p3, p4⟩ := List.forall_mem_cons.mp p3
    replace hb := cm_if_eq hb
    obtain ⟨hr, hb⟩ := hb
    replace hb := cm_if_eq hb
    obtain ⟨hj, hb⟩ := hb
    obtain ⟨hz, hb⟩ := cm_if_eq hb
    obtain ⟨g1, g2, g3⟩ := j_row (s := s) hh hhi p3 (by omega : cm_rk a ≠ 99)
    obtain ⟨r1, r2⟩ := cm_rn_f (a := a) (by omega)
    refine jS (lv' := lv) (L' := L) (st' := st') (s' := cm_q s a j z) h1 h2 rfl rfl rfl hn ?_ ⟨hL, p4, jTg_o hc rfl rfl _, cm_cs_q hs p1, hd⟩ (hN _ _ _ hb)
    have e : vp_nar (am_aty (cm_rk a)) (Int32.ofInt z) = Int32.ofInt z := by rw [hr]; exact cm_nar_z hz
    show am_row (cm_mix lo hi s h0) a _ = _
    unfold am_row
    rw [g3, cm_cell_r (by omega)]
    show (if ((cm_rk a == 2 || cm_rk a == 3) && am_ok (Int32.ofInt j) (cm_rn a).toNat) = true then some (pc + 1, L, st'.map cm_v, (cm_mix lo hi s h0).set a (.inl (cm_rk a, (cm_rn a).toNat, .inl (upd (fun i => Int32.ofInt (s.2 a (i : Int))) (Int32.ofInt j).toNatClampNeg (vp_nar (am_aty (cm_rk a)) (Int32.ofInt z)))))) else none) = _
    rw [if_pos (by rw [hr, cm_okix hj.1 (by omega) (by omega)]; rfl), cm_clamp hj.1 (by omega), e, cm_mix_set g1 g2 hh (s' := cm_q s a j z) (cm_cell_q (by omega) hj.1) (fun b hb => cm_cell_qb hb)]
    rfl
  | sastore =>
    have hk : jbs i = true := hk
    unfold jbs at hk
    obtain rfl : i = .bastore := by
      split at hk
      · rfl
      · cases hk
    replace hb := cm_rii_eq hb
    obtain ⟨a, j, z, st', rfl, hb⟩ := hb
    obtain ⟨p1, p2⟩ := List.forall_mem_cons.mp hS
    obtain ⟨p2, p3⟩ := List.forall_mem_cons.mp p2
    obtain ⟨p3, p4⟩ := List.forall_mem_cons.mp p3
    replace hb := cm_if_eq hb
    obtain ⟨hr, hb⟩ := hb
    replace hb := cm_if_eq hb
    obtain ⟨hj, hb⟩ := hb
    obtain ⟨hz, hb⟩ := cm_if_eq hb
    obtain ⟨g1, g2, g3⟩ := j_row (s := s) hh hhi p3 (by omega : cm_rk a ≠ 99)
    obtain ⟨r1, r2⟩ := cm_rn_f (a := a) (by omega)
    refine jS (lv' := lv) (L' := L) (st' := st') (s' := cm_q s a j z) h1 h2 rfl rfl rfl hn ?_ ⟨hL, p4, jTg_o hc rfl rfl _, cm_cs_q hs p1, hd⟩ (hN _ _ _ hb)
    have e : vp_nar (am_aty (cm_rk a)) (Int32.ofInt z) = Int32.ofInt z := by rw [hr]; exact cm_nar_y hz
    show am_row (cm_mix lo hi s h0) a _ = _
    unfold am_row
    rw [g3, cm_cell_r (by omega)]
    show (if ((cm_rk a == 2 || cm_rk a == 3) && am_ok (Int32.ofInt j) (cm_rn a).toNat) = true then some (pc + 1, L, st'.map cm_v, (cm_mix lo hi s h0).set a (.inl (cm_rk a, (cm_rn a).toNat, .inl (upd (fun i => Int32.ofInt (s.2 a (i : Int))) (Int32.ofInt j).toNatClampNeg (vp_nar (am_aty (cm_rk a)) (Int32.ofInt z)))))) else none) = _
    rw [if_pos (by rw [hr, cm_okix hj.1 (by omega) (by omega)]; rfl), cm_clamp hj.1 (by omega), e, cm_mix_set g1 g2 hh (s' := cm_q s a j z) (cm_cell_q (by omega) hj.1) (fun b hb => cm_cell_qb hb)]
    rfl
  | invokevirtual _ => cases hnc
  | invokespecial _ => cases hnc
  | invokestatic _ => cases hnc
  | saload => cases hnc
  | arraylength => cases hnc
  | i2s => cases hnc
  | _ => cases hk
end JOIN2
