theorem am_ws_nil (ad ct : Nat → Nat) : am_ws ad ct [] = [] := rfl
set_option maxHeartbeats 4000000 in
set_option maxRecDepth 100000 in
/-- ONE CALL: from the law's entry, for every script of at most four ints, to its end with true -/
theorem am_one_call {p : Program} {e : Env} {s : State} {m : MethodId} {below : List Frame} {meth : Method} {c : Code} (l : Launch) (hfl : ∀ e : Env, l.admits e → e.platform.stackTraces = false) {b L : Nat} {xs : Nat → Int32} (hL : L ≤ 4) (C0 : lw_At p s m meth c b L xs) : W p l e room_1 s m #[Value.ref b] below meth c s.heap [] 0 0 (lw_Z below #[Value.ref b] s) (entryFrame m ([Value.ref b] : List Value).toArray 7) := by
  obtain ⟨hx, hb, hr, hml, hown, hts, hX, hbl, hlocks, hgv⟩ := id C0
  obtain ⟨D, tys, ct, hTY, hK⟩ := am_startK hts
  obtain ⟨ak, hKX, hak0⟩ := am_startX b hts hgv
  have hA : ∀ q : Nat, s.heap.size ≤ q → (fun q : Nat => s.heap.size ≤ q) q := fun _ h => h
  have hT : ∀ w ∈ am_Ts, w.before #[Value.ref b] s = true := fun w hw => hts w (am_Ts_tbl hw)
  have hown2 : s.vm.findClass "ScriptFrontLaw" = some m.cls := hown
  have hfe : ∀ pc i, (fun pc => am_fL0.lookup pc) pc = some i → ∃ n, decode code pc = .ok (i, n) ∧ (am_len i ≠ 0 → n = am_len i) := fun pc i hi => am_chk_ok am_kL0 hi
  have hRO : ∀ ad : Nat → Nat, (∀ i, 1000 ≤ i → ad i = ak i) → am_RO (am_roL L xs) ad (fun q => s.heap.size ≤ q) s := by
    intro ad ha a n f hro
    unfold am_roL at hro
    split at hro
    · next ea =>
      cases hro
      subst ea
      rw [ha 2000 (by decide), hak0]
      obtain ⟨scr, x1, x2, x3, x4, x5⟩ := hX
      exact ⟨scr, x1, x2, x3, by rw [x4]; exact Nat.le_refl _, by rw [x4], x5, Nat.not_le.mpr hbl⟩
    · cases hro
  have hmN := am_ML (l := l) (R := room_1) (meth := meth) (d := 40) (ro := fun _ => none) (fetch := fun pc => am_fL0.lookup pc) (A := fun q => s.heap.size ≤ q) (fun w h => h) hTY hx hb hml hT hown2 hlocks hr hK hKX hA (fun _ _ _ _ _ z => (by cases z)) hfe (by decide) (by decide)
  have hmL := am_ML (l := l) (R := room_1) (meth := meth) (d := 40) (ro := am_roL L xs) (fetch := fun pc => am_fL0.lookup pc) (A := fun q => s.heap.size ≤ q) (fun w h => h) hTY hx hb hml hT hown2 hlocks hr hK hKX hA hRO hfe (by decide) (by decide)
  have hrun : ∀ y as h v h' nc ns, am_all am_thr 3000 40 y as h = some (.inl v, h', nc, ns) → ∀ (ad : Nat → Nat) (sz : Nat), Met l (am_nm y) (am_wM y) (am_rm 40 nc ns) (am_Pre D am_cl ct tys ak (am_KX ak) ad h sz as) (am_Post D am_cl ct tys (am_X am_xn) ad h.length (va_A (am_ws ad ct h) sz) (.inl v) h' nc) nc ns (va_A (am_ws ad ct h) sz) := fun y as h v h' nc ns hr ad sz => am_meetsB hTY hr ad sz
  obtain ⟨H1, e1, hH⟩ := am_s1e
  have hG := am_Hx e1 am_ckGd
  have hPp := am_Hx e1 am_ckPd
  have hlen : H1.length = 73 := by
    obtain ⟨_, _, _, _, _, _, hln, -⟩ := am_H1f hH
    exact hln
  -- the end
  have fin : ∀ (Hh : Heap) (locs : List Loc) (cells slots : Nat) (ls : Array Slot), va_S (fun q => s.heap.size ≤ q) s.heap Hh locs → cells ≤ 601024 → slots ≤ 7293034 → W p l e room_1 s m #[Value.ref b] below meth c Hh locs cells slots (lw_Z below #[Value.ref b] s) (F0 m 356 ls [.int 1]) := fun Hh locs cells slots ls hS h1 h2 => va_forget (fun q hq => hS.2.2 q hq) (W.widen (k := 601024) (n := 7293034) h1 h2 (lw_ret hx hb hr hlocks (by decide +kernel)))
  -- a road to the end
  have road : ∀ {pc : Nat} {lv lv' : am_L} {st : List Value} {h h' : List va_E}, am_lgo (am_roL L xs) pc lv st h ((356, lv', [.int 1], h'), 0, 0) → ∀ (ad : Nat → Nat) (Hh : Heap) (locs : List Loc) (cells slots : Nat) (ls : Array Slot), cells ≤ 601024 → slots ≤ 7293034 → va_P D am_cl (am_ws ad ct h) Hh → va_D (fun q => s.heap.size ≤ q) (am_ws ad ct h) → va_S (fun q => s.heap.size ≤ q) s.heap Hh locs → lv_has ls 7 (am_lv ad lv) → (∀ i, 1000 ≤ i → ad i = ak i) → W p l e room_1 s m #[Value.ref b] below meth c Hh locs cells slots (lw_Z below #[Value.ref b] s) (F0 m pc ls (st.map (am_tv ad))) := by
    intro pc lv lv' st h h' hg ad Hh locs cells slots ls hc hs hP hD hS hl hak
    obtain ⟨n, hg⟩ := hg
    exact am_seg_W (X := am_X am_xn) hmL hrun n pc lv st h 0 0 hg ad Hh locs cells slots ls hc hs hP hD hS hl hak (fun ad1 H2 locs1 ls1 _ _ _ _ _ hS1 _ _ => fin H2 locs1 cells slots ls1 hS1 hc hs)
  have hl := lv_entry [Value.ref b] (n := 7) (Nat.le_of_ble_eq_true rfl)
  rw [lg_entry_eq]
  generalize (lg_sl [Value.ref b] ++ List.replicate (7 - (lg_sl [Value.ref b]).length) Slot.unset).toArray = ls at hl ⊢
  have hl0 : lv_has ls 7 (am_lv ak [(0, .ref 2000)]) := by
    have e0 : am_lv ak [(0, .ref 2000)] = lv_args 0 [Value.ref b] := by
      show [(0, Value.ref (ak 2000))] = _
      rw [hak0]
      rfl
    rw [e0]
    exact hl
  refine am_seg_W (X := am_X am_xn) hmN hrun 13 0 [(0, .ref 2000)] [] [] 73 35900 e1 ak s.heap [] 0 0 ls (by decide) (by decide) (fun k q hq => by rw [am_ws_nil] at hq; cases hq) ⟨fun i j x y hx => (by rw [am_ws_nil] at hx; cases hx), fun k q hq => by rw [am_ws_nil] at hq; cases hq⟩ va_S.rf hl0 (fun _ _ => rfl) (fun ad1 Hh locs1 ls1 ha hz hle hP1 hD1 hS1 hl1 hak1 => ?_)
  rw [Nat.zero_add, Nat.zero_add]
  rcases Nat.lt_or_ge L 4 with h4 | h4
  · exact road (am_short h4) ad1 Hh locs1 73 35900 ls1 (by decide) (by decide) hP1 hD1 hS1 hl1 hak1
  · have hL4 : L = 4 := by omega
    subst hL4
    obtain ⟨k, hk, ek⟩ := am_and7 (xs 0)
    have hsw := am_lgo_tr (am_full (xs := xs) (H := H1)) (am_sw (xs := xs) (H := H1) hk ek)
    match k, hk, hsw with
    | 0, _, hsw =>
      obtain ⟨h', -, hg⟩ := am_k0 (xs := xs) hH
      obtain ⟨lv', hx2⟩ := am_lexit (xs := xs) (h := h') [] (Or.inl rfl)
      exact road (am_lgo_tr hsw (am_lgo_tr hg hx2)) ad1 Hh locs1 73 35900 ls1 (by decide) (by decide) hP1 hD1 hS1 hl1 hak1
    | 2, _, hsw =>
      obtain ⟨h', -, hg⟩ := am_k2 (xs := xs) hH
      obtain ⟨lv', hx2⟩ := am_lexit (xs := xs) (h := h') [] (Or.inl rfl)
      exact road (am_lgo_tr hsw (am_lgo_tr hg hx2)) ad1 Hh locs1 73 35900 ls1 (by decide) (by decide) hP1 hD1 hS1 hl1 hak1
    | 4, _, hsw =>
      obtain ⟨h', -, hg⟩ := am_k4 (xs := xs) hH
      obtain ⟨lv', hx2⟩ := am_lexit (xs := xs) (h := h') [] (Or.inl rfl)
      exact road (am_lgo_tr hsw (am_lgo_tr hg hx2)) ad1 Hh locs1 73 35900 ls1 (by decide) (by decide) hP1 hD1 hS1 hl1 hak1
    | 5, _, hsw =>
      obtain ⟨h', -, hg⟩ := am_k5 (xs := xs) hH
      obtain ⟨lv', hx2⟩ := am_lexit (xs := xs) (h := h') [] (Or.inl rfl)
      exact road (am_lgo_tr hsw (am_lgo_tr hg hx2)) ad1 Hh locs1 73 35900 ls1 (by decide) (by decide) hP1 hD1 hS1 hl1 hak1
    | 6, _, hsw =>
      obtain ⟨h', -, hg⟩ := am_k6 (xs := xs) hH hG
      obtain ⟨lv', hx2⟩ := am_lexit (xs := xs) (h := h') [] (Or.inl rfl)
      exact road (am_lgo_tr hsw (am_lgo_tr hg hx2)) ad1 Hh locs1 73 35900 ls1 (by decide) (by decide) hP1 hD1 hS1 hl1 hak1
    | 7, _, hsw =>
      obtain ⟨lv', hx2⟩ := am_lexit (xs := xs) (h := H1) [] (Or.inl rfl)
      exact road (am_lgo_tr hsw hx2) ad1 Hh locs1 73 35900 ls1 (by decide) (by decide) hP1 hD1 hS1 hl1 hak1
    | 1, _, hsw =>
      obtain ⟨h1, h2, g1, g2⟩ := am_k1 hPp
      obtain ⟨n1, hg⟩ := am_lgo_tr hsw (am_k1a (xs := xs))
      refine am_seg_W (X := am_X am_xn) hmL hrun n1 23 am_lv1 [] H1 0 0 hg ad1 Hh locs1 73 35900 ls1 (by decide) (by decide) hP1 hD1 hS1 hl1 hak1 (fun ad2 Hh2 locs2 ls2 ha2 hz2 hle2 hP2 hD2 hS2 hl2 hak2 => ?_)
      refine am_callW (X := am_X am_xn) (y := am_yL3) (index := 32) (n := 2) (w := ([.ref 0, .ref 72], [])) hx hb hml hT hown2 hK (am_KX_ok ak) rfl am_gL3 (by decide +kernel) (by decide) rfl (by decide) (am_c3R hTY g1 ad2 Hh2.size) (by decide) (by decide) (by decide) (by decide +kernel) hl2.1 hP2 hD2 hS2 hA hak2 hKX (fun ad3 Hh3 locs3 ha3 hz3 hP3 hD3 hS3 => ?_)
      have ez := hz3 rfl
      subst ez
      refine am_seg_W (X := am_X am_xn) hmN hrun 18 154 am_lv1 [.int 0] h1 0 0 g2 ad3 Hh3 locs3 73 35900 ls2 (by decide) (by decide) hP3 hD3 hS3 hl2 hak2 (fun ad4 Hh4 locs4 ls4 ha4 hz4 hle4 hP4 hD4 hS4 hl4 hak4 => ?_)
      obtain ⟨lv', hx2⟩ := am_lexit (xs := xs) (h := h2) [(6, .int 1), (5, .int 0)] (Or.inr ⟨1, 0, rfl⟩)
      exact road hx2 ad4 Hh4 locs4 73 35900 ls4 (by decide) (by decide) hP4 hD4 hS4 hl4 hak4
    | 3, _, hsw =>
      obtain ⟨r1, r2⟩ := am_k3c (xs := xs) hH
      obtain ⟨n1, hg⟩ := am_lgo_tr hsw (am_k3a (xs := xs))
      refine am_seg_W (X := am_X am_xn) hmL hrun n1 23 am_lv1 [] H1 0 0 hg ad1 Hh locs1 73 35900 ls1 (by decide) (by decide) hP1 hD1 hS1 hl1 hak1 (fun ad2 Hh2 locs2 ls2 ha2 hz2 hle2 hP2 hD2 hS2 hl2 hak2 => ?_)
      refine am_callW (X := am_X am_xn) (y := am_yL4) (index := 46) (n := 4) (w := ([.ref 0, .int (xs 1), .int (xs 2), .ref 72], [])) hx hb hml hT hown2 hK (am_KX_ok ak) rfl am_gL4 (by decide +kernel) (by decide) rfl (Nat.le_of_ble_eq_true rfl) (am_c4T hfl hTY r1 r2 ad2 Hh2.size) (by decide) (by decide) (by decide) (by decide +kernel) hl2.1 hP2 hD2 hS2 hA hak2 hKX (fun ad3 Hh3 locs3 ha3 hz3 hP3 hD3 hS3 => ?_)
      have hlv : am_lv ad3 am_lv1 = am_lv ad2 am_lv1 := am_lv_old ha3 (by rw [hlen]; decide)
      obtain ⟨h', hg2⟩ := am_k3b (xs := xs) hH
      obtain ⟨lv', hx2⟩ := am_lexit (xs := xs) (h := h') [(6, .int 0), (5, .int 1)] (Or.inr ⟨0, 1, rfl⟩)
      exact road (am_lgo_tr hg2 hx2) ad3 Hh3 locs3 74 35906 ls2 (by decide) (by decide) hP3 hD3 hS3 (by rw [hlv]; exact hl2) (fun i hi => (ha3 i (Or.inr hi)).trans (hak2 i hi))
