theorem am_ws_nil (ad ct : Nat → Nat) : am_ws ad ct [] = [] := rfl
set_option maxHeartbeats 4000000 in
set_option maxRecDepth 100000 in
/-- FROM THE LAW'S ENTRY, for every script of at most 2048 ints, to its end with true -/
theorem lw_whole {p : Program} {e : Env} {s : State} {m : MethodId} {below : List Frame} {meth : Method} {c : Code} (l : Launch) (hfl : ∀ e : Env, l.admits e → e.platform.stackTraces = false) {b L : Nat} {xs : Nat → Int32} (hL : L ≤ 2048) (C0 : lw_At p s m meth c b L xs) : W p l e room_1 s m #[Value.ref b] below meth c s.heap [] 0 0 (lw_Z below #[Value.ref b] s) (entryFrame m ([Value.ref b] : List Value).toArray 7) := by
  obtain ⟨hx, hb, hr, hml, hown, hts, hX, hbl, hlocks, hgv⟩ := id C0
  obtain ⟨D, tys, ct, hTY, hK⟩ := am_startK hts
  obtain ⟨ak, hKY, hak0⟩ := am_startY b hts hgv
  have hKX := hKY.1
  have hA : ∀ q : Nat, s.heap.size ≤ q → (fun q : Nat => s.heap.size ≤ q) q := fun _ h => h
  have hT : ∀ w ∈ am_Ts, w.before #[Value.ref b] s = true := fun w hw => hts w (am_Ts_tbl hw)
  have hown2 : s.vm.findClass "ScriptFrontLaw" = some m.cls := hown
  have hfe : ∀ pc i, (fun pc => am_fL0.lookup pc) pc = some i → ∃ n, decode code pc = .ok (i, n) ∧ (am_len i ≠ 0 → n = am_len i) := fun pc i hi => am_chk_ok am_kL0 hi
  have hRO : ∀ ad : Nat → Nat, (∀ i, 1000 ≤ i → ad i = ak i) → am_RO (am_roL L xs) ad (fun q => s.heap.size ≤ q) s := by
    intro ad ha a n f hro
    unfold am_roL at hro
    split at hro
    · next ea =>
      cases hro
      subst ea
      rw [ha 2000 (by decide), hak0]
      obtain ⟨scr, x1, x2, x3, x4, x5⟩ := hX
      exact ⟨scr, x1, x2, x3, by rw [x4]; exact Nat.le_refl _, by rw [x4], x5, Nat.not_le.mpr hbl⟩
    · cases hro
  have hmN := am_ML (l := l) (R := room_1) (meth := meth) (d := 40) (ro := fun _ => none) (fetch := fun pc => am_fL0.lookup pc) (A := fun q => s.heap.size ≤ q) (fun w h => h) hTY hx hb hml hT hown2 hlocks hr hK hKX hA (fun _ _ _ _ _ z => (by cases z)) hfe (by decide) (by decide)
  have hrun : ∀ y as h v h' nc ns, am_all am_thr 3000 40 y as h = some (.inl v, h', nc, ns) → ∀ (ad : Nat → Nat) (sz : Nat), Met l (am_nm y) (am_wM y) (am_rm 40 nc ns) (am_Pre D am_cl ct tys ak (am_KX ak) ad h sz as) (am_Post D am_cl ct tys (am_X am_xn) ad h.length (va_A (am_ws ad ct h) sz) (.inl v) h' nc) nc ns (va_A (am_ws ad ct h) sz) := fun y as h v h' nc ns hr ad sz => am_meetsB hTY hr ad sz
  obtain ⟨H1, e1, hH⟩ := am_s1e
  have hS1 := am_Hx e1 ckS_d
  obtain ⟨hO, htwo⟩ := st_two hS1
  have hC : LC p l s m meth c b L xs D tys ct ak := ⟨hx, hb, hr, hml, hown2, hlocks, hT, hK, hKY, hTY, hRO, hfl⟩
  have hl := lv_entry [Value.ref b] (n := 7) (Nat.le_of_ble_eq_true rfl)
  rw [lg_entry_eq]
  generalize (lg_sl [Value.ref b] ++ List.replicate (7 - (lg_sl [Value.ref b]).length) Slot.unset).toArray = ls at hl ⊢
  have hl0 : lv_has ls 7 (am_lv ak [(0, .ref 2000)]) := by
    have e0 : am_lv ak [(0, .ref 2000)] = lv_args 0 [Value.ref b] := by
      show [(0, Value.ref (ak 2000))] = _
      rw [hak0]
      rfl
    rw [e0]
    exact hl
  refine am_seg_W (X := am_X am_xn) hmN hrun 13 0 [(0, .ref 2000)] [] [] 73 35900 e1 ak s.heap [] 0 0 ls (by decide) (by decide) (fun k q hq => by rw [am_ws_nil] at hq; cases hq) ⟨fun i j x y hx => (by rw [am_ws_nil] at hx; cases hx), fun k q hq => by rw [am_ws_nil] at hq; cases hq⟩ va_S.rf hl0 (fun _ _ => rfl) (fun ad1 Hh locs1 ls1 ha hz hle hP1 hD1 hS1 hl1 hak1 => ?_)
  rw [Nat.zero_add, Nat.zero_add]
  obtain ⟨hP2, hD2⟩ := htwo hP1 hD1
  have hloop := lw_loop (e := e) (below := below) hC hL (L / 4) 0 z0 z0 H1 ⟨FI_z0, z0_cs.1, z0_cs.2, hO⟩ (by omega) (by omega)
  exact hloop ad1 Hh locs1 73 35900 ls1 (by omega) (by omega) hP2 hD2 hS1 hl1 hak1
