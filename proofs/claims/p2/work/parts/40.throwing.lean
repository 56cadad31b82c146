def am_thrT : List ((Nat × Nat) × Nat) := [((34, 10), 0), ((169, 15), 1), ((169, 126), 1)]
def am_thr (y pc : Nat) : Option Nat := am_thrT.lookup (y, pc)
def am_xn (ex : Nat) : String := match ex with
  | 0 => "java/lang/IllegalArgumentException"
  | _ => "java/lang/IndexOutOfBoundsException"
theorem am_row5 {y pc : Nat} {i : Instr} (hy : am_okm y) (h : am_fc y pc = some i) (n : Nat) (hn : am_len i = n) (h0 : n ≠ 0) : decode (am_bt y) pc = .ok (i, n) := by
  obtain ⟨m, h1, h2⟩ := am_chk_ok (am_hD y hy) h
  rw [h1, h2 (by rw [hn]; exact h0), hn]
theorem am_stAt {y pc ex ix k ic pc0 pI pC a0 : Nat} {ps : List Nat} (hy : am_okm y) (r0 : am_fc y pc = some (.new ix)) (r1 : am_fc y (pc + 3) = some .dup) (r2 : am_fc y (pc + 4) = some (.ldc k)) (r3 : am_fc y (pc + 6) = some (.invokespecial ic)) (r4 : am_fc y (pc + 9) = some .athrow)
    (c0 : am_at pc0 (.classLink (am_nm y).cls ix (am_xn ex)) = true) (c1 : am_at pC (.instantiable (am_xn ex) 6) = true) (c2 : am_at pI (.initialized (am_xn ex)) = true) (hk : am_kc (am_co y) k = some (.ref a0)) (hf : Bundle.fit (am_xn ex) = true) (ho : am_owck (am_nm y).cls ic (am_xn ex) ps = true)
    {ak : Nat → Nat} {A : Nat → Prop} {s : State} {args : Array Value} (hts : ∀ w ∈ am_wM y, w.before args s = true) (hK : am_KX ak A s) : am_ST am_xn (am_nm y).cls (am_bt y) (am_wM y) args s pc ex := by
  have hT := am_wM_in y
  obtain ⟨-, -, -, h4⟩ := am_ckM_ok (am_hM y hy)
  have hkc := am_KCok (am_co y) (ad := ak) hT hK.1.1 (fun _ _ => rfl) k (.ref a0) hk
  rw [h4] at hkc
  rcases hkc with ⟨x, hx, -⟩ | ⟨a, tx, ha, hv⟩
  · cases hx
  · exact ⟨ix, k, ic, am_nmS, tx, _, am_row5 hy r0 3 rfl (by decide), am_row5 hy r1 1 rfl (by decide), am_row5 hy r2 2 rfl (by decide), am_row5 hy r3 3 rfl (by decide), am_row5 hy r4 1 rfl (by decide), hT _ (am_at_in c0), hT _ (am_at_in c1), hT _ (am_at_in c2), hv, hf, by decide +kernel, am_ow_ok ho hT hts hK, by decide⟩
