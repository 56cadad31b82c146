/-! ===== one call: from the law's entry to its end ===== -/
section AM25
variable {ro : Nat → Option (Nat × (Nat → Int32))}
theorem am_lg_tr {pc1 : Nat} {lv1 : am_L} {st1 : List Value} {h1 : List va_E} {r : am_F × Nat × Nat} {n2 : Nat} (h2 : am_lg ro n2 pc1 lv1 st1 h1 = some r) : ∀ (n pc : Nat) (lv : am_L) (st : List Value) (h : List va_E), am_lg ro n pc lv st h = some ((pc1, lv1, st1, h1), 0, 0) → am_lg ro (n2 + n) pc lv st h = some r := by
  intro n
  induction n with
  | zero => intro pc lv st h e; cases e; exact h2
  | succ n ih =>
    intro pc lv st h e
    obtain ⟨q, hq, e2⟩ := Option.bind_eq_some_iff.mp e
    obtain ⟨q2, hq2, e3⟩ := Option.bind_eq_some_iff.mp e2
    obtain ⟨f, a, b⟩ := q
    obtain ⟨f2, a2, b2⟩ := q2
    simp only [Option.some.injEq, Prod.mk.injEq, Nat.add_eq_zero_iff] at e3
    obtain ⟨rfl, ⟨rfl, rfl⟩, rfl, rfl⟩ := e3
    have := ih _ _ _ _ hq2
    show (am_one _ _ _ _ _ _ pc lv st h).bind _ = _
    rw [show am_one _ _ _ _ _ _ pc lv st h = _ from hq, Option.bind_some]
    show (am_seg _ _ _ _ _ _ (n2 + n) f.1 f.2.1 f.2.2.1 f.2.2.2).bind _ = _
    rw [show am_seg _ _ _ _ _ _ (n2 + n) f.1 f.2.1 f.2.2.1 f.2.2.2 = _ from this]
    simp
theorem am_lgo_tr {pc pc1 : Nat} {lv lv1 : am_L} {st st1 : List Value} {h h1 : List va_E} {r : am_F × Nat × Nat} (e1 : am_lgo ro pc lv st h ((pc1, lv1, st1, h1), 0, 0)) (e2 : am_lgo ro pc1 lv1 st1 h1 r) : am_lgo ro pc lv st h r := by
  obtain ⟨n, e1⟩ := e1
  obtain ⟨n2, e2⟩ := e2
  exact ⟨n2 + n, am_lg_tr e2 n pc lv st h e1⟩
end AM25
theorem am_and7 (v : Int32) : ∃ k, k < 8 ∧ v &&& (Int8.ofInt 7).toInt32 = Int32.ofNat k := by
  rw [show (Int8.ofInt 7).toInt32 = (7 : Int32) from by decide +kernel]
  refine ⟨(v &&& 7).toBitVec.toNat, ?_, ?_⟩
  · rw [Int32.toBitVec_and, BitVec.toNat_and]
    exact Nat.lt_succ_of_le (Nat.and_le_right (n := v.toBitVec.toNat) (m := 7))
  · apply Int32.toBitVec_inj.mp
    rw [Int32.toBitVec_ofNat', BitVec.ofNat_toNat, BitVec.setWidth_eq]
section AM26
variable {xs : Nat → Int32} {H : List va_E}
theorem am_short {L : Nat} (hL : L < 4) : am_lgo (am_roL L xs) 23 am_lv1 [] H ((356, am_lv1, [.int 1], H), 0, 0) := by
  match L, hL with

  | 0, _ =>
    refine am_lz1 am_qL_23 rfl ?_
    refine am_lz1 am_qL_25 rfl ?_
    refine am_lzl am_qL_26 rfl ?_
    refine am_lz1 am_qL_27 rfl ?_
    refine am_lz1 am_qL_28 rfl ?_
    refine am_lzi am_qL_29 (b := true) (t := 355) (by decide) (by decide) ?_
    refine am_lz1 am_qL_355 rfl ?_
    exact am_lz0
  | 1, _ =>
    refine am_lz1 am_qL_23 rfl ?_
    refine am_lz1 am_qL_25 rfl ?_
    refine am_lzl am_qL_26 rfl ?_
    refine am_lz1 am_qL_27 rfl ?_
    refine am_lz1 am_qL_28 rfl ?_
    refine am_lzi am_qL_29 (b := true) (t := 355) (by decide) (by decide) ?_
    refine am_lz1 am_qL_355 rfl ?_
    exact am_lz0
  | 2, _ =>
    refine am_lz1 am_qL_23 rfl ?_
    refine am_lz1 am_qL_25 rfl ?_
    refine am_lzl am_qL_26 rfl ?_
    refine am_lz1 am_qL_27 rfl ?_
    refine am_lz1 am_qL_28 rfl ?_
    refine am_lzi am_qL_29 (b := true) (t := 355) (by decide) (by decide) ?_
    refine am_lz1 am_qL_355 rfl ?_
    exact am_lz0
  | 3, _ =>
    refine am_lz1 am_qL_23 rfl ?_
    refine am_lz1 am_qL_25 rfl ?_
    refine am_lzl am_qL_26 rfl ?_
    refine am_lz1 am_qL_27 rfl ?_
    refine am_lz1 am_qL_28 rfl ?_
    refine am_lzi am_qL_29 (b := true) (t := 355) (by decide) (by decide) ?_
    refine am_lz1 am_qL_355 rfl ?_
    exact am_lz0
theorem am_full : am_lgo (am_roL 4 xs) 23 am_lv1 [] H ((39, am_lv1, [.int (xs 0 &&& (Int8.ofInt 7).toInt32)], H), 0, 0) := by
  refine am_lz1 am_qL_23 rfl ?_
  refine am_lz1 am_qL_25 rfl ?_
  refine am_lzl am_qL_26 rfl ?_
  refine am_lz1 am_qL_27 rfl ?_
  refine am_lz1 am_qL_28 rfl ?_
  refine am_lzi am_qL_29 (b := false) (t := 355) (by decide) (by decide) ?_
  refine am_lz1 am_qL_32 rfl ?_
  refine am_lz1 am_qL_33 rfl ?_
  refine am_lza am_qL_35 rfl (by decide) (k := 0) (by decide) ?_
  refine am_lz1 am_qL_36 rfl ?_
  refine am_lz1 am_qL_38 rfl ?_
  exact am_lz0

theorem am_sw {v : Int32} {k : Nat} (hk : k < 8) (e : v = Int32.ofNat k) : am_lgo (am_roL 4 xs) 39 am_lv1 [.int v] H (([80, 149, 193, 218, 286, 311, 336, 349].getD k 0, am_lv1, [], H), 0, 0) := by
  subst e
  match k, hk with
  | 0, _ =>
    refine am_lzw am_qL_39 (off := 41) (t := 80) (by decide) (by decide) (by decide) ?_
    exact am_lz0
  | 1, _ =>
    refine am_lzw am_qL_39 (off := 110) (t := 149) (by decide) (by decide) (by decide) ?_
    exact am_lz0
  | 2, _ =>
    refine am_lzw am_qL_39 (off := 154) (t := 193) (by decide) (by decide) (by decide) ?_
    exact am_lz0
  | 3, _ =>
    refine am_lzw am_qL_39 (off := 179) (t := 218) (by decide) (by decide) (by decide) ?_
    exact am_lz0
  | 4, _ =>
    refine am_lzw am_qL_39 (off := 247) (t := 286) (by decide) (by decide) (by decide) ?_
    exact am_lz0
  | 5, _ =>
    refine am_lzw am_qL_39 (off := 272) (t := 311) (by decide) (by decide) (by decide) ?_
    exact am_lz0
  | 6, _ =>
    refine am_lzw am_qL_39 (off := 297) (t := 336) (by decide) (by decide) (by decide) ?_
    exact am_lz0
  | 7, _ =>
    refine am_lzo am_qL_39 (t := 349) (by decide) (by decide) ?_
    exact am_lz0
end AM26
