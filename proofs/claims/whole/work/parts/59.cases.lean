/-! ===== the law's roads behind its switch, one call on new objects ===== -/
theorem am_H1f {H : List va_E} (hH : am_ckH H = true) : ∃ (f0 f6 f8 f9 : List Value) (g2 g45 : Nat → Int32), H.length = 73 ∧ H[0]? = some (.inr (0, f0)) ∧ f0[0]? = some (.ref 1) ∧ f0[1]? = some (.ref 3) ∧ f0[5]? = some (.ref 37) ∧ f0[6]? = some (.ref 18) ∧ H[3]? = some (.inr (2, [.int 0, .int (-1), .int 0])) ∧ H[18]? = some (.inr (6, f6)) ∧ f6[8]? = some (.int 0) ∧ H[37]? = some (.inr (8, f8)) ∧ f8[6]? = some (.int 0) ∧ H[41]? = some (.inr (9, f9)) ∧ f9[3]? = some (.int 0) ∧ f9[4]? = some (.ref 45) ∧ f9[6]? = some (.int (Int32.ofNat 0)) ∧ f9[8]? = some (.int 0) ∧ f9[9]? = some (.int (-1)) ∧ f9[10]? = some (.int 0) ∧ f9[43]? = some (.int 0) ∧ f9[48]? = some (.int 0) ∧ H[2]? = some (.inl (1, 480, .inl g2)) ∧ H[45]? = some (.inl (3, 480, .inl g45)) ∧ H[1]? = some (.inr (1, [.ref 2, .int (Int32.ofNat 0), .int 0])) := by
  have h := hH
  unfold am_ckH at h
  simp only [Bool.and_eq_true, decide_eq_true_eq] at h
  obtain ⟨h1, h2, h3, h4, h5, h6, h7, h8, h9, h10⟩ := h
  obtain ⟨f0, a0, b0⟩ := am_isO_eq h2
  obtain ⟨f6, a6, b6⟩ := am_isO_eq h4
  obtain ⟨f8, a8, b8⟩ := am_isO_eq h5
  obtain ⟨f9, a9, b9⟩ := am_isO_eq h6
  obtain ⟨g2, c2⟩ := am_isA_eq h7
  obtain ⟨g45, c45⟩ := am_isA_eq h8
  have ob : ∀ {i : Nat} {o : Nat × List Value}, am_ob H i = some o → H[i]? = some (.inr o) := by
    intro i o ho
    unfold am_ob at ho
    split at ho
    · next o2 hz => cases ho; exact hz
    · cases ho
  exact ⟨f0, f6, f8, f9, g2, g45, h1, a0, b0 (0, .ref 1) (by simp), b0 (1, .ref 3) (by simp), b0 (5, .ref 37) (by simp), b0 (6, .ref 18) (by simp), ob h10, a6, b6 (8, .int 0) (by simp), a8, b8 (6, .int 0) (by simp), a9, b9 (3, .int 0) (by simp), b9 (4, .ref 45) (by simp), b9 (6, .int 0) (by simp), b9 (8, .int 0) (by simp), b9 (9, .int (-1)) (by simp), b9 (10, .int 0) (by simp), b9 (43, .int 0) (by simp), b9 (48, .int 0) (by simp), c2, c45, ob h9⟩
section AM23
variable {xs : Nat → Int32}
/-- out of the loop -/
theorem am_lexit {h : List va_E} (lr : am_L) (hlr : lr = [] ∨ ∃ a b : Int32, lr = [(6, .int a), (5, .int b)]) : ∃ lv', am_lgo (am_roL 4 xs) 349 (lr ++ am_lv1) [] h ((356, lv', [.int 1], h), 0, 0) := by
  rcases hlr with rfl | ⟨a, b, rfl⟩
  · apply Exists.intro
    refine am_lz1 am_qL_349 rfl ?_
    refine am_lzj am_qL_352 (t := 23) (by decide) ?_
    refine am_lz1 am_qL_23 rfl ?_
    refine am_lz1 am_qL_25 rfl ?_
    refine am_lzl am_qL_26 rfl ?_
    refine am_lz1 am_qL_27 rfl ?_
    refine am_lz1 am_qL_28 rfl ?_
    refine am_lzi am_qL_29 (b := true) (t := 355) (by decide) (by decide) ?_
    refine am_lz1 am_qL_355 rfl ?_
    exact am_lz0
  · apply Exists.intro
    refine am_lz1 am_qL_349 rfl ?_
    refine am_lzj am_qL_352 (t := 23) (by decide) ?_
    refine am_lz1 am_qL_23 rfl ?_
    refine am_lz1 am_qL_25 rfl ?_
    refine am_lzl am_qL_26 rfl ?_
    refine am_lz1 am_qL_27 rfl ?_
    refine am_lz1 am_qL_28 rfl ?_
    refine am_lzi am_qL_29 (b := true) (t := 355) (by decide) (by decide) ?_
    refine am_lz1 am_qL_355 rfl ?_
    exact am_lz0

theorem am_k2 {H : List va_E} (hH : am_ckH H = true) : ∃ h', h'.length = 73 ∧ am_lgo (am_roL 4 xs) 193 am_lv1 [] H ((349, am_lv1, [], h'), 0, 0) := by
  obtain ⟨f0, f6, f8, f9, g2, g45, hln, o0, p0, p1, p5, p6, o3, o18, q8, o37, r6, o41, s3, s4, s6, s8, s9, s10, s43, s48, o2, o45, o1⟩ := am_H1f hH
  refine ⟨H.set 41 (.inr (9, f9.set 3 (.int 0))), by rw [List.length_set]; exact hln, ?_⟩
  refine am_lz1 am_qL_193 rfl ?_
  refine am_lz1 am_qL_194 rfl ?_
  refine am_lz1 am_qL_195 rfl ?_
  refine am_lz1 am_qL_197 rfl ?_
  refine am_lz1 am_qL_198 rfl ?_
  refine am_lza am_qL_199 rfl (by decide) (k := 1) (by decide) ?_
  refine am_lzc am_qL_200 (w := ([.ref 0, .int (xs 1)], [])) rfl (by unfold am_rcv; simp only [o0]; rfl) (am_rFlt o0 p1 o3) (Nat.le_refl _) ?_
  refine am_lz1 am_qL_203 rfl ?_
  refine am_lz1 am_qL_204 rfl ?_
  refine am_lz1 am_qL_205 rfl ?_
  refine am_lz1 am_qL_207 rfl ?_
  refine am_lz1 am_qL_208 rfl ?_
  refine am_lza am_qL_209 rfl (by decide) (k := 1) (by decide) ?_
  refine am_lzc am_qL_210 (w := ([.ref 41, .int (xs 1)], [.int (am_fv 0 (-1) 0 (xs 1))])) rfl (by unfold am_rcv; simp only [o41]; rfl) (am_rMFlt o41 s3 s8 s9 s10) (by rw [List.length_set]; exact Nat.le_refl _) ?_
  refine am_lzi am_qL_213 (b := true) (t := 349) (decide_eq_true rfl) (by decide) ?_
  exact am_lz0

theorem am_k4 {H : List va_E} (hH : am_ckH H = true) : ∃ h', h'.length = 73 ∧ am_lgo (am_roL 4 xs) 286 am_lv1 [] H ((349, am_lv1, [], h'), 0, 0) := by
  obtain ⟨f0, f6, f8, f9, g2, g45, hln, o0, p0, p1, p5, p6, o3, o18, q8, o37, r6, o41, s3, s4, s6, s8, s9, s10, s43, s48, o2, o45, o1⟩ := am_H1f hH
  refine ⟨H.set 41 (.inr (9, f9.set 3 (.int 0))), by rw [List.length_set]; exact hln, ?_⟩
  refine am_lz1 am_qL_286 rfl ?_
  refine am_lz1 am_qL_287 rfl ?_
  refine am_lz1 am_qL_288 rfl ?_
  refine am_lz1 am_qL_290 rfl ?_
  refine am_lz1 am_qL_291 rfl ?_
  refine am_lza am_qL_292 rfl (by decide) (k := 1) (by decide) ?_
  refine am_lzc am_qL_293 (w := ([.ref 0, .int (xs 1)], [])) rfl (by unfold am_rcv; simp only [o0]; rfl) (am_rMny0 o0 p6 o18 q8) (Nat.le_refl _) ?_
  refine am_lz1 am_qL_296 rfl ?_
  refine am_lz1 am_qL_297 rfl ?_
  refine am_lz1 am_qL_298 rfl ?_
  refine am_lz1 am_qL_300 rfl ?_
  refine am_lz1 am_qL_301 rfl ?_
  refine am_lza am_qL_302 rfl (by decide) (k := 1) (by decide) ?_
  refine am_lzc am_qL_303 (w := ([.ref 41, .int (xs 1)], [.int 0])) rfl (by unfold am_rcv; simp only [o41]; rfl) (am_rMMny0 o41 s3 s43) (by rw [List.length_set]; exact Nat.le_refl _) ?_
  refine am_lzi am_qL_306 (b := true) (t := 349) (by decide) (by decide) ?_
  exact am_lz0

theorem am_k5 {H : List va_E} (hH : am_ckH H = true) : ∃ h', h'.length = 73 ∧ am_lgo (am_roL 4 xs) 311 am_lv1 [] H ((349, am_lv1, [], h'), 0, 0) := by
  obtain ⟨f0, f6, f8, f9, g2, g45, hln, o0, p0, p1, p5, p6, o3, o18, q8, o37, r6, o41, s3, s4, s6, s8, s9, s10, s43, s48, o2, o45, o1⟩ := am_H1f hH
  refine ⟨H.set 41 (.inr (9, f9.set 3 (.int 0))), by rw [List.length_set]; exact hln, ?_⟩
  refine am_lz1 am_qL_311 rfl ?_
  refine am_lz1 am_qL_312 rfl ?_
  refine am_lz1 am_qL_313 rfl ?_
  refine am_lz1 am_qL_315 rfl ?_
  refine am_lz1 am_qL_316 rfl ?_
  refine am_lza am_qL_317 rfl (by decide) (k := 1) (by decide) ?_
  refine am_lzc am_qL_318 (w := ([.ref 0, .int (xs 1)], [])) rfl (by unfold am_rcv; simp only [o0]; rfl) (am_rPrt0 o0 p5 o37 r6) (Nat.le_refl _) ?_
  refine am_lz1 am_qL_321 rfl ?_
  refine am_lz1 am_qL_322 rfl ?_
  refine am_lz1 am_qL_323 rfl ?_
  refine am_lz1 am_qL_325 rfl ?_
  refine am_lz1 am_qL_326 rfl ?_
  refine am_lza am_qL_327 rfl (by decide) (k := 1) (by decide) ?_
  refine am_lzc am_qL_328 (w := ([.ref 41, .int (xs 1)], [.int (am_pv0 (xs 1))])) rfl (by unfold am_rcv; simp only [o41]; rfl) (am_rMPrt0 o41 s3 s48) (by rw [List.length_set]; exact Nat.le_refl _) ?_
  refine am_lzi am_qL_331 (b := true) (t := 349) (decide_eq_true rfl) (by decide) ?_
  exact am_lz0

theorem am_rcv_keep {h' : List va_E} {x c : Nat} {f : List Value} {as : List Value} (h0 : h'[x]? = some (.inr (c, f))) : am_rcv (.ref x :: as) h' c = true := by
  unfold am_rcv
  simp only [h0]
  exact beq_self_eq_true c
theorem am_h7 {h : List va_E} {x c : Nat} {f as rest : List Value} (h0 : h[x]? = some (.inr (c, f))) (h8 : (rest.map fun v => v.category).sum ≤ 8) : (decide ((rest.map fun v => v.category).sum ≤ 8) && (((0 : Nat) != 0) || am_rcv (.ref x :: as) h c)) = true := by
  rw [am_rcv_keep h0, decide_eq_true h8]
  rfl

end AM23
