/-! ===== EVERY RUN OF THE SECOND MACHINE IS ONE OF THE FIRST ===== -/
theorem jall {y : Nat} (h : cm_cd y ≠ []) : jckA y (cm_cd y) (jPT.getD y []) (jDT.getD y []) = true := by
  have hj : jf y = true := by
    by_cases h0 : y < 10
    · exfalso
      apply h
      have : (List.range 10).all (fun y => (cm_cd y).isEmpty) = true := by decide +kernel
      exact List.isEmpty_iff.mp (List.all_eq_true.mp this y (List.mem_range.mpr h0))
    by_cases h1 : y < 59
    · exact List.all_eq_true.mp jg0 y (List.mem_range'_1.mpr ⟨by omega, by omega⟩)
    by_cases h2 : y < 104
    · exact List.all_eq_true.mp jg1 y (List.mem_range'_1.mpr ⟨by omega, by omega⟩)
    by_cases h3 : y < 147
    · exact List.all_eq_true.mp jg2 y (List.mem_range'_1.mpr ⟨by omega, by omega⟩)
    by_cases h4 : y < 181
    · exact List.all_eq_true.mp jg3 y (List.mem_range'_1.mpr ⟨by omega, by omega⟩)
    by_cases h5 : y < 214
    · exact List.all_eq_true.mp jg4 y (List.mem_range'_1.mpr ⟨by omega, by omega⟩)
    by_cases h6 : y < 253
    · exact List.all_eq_true.mp jg5 y (List.mem_range'_1.mpr ⟨by omega, by omega⟩)
    by_cases h7 : y < 281
    · exact List.all_eq_true.mp jg6 y (List.mem_range'_1.mpr ⟨by omega, by omega⟩)
    by_cases h8 : y < 301
    · exact List.all_eq_true.mp jg7 y (List.mem_range'_1.mpr ⟨by omega, by omega⟩)
    exfalso
    apply h
    unfold cm_cd
    have e : cm_cdT.length = 301 := by decide +kernel
    rw [List.getD_eq_getElem?_getD, List.getElem?_eq_none (by omega)]
    rfl
  unfold jf at hj
  rw [Bool.or_eq_true] at hj
  rcases hj with z | z
  · exact absurd (List.isEmpty_iff.mp z) h
  · exact z
set_option maxRecDepth 20000 in
theorem jmL : (List.range 301).all (fun y => (cm_cd y).isEmpty || decide (cm_mLn y = am_mL y)) = true := by decide +kernel
section JOIN4
variable {E lo hi : Nat} {h0 : List va_E}
theorem j_args_look : ∀ (as : List cm_V) (n k : Nat) (v : cm_V), (∀ v ∈ as, cm_ct v = 1) → as[k]? = some v → (lv_args n (as.map cm_v)).lookup (n + k) = some (cm_v v)
  | [], n, k, v, _, h => by cases h
  | a :: as, n, 0, v, _, h => by
    obtain rfl : a = v := Option.some.inj h
    show ((n, cm_v a) :: lv_args (if (cm_v a).category = 2 then n + 2 else n + 1) (as.map cm_v)).lookup (n + 0) = _
    rw [List.lookup_cons]
    simp
  | a :: as, n, k + 1, v, hc, h => by
    show ((n, cm_v a) :: lv_args (if (cm_v a).category = 2 then n + 2 else n + 1) (as.map cm_v)).lookup (n + (k + 1)) = _
    rw [List.lookup_cons, show (n + (k + 1) == n) = false by simp, cm_v_ct, hc a List.mem_cons_self, if_neg (by decide), show n + (k + 1) = n + 1 + k by omega]
    exact j_args_look as (n + 1) k v (fun v hv => hc v (List.mem_cons_of_mem _ hv)) (by simpa using h)
theorem j_go_N (hE : 5 ≤ E) (hh : hi ≤ h0.length) (hhi : hi ≤ 72) (hpt : cm_ptck lo hi = true) {y : Nat} {code : List Instr} {P D : List Nat} {run : cm_RN} (hck : jckA y code P D = true) (hrun : jRH E lo hi h0 run) : ∀ (kk t : Nat) (lv : cm_L) (st : List cm_V) (s : cm_S) (r : cm_R), cm_go run code kk t lv st s = some r → jN E y lo hi h0 code P D t lv st s r := by
  intro kk
  induction kk with
  | zero => intro t lv st s r h; cases h
  | succ kk ih => intro t lv st s r h; exact j_blk hE hh hhi hpt hck hrun ih 700 t lv st s r h
theorem cm_ok_ct {v : cm_V} (h : cm_ok true lo hi v) : cm_ct v = 1 := by
  rcases v with z | a | z
  · rfl
  · rfl
  · exact absurd h.1 (by decide)
theorem cm_ok_any {v : cm_V} {nl : Bool} (h : cm_ok true lo hi v) : cm_ok nl lo hi v := by
  rcases v with z | a | z
  · exact h
  · exact h
  · exact absurd h.1 (by decide)
theorem cm_cts_1 {as : List cm_V} (h : ∀ v ∈ as, cm_ct v = 1) : cm_cts as = as.length := by
  induction as with
  | nil => rfl
  | cons v r ih =>
    have e : cm_cts (v :: r) = cm_ct v + cm_cts r := rfl
    rw [e, h v List.mem_cons_self, ih (fun v hv => h v (List.mem_cons_of_mem _ hv)), List.length_cons]
    omega
theorem j_all (hh : hi ≤ h0.length) (hhi : hi ≤ 72) (hpt : cm_ptck lo hi = true) (F : Nat) : ∀ d, jRH (d + 5) lo hi h0 (cm_all cm_cd cm_mLn F d) := by
  intro d
  induction d with
  | zero => intro y as s r h; cases h
  | succ d ih =>
    intro y as s r h hA hs
    obtain ⟨hy, hok, htx⟩ := hA
    obtain ⟨hl, hg⟩ := cm_if_eq (c := as.length ≤ cm_mLn y) h
    have hne : cm_cd y ≠ [] := by
      intro e
      rw [e] at hg
      cases F with
      | zero => cases hg
      | succ F => cases hg
    have hck := jall hne
    have h0c := (j_and hck).1
    obtain ⟨hP, hD⟩ := of_decide_eq_true h0c
    have hct : ∀ v ∈ as, cm_ct v = 1 := fun v hv => cm_ok_ct (hok v hv)
    have hm : cm_mLn y = am_mL y := by
      have := List.all_eq_true.mp jmL y (List.mem_range.mpr hy)
      rw [Bool.or_eq_true] at this
      rcases this with z | z
      · exact absurd (List.isEmpty_iff.mp z) hne
      · exact of_decide_eq_true z
    have hat : ∀ (k : Nat) (v : cm_V), (cm_lv0 (cm_mLn y) as)[k]? = some (some v) → as[k]? = some v := by
      intro k v hk
      unfold cm_lv0 at hk
      by_cases hlt : k < as.length
      · rw [List.getElem?_append_left (by simpa using hlt), List.getElem?_map] at hk
        cases e : as[k]? with
        | none => rw [e] at hk; cases hk
        | some w => rw [e] at hk; cases hk; rfl
      · rw [List.getElem?_append_right (by simpa using hlt), List.getElem?_replicate] at hk
        split at hk <;> cases hk
    have hlv : jLv y lo hi (cm_cd y) (cm_lv0 (cm_mLn y) as) (lv_args 0 (as.map cm_v)) := by
      intro k v hk
      replace hk := hat k v hk
      have hv := hok v (List.mem_of_getElem? hk)
      refine ⟨?_, cm_ok_any hv, fun z => ?_, fun z => ?_⟩
      · have := j_args_look as 0 k v hct hk
        rw [Nat.zero_add] at this
        exact this
      · rw [cm_ok_ct hv] at z; omega
      · obtain ⟨a, ha, hx⟩ := htx k z
        rw [hk] at ha
        cases ha
        exact ⟨a, rfl, hx⟩
    obtain ⟨g1, g2⟩ := j_go_N (E := d + 5) (by omega) hh hhi hpt hck ih F 0 _ [] s r hg (lv_args 0 (as.map cm_v)) 0 hP ⟨hlv, fun v hv => (by cases hv), jTg_0 rfl _, hs, hD⟩
    exact ⟨jRun_of (by omega) (by rw [cm_v_cts, cm_cts_1 hct]; omega) g1, g2⟩
end JOIN4
