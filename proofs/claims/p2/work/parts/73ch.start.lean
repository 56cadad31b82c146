/-! ===== the texts at the law's start ===== -/
abbrev txv (q : String × Nat × String × Nat) : Term := .field (.string q.1 q.2.1) "java/lang/String" "value" "[B"
def txe (q : String × Nat × String × Nat) : Nat → List Int → List Jvm.Cond
  | _, [] => []
  | n, z :: r => .eq (.elem (txv q) (.int (Int32.ofNat n))) (.int (Int32.ofInt z)) :: txe q (n + 1) r
def txw (e : (String × Nat × String × Nat) × List Int) : List Jvm.Cond := .exactly (.string e.1.1 e.1.2.1) "java/lang/String" :: .eq (.field (.string e.1.1 e.1.2.1) "java/lang/String" "coder" "B") (.int 0) :: .arrayOf (txv e.1) .byte :: .eq (.length (txv e.1)) (.int (Int32.ofNat e.2.length)) :: txe e.1 0 e.2
def sgT : Term := .static "ScriptFront$Token" "SIGNS" "[I"
def sge : Nat → List Int → List Jvm.Cond
  | _, [] => []
  | n, z :: r => .eq (.elem sgT (.int (Int32.ofNat n))) (.int (Int32.ofInt z)) :: sge (n + 1) r
set_option maxRecDepth 100000 in
theorem tx_flat : (flatC narrow_1).drop 82 = (am_strs.zip cm_kT).flatMap txw := by decide +kernel
set_option maxRecDepth 100000 in
theorem sg_flat : ((flatC narrow_1).drop 10).take 50 = .arrayOf sgT .int :: .eq (.length sgT) (.int 48) :: sge 0 (cm_kT.getD 39 []) := by decide +kernel
set_option maxRecDepth 100000 in
theorem tx_two : ((flatC narrow_1).drop 4).take 2 = [.eq (.static "java/lang/String" "COMPACT_STRINGS" "Z") (.int 1), .isRef (.static "jdk/internal/util/Preconditions" "SIOOBE_FORMATTER" "Ljava/util/function/BiFunction;")] := by decide +kernel
theorem txe_in {q : String × Nat × String × Nat} : ∀ (l : List Int) (n j : Nat), j < l.length → Jvm.Cond.eq (.elem (txv q) (.int (Int32.ofNat (n + j)))) (.int (Int32.ofInt (l.getD j 0))) ∈ txe q n l
  | [], n, j, h => by cases h
  | z :: r, n, 0, _ => List.mem_cons_self
  | z :: r, n, j + 1, h => by
    have := txe_in (q := q) r (n + 1) j (by simpa using h)
    rw [show n + 1 + j = n + (j + 1) by omega] at this
    exact List.mem_cons_of_mem _ this
theorem sge_in : ∀ (l : List Int) (n j : Nat), j < l.length → Jvm.Cond.eq (.elem sgT (.int (Int32.ofNat (n + j)))) (.int (Int32.ofInt (l.getD j 0))) ∈ sge n l
  | [], n, j, h => by cases h
  | z :: r, n, 0, _ => List.mem_cons_self
  | z :: r, n, j + 1, h => by
    have := sge_in r (n + 1) j (by simpa using h)
    rw [show n + 1 + j = n + (j + 1) by omega] at this
    exact List.mem_cons_of_mem _ this
set_option maxRecDepth 100000 in
theorem tx_st39 : am_strs.length = 39 ∧ cm_kT.length = 40 ∧ am_strs.map (fun q => q.2.2.2) = List.range' 1000 39 ∧ am_wat 713 (.laysStatic "java/lang/String" "COMPACT_STRINGS" "Z") = true ∧ am_wat 729 (.laysStatic "jdk/internal/util/Preconditions" "SIOOBE_FORMATTER" "Ljava/util/function/BiFunction;") = true ∧ am_wat 764 (.laysStatic "ScriptFront$Token" "SIGNS" "[I") = true ∧ am_at 239 (.initialized "java/lang/String") = true ∧ am_at 241 (.initialized "jdk/internal/util/Preconditions") = true ∧ am_at 243 (.initialized "ScriptFront$Token") = true ∧ (cm_kT.getD 39 []).length = 48 := by decide +kernel
set_option maxHeartbeats 1000000 in
theorem am_startY {s : State} {args : Array Value} (b : Nat) (hts : ∀ w ∈ lw_tbl, w.before args s = true) (hgv : (Jvm.Cond.and given_1 narrow_1).before args s = true) : ∃ ak : Nat → Nat, am_KY ak (fun q => s.heap.size ≤ q) s ∧ ak 2000 = b := by
  have hA : ∀ a : Nat, a < s.heap.size → ¬ (fun q : Nat => s.heap.size ≤ q) a := fun a h => Nat.not_le.mpr h
  obtain ⟨ak, hKX, hb⟩ := am_startX b hts hgv
  have hfl : ∀ w ∈ flatC narrow_1, w.before args s = true := fun w hw => flat_of_before _ hgv w (by
    show w ∈ flatC given_1 ++ flatC narrow_1
    exact List.mem_append_right _ hw)
  have hT : ∀ w ∈ am_Ts, w.before args s = true := fun w hw => hts w (List.mem_filter.mp hw).1
  obtain ⟨n1, n2, n3, n4, n5, n6, n7, n8, n9, n10⟩ := tx_st39
  -- the texts
  have htx : ∀ k : Nat, ∃ v : Nat, k < 39 → va_O "java/lang/String" (ak (1000 + k)) (fun q => s.heap.size ≤ q) s s.heap ∧ va_OF "java/lang/String" "coder" "B" (.int 0) (ak (1000 + k)) (fun q => s.heap.size ≤ q) s s.heap ∧ va_OF "java/lang/String" "value" "[B" (.ref v) (ak (1000 + k)) (fun q => s.heap.size ≤ q) s s.heap ∧ va_T .byte v (cm_kn (1000 + k)).toNat (fun j => .int (Int32.ofInt (cm_ka (1000 + k) (j : Int)))) (fun q => s.heap.size ≤ q) s s.heap := by
    intro k
    by_cases hk : k < 39
    · obtain ⟨q, hq⟩ : ∃ q, am_strs[k]? = some q := ⟨_, List.getElem?_eq_getElem (by omega)⟩
      obtain ⟨bs, hbs⟩ : ∃ bs, cm_kT[k]? = some bs := ⟨_, List.getElem?_eq_getElem (by omega)⟩
      have hqp : q.2.2.2 = 1000 + k := by
        have h1 : (am_strs.map (fun q => q.2.2.2))[k]? = some q.2.2.2 := by rw [List.getElem?_map, hq]; rfl
        rw [n3, List.getElem?_range' hk] at h1
        have := Option.some.inj h1
        omega
      have hz : (q, bs) ∈ am_strs.zip cm_kT := by
        apply List.mem_of_getElem? (i := k)
        rw [List.getElem?_zip_eq_some]
        exact ⟨hq, hbs⟩
      have hw : ∀ w ∈ txw (q, bs), w.before args s = true := fun w hw => hfl w (by
        have : w ∈ (flatC narrow_1).drop 82 := by
          rw [tx_flat]
          exact List.mem_flatMap.mpr ⟨_, hz, hw⟩
        exact List.mem_of_mem_drop this)
      have hkn : cm_kn (1000 + k) = (bs.length : Int) := by
        unfold cm_kn
        rw [show 1000 + k - 1000 = k by omega, List.getD_eq_getElem?_getD, hbs]
        rfl
      have hka : ∀ j : Nat, cm_ka (1000 + k) (j : Int) = bs.getD j 0 := fun j => by
        unfold cm_ka
        rw [show 1000 + k - 1000 = k by omega, List.getD_eq_getElem?_getD (l := cm_kT), hbs, Int.toNat_natCast]
        rfl
      have hkl := cm_kn_in (1000 + k)
      have hev : (Term.string q.1 q.2.1).eval args s none [] s = some (.ref (ak q.2.2.2)) := (hKX.1.1.1 q (List.mem_of_getElem? hq)).2
      rw [hqp] at hev
      obtain ⟨a, c, cA, kA, q1, q2, q3, q4, q5, q6, -⟩ := Cond.exactly_spec (args := args) (first := s) (o := none) (s := s) (idx := []) (t := .string q.1 q.2.1) (cls := "java/lang/String") (hw _ List.mem_cons_self)
      have ea : a = ak (1000 + k) := by
        have := q1.symm.trans hev
        cases this
        rfl
      obtain ⟨t, ht, hTT⟩ := va_Tof (N := bs.length) (f := fun j => .int (Int32.ofInt (cm_ka (1000 + k) (j : Int)))) (A := fun q => s.heap.size ≤ q) (by omega) (hw _ (List.mem_cons_of_mem _ (List.mem_cons_of_mem _ List.mem_cons_self))) (va_eqt (hw _ (List.mem_cons_of_mem _ (List.mem_cons_of_mem _ (List.mem_cons_of_mem _ List.mem_cons_self))))) (fun j hj => by
        rw [hka j]
        have h1 := hw _ (List.mem_cons_of_mem _ (List.mem_cons_of_mem _ (List.mem_cons_of_mem _ (List.mem_cons_of_mem _ (txe_in (q := q) bs 0 j hj)))))
        rw [Nat.zero_add] at h1
        exact va_eqt h1) hA
      refine ⟨t, fun _ => ?_⟩
      rw [← ea, hkn, Int.toNat_natCast]
      exact ⟨⟨cA, q3, q5, by rw [q6]; exact q2, hA a (Array.getElem?_eq_some_iff.mp q3).1⟩, vk_OFof q1 (va_eqt (hw _ (List.mem_cons_of_mem _ List.mem_cons_self))) hA, vk_OFof q1 ht hA, hTT⟩
    · exact ⟨0, fun h => absurd h hk⟩
  obtain ⟨V, hV⟩ := Classical.axiomOfChoice htx
  -- the row of signs
  have hsg : ∀ w ∈ (Jvm.Cond.arrayOf sgT .int :: .eq (.length sgT) (.int 48) :: sge 0 (cm_kT.getD 39 [])), w.before args s = true := fun w hw => hfl w (by
    rw [← sg_flat] at hw
    exact List.mem_of_mem_drop (List.mem_of_mem_take hw))
  obtain ⟨g, hg, hgT⟩ := va_Tof (tm := sgT) (N := 48) (f := fun j => .int (Int32.ofInt (cm_ka 1039 (j : Int)))) (A := fun q => s.heap.size ≤ q) (by omega) (hsg _ List.mem_cons_self) (va_eqt (hsg _ (List.mem_cons_of_mem _ List.mem_cons_self))) (fun j hj => by
    have h1 := hsg _ (List.mem_cons_of_mem _ (List.mem_cons_of_mem _ (sge_in (cm_kT.getD 39 []) 0 j (by omega))))
    rw [Nat.zero_add] at h1
    exact va_eqt h1) hA
  have hgZ := va_Zof (hts _ (am_wat_in n6)) (hT _ (am_at_in n9)) hg hA
  -- two statics
  have htwo : ∀ w ∈ ([.eq (.static "java/lang/String" "COMPACT_STRINGS" "Z") (.int 1), .isRef (.static "jdk/internal/util/Preconditions" "SIOOBE_FORMATTER" "Ljava/util/function/BiFunction;")] : List Jvm.Cond), w.before args s = true := fun w hw => hfl w (by
    rw [← tx_two] at hw
    exact List.mem_of_mem_drop (List.mem_of_mem_take hw))
  have hcZ := va_Zof (hts _ (am_wat_in n4)) (hT _ (am_at_in n7)) (va_eqi (htwo _ List.mem_cons_self)) hA
  obtain ⟨x, e1, o1⟩ := Cond.isRef_spec (htwo _ (List.mem_cons_of_mem _ List.mem_cons_self))
  have hfZ := va_Zof (hts _ (am_wat_in n5)) (hT _ (am_at_in n8)) e1 hA
  obtain ⟨fa, ff, hf1, hf2, hf3⟩ : ∃ (fa : Nat) (ff : Value), ff.category = 1 ∧ (∀ ak' : Nat → Nat, ak' 2999 = fa → am_tv ak' ff = x) ∧ ∀ a, ff = .ref a → a = 2999 := by
    cases x with
    | ref q => exact ⟨q, .ref 2999, rfl, fun ak' h => by show Value.ref (ak' 2999) = _; rw [h], fun a h => by cases h; rfl⟩
    | null => exact ⟨0, .null, rfl, fun _ _ => rfl, fun a h => by cases h⟩
    | _ => cases o1
  refine ⟨fun i => if i = 1039 then g else if i = 2999 then fa else if 3000 ≤ i then V (i - 3000) else ak i, ⟨?_, ?_⟩, ?_⟩
  · obtain ⟨⟨⟨k1, k2⟩, k3⟩, k4⟩ := hKX
    refine ⟨⟨⟨fun q hq => ?_, k2⟩, k3⟩, k4⟩
    obtain ⟨i, hi⟩ := List.getElem?_of_mem hq
    have hlt : i < 39 := by
      have := (List.getElem?_eq_some_iff.mp hi).1
      omega
    have hqp : q.2.2.2 = 1000 + i := by
      have h1 : (am_strs.map (fun q => q.2.2.2))[i]? = some q.2.2.2 := by rw [List.getElem?_map, hi]; rfl
      rw [n3, List.getElem?_range' hlt] at h1
      have := Option.some.inj h1
      omega
    show vk_R q.1 q.2.1 q.2.2.1 (if q.2.2.2 = 1039 then g else if q.2.2.2 = 2999 then fa else if 3000 ≤ q.2.2.2 then V (q.2.2.2 - 3000) else ak q.2.2.2) s
    rw [if_neg (by omega), if_neg (by omega), if_neg (by omega)]
    exact k1 q hq
  · refine ⟨fun a h1 h2 => ?_, hcZ, ⟨ff, hf1, ?_, fun a h => (by rw [hf3 a h]; exact Nat.le_of_ble_eq_true rfl)⟩, ?_, ?_⟩
    · have hv := hV (a - 1000) (by omega)
      rw [show 1000 + (a - 1000) = a by omega] at hv
      have e2 : (if a = 1039 then g else if a = 2999 then fa else if 3000 ≤ a then V (a - 3000) else ak a) = ak a := by rw [if_neg (by omega), if_neg (by omega), if_neg (by omega)]
      have e3 : (if a + 2000 = 1039 then g else if a + 2000 = 2999 then fa else if 3000 ≤ a + 2000 then V (a + 2000 - 3000) else ak (a + 2000)) = V (a - 1000) := by rw [if_neg (by omega), if_neg (by omega), if_pos (by omega), show a + 2000 - 3000 = a - 1000 by omega]
      simp only [e2, e3]
      exact hv
    · rw [hf2 _ (by rw [if_neg (by omega), if_pos rfl])]
      exact hfZ
    · simp only [if_pos]
      exact hgZ
    · simp only [if_pos]
      exact hgT
  · show (if 2000 = 1039 then g else if 2000 = 2999 then fa else if 3000 ≤ 2000 then V (2000 - 3000) else ak 2000) = b
    rw [if_neg (by omega), if_neg (by omega), if_neg (by omega)]
    exact hb
