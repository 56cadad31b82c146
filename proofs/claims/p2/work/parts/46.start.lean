def am_stP : List Nat := [640, 642, 235, 617, 619, 621, 615, 1327]
def am_strP : List Nat := [653, 703, 1074, 1119, 1120, 1219, 1244, 1245, 1246, 1253, 1254, 1259, 1260, 1265, 1270, 1271, 1272, 1273, 1278, 1279, 1280, 1289, 1294, 1295, 1300, 1301, 1302, 1303, 1304, 1305, 1306, 1307, 1312, 1313, 1314, 1315, 1316, 1334, 1346]
def am_nestP : List Nat := [255, 274, 401]
def am_clP : List Nat := [246, 254, 273, 292, 333, 335, 400, 438, 454, 1348]
/-! ===== the law's start, in the machine's words ===== -/
def am_wat (p : Nat) (w : Jvm.Cond) : Bool := decide (lw_tbl[p]? = some w)
theorem am_wat_in {p : Nat} {w : Jvm.Cond} (h : am_wat p w = true) : w ∈ lw_tbl := List.mem_of_getElem? (of_decide_eq_true h)
set_option maxRecDepth 100000 in
theorem am_stck : am_wat (am_stP.getD 0 0) (.laysStatic Bundle.tN "UNASSIGNED_STACK" Bundle.steD) = true ∧ am_wat (am_stP.getD 1 0) (.laysStatic Bundle.tN "SUPPRESSED_SENTINEL" Bundle.listD) = true ∧ am_wat (am_stP.getD 2 0) (.initialized Bundle.tN) = true ∧ (am_nwW.zip (am_stP.drop 3)).all (fun e => am_wat e.2 e.1 && e.1.onTables) = true ∧ am_nwW.length = (am_stP.drop 3).length := by decide +kernel
set_option maxRecDepth 100000 in
theorem am_strck : (am_strs.zip am_strP).all (fun e => am_wat e.2 (.stringRef e.1.1 e.1.2.1 e.1.2.2.1)) = true ∧ am_strs.length = am_strP.length ∧ am_strs.map (fun q => q.2.2.2) = List.range' 1000 am_strs.length ∧ am_strs.length < 1000 := by decide +kernel
set_option maxRecDepth 100000 in
theorem am_nestck : (am_nestT.zip am_nestP).all (fun e => am_wat e.2 (.methodLinkNest e.1.1 e.1.2.1 e.1.2.2.1 e.1.2.2.2)) = true ∧ am_nestT.length = am_nestP.length := by decide +kernel
set_option maxRecDepth 100000 in
theorem am_clck : (am_cl.zip am_clP).all (fun e => am_wat e.2 (.instantiable e.1.1 e.1.2.2)) = true ∧ am_cl.length = am_clP.length := by decide +kernel
theorem am_startK {s : State} {args : Array Value} (hts : ∀ w ∈ lw_tbl, w.before args s = true) : ∃ (D : va_G) (tys : List (ClassId × FieldType)) (ct : Nat → Nat), am_TY tys ct ∧ va_K D am_cl tys s := by
  have h : ∀ k : Nat, ∃ (cC : ClassId) (iS : Nat → Nat), ∀ q, am_cl[k]? = some q → u_Kn s q.1 q.2.1 q.2.2 cC iS := by
    intro k
    match hk : am_cl[k]? with
    | none => exact ⟨0, fun _ => 0, fun q hq => by cases hq⟩
    | some q =>
      obtain ⟨g1, -⟩ := am_cls hk
      obtain ⟨i, hi⟩ := am_zip (p := am_clP) am_clck.2 (List.mem_of_getElem? hk)
      have hin := am_wat_in (List.all_eq_true.mp am_clck.1 _ hi)
      obtain ⟨cC, iS, hu⟩ := u_known (C := q.1) (T := q.2.1) (N := q.2.2) (n := q.2.2) hts (fun w hw => am_Ts_tbl (g1 w hw)) (hts _ hin)
      exact ⟨cC, iS, fun q' hq' => by cases hq'; exact hu⟩
  obtain ⟨g0, g1, g2, g3, g4⟩ := am_arck
  obtain ⟨c0, k0, p0, a0, b0, d0⟩ := Cond.arrayClass_spec (hts _ (am_Ts_tbl (am_at_in g0)))
  obtain ⟨c1, k1, p1, a1, b1, d1⟩ := Cond.arrayClass_spec (hts _ (am_Ts_tbl (am_at_in g1)))
  obtain ⟨c2, k2, p2, a2, b2, d2⟩ := Cond.arrayClass_spec (hts _ (am_Ts_tbl (am_at_in g2)))
  obtain ⟨c3, k3, p3, a3, b3, d3⟩ := Cond.arrayClass_spec (hts _ (am_Ts_tbl (am_at_in g3)))
  obtain ⟨c4, k4, p4, a4, b4, d4⟩ := Cond.arrayClass_spec (hts _ (am_Ts_tbl (am_at_in g4)))
  refine ⟨(fun k => (h k).choose, fun k => (h k).choose_spec.choose), [(c0, .int), (c1, .char), (c2, .boolean), (c3, .byte), (c4, .long)], fun t => match t with
    | 0 => c0
    | 1 => c1
    | 2 => c2
    | 3 => c3
    | _ => c4, ?_, fun c q hq => (h c).choose_spec.choose_spec q hq, ?_⟩
  · intro t ht
    match t, ht with
    | 0, _ => rfl
    | 1, _ => rfl
    | 2, _ => rfl
    | 3, _ => rfl
    | 4, _ => rfl
    | t + 5, ht => omega
  · intro k q hq
    match k, hq with
    | 0, hq => cases hq; exact ⟨fun n z => ⟨fun k h => (by cases h), k0, b0, p0, d0⟩, a0⟩
    | 1, hq => cases hq; exact ⟨fun n z => ⟨fun k h => (by cases h), k1, b1, p1, d1⟩, a1⟩
    | 2, hq => cases hq; exact ⟨fun n z => ⟨fun k h => (by cases h), k2, b2, p2, d2⟩, a2⟩
    | 3, hq => cases hq; exact ⟨fun n z => ⟨fun k h => (by cases h), k3, b3, p3, d3⟩, a3⟩
    | 4, hq => cases hq; exact ⟨fun n z => ⟨fun k h => (by cases h), k4, b4, p4, d4⟩, a4⟩
    | k + 5, hq => simp at hq
theorem am_strat {own tx : String} {k : Nat} {s : State} {args : Array Value} (h : (Jvm.Cond.stringRef own k tx).before args s = true) : ∃ a : Nat, vk_R own k tx a s := by
  cases hc : s.vm.findClass own with
  | none => simp [Cond.before, Cond.holds, Cond.value, hc] at h
  | some cur =>
    obtain ⟨-, -, -, a, -, -, -, -, -, hev⟩ := Cond.stringRef_spec hc h
    exact ⟨a, vk_R.of h hev⟩
theorem am_startX {s : State} {args : Array Value} (b : Nat) (hts : ∀ w ∈ lw_tbl, w.before args s = true) (hgv : (Jvm.Cond.and given_1 narrow_1).before args s = true) : ∃ ak : Nat → Nat, am_KX ak (fun q => s.heap.size ≤ q) s ∧ ak 2000 = b := by
  have hA : ∀ a : Nat, a < s.heap.size → ¬ (fun q : Nat => s.heap.size ≤ q) a := fun a h => Nat.not_le.mpr h
  have hfl := flat_of_before _ hgv
  have r1 : (Jvm.Cond.isRef (.static Bundle.tN "UNASSIGNED_STACK" Bundle.steD)).before args s = true := hfl _ (by decide +kernel)
  have r2 : (Jvm.Cond.isRef (.static Bundle.tN "SUPPRESSED_SENTINEL" Bundle.listD)).before args s = true := hfl _ (by decide +kernel)
  obtain ⟨x1, e1, o1⟩ := Cond.isRef_spec r1
  obtain ⟨x2, e2, o2⟩ := Cond.isRef_spec r2
  obtain ⟨q1, q2, q3, q4, q5⟩ := am_stck
  have z1 := va_Zof (hts _ (am_wat_in q1)) (hts _ (am_wat_in q3)) e1 hA
  have z2 := va_Zof (hts _ (am_wat_in q2)) (hts _ (am_wat_in q3)) e2 hA
  obtain ⟨t1, t2, t3, t4⟩ := am_strck
  have hstr : ∀ q ∈ am_strs, ∃ a : Nat, vk_R q.1 q.2.1 q.2.2.1 a s := by
    intro q hq
    obtain ⟨i, hi⟩ := am_zip (p := am_strP) t2 hq
    exact am_strat (hts _ (am_wat_in (List.all_eq_true.mp t1 _ hi)))
  have hpl : ∀ (k : Nat) (q : String × Nat × String × Nat), am_strs[k]? = some q → q.2.2.2 = 1000 + k ∧ k < am_strs.length := by
    intro k q hk
    have h1 : (am_strs.map (fun q => q.2.2.2))[k]? = some q.2.2.2 := by rw [List.getElem?_map, hk]; rfl
    have hlt : k < am_strs.length := (List.getElem?_eq_some_iff.mp hk).1
    rw [t3, List.getElem?_range' hlt] at h1
    exact ⟨by have := Option.some.inj h1; omega, hlt⟩
  have hall : ∀ i : Nat, ∃ a : Nat, (∀ q ∈ am_strs, q.2.2.2 = i → vk_R q.1 q.2.1 q.2.2.1 a s) ∧ (i = 2000 → a = b) := by
    intro i
    by_cases hi : i = 2000
    · refine ⟨b, fun q hq hqi => ?_, fun _ => rfl⟩
      obtain ⟨k, hk⟩ := List.getElem?_of_mem hq
      have := hpl k q hk
      omega
    · match hk : am_strs[i - 1000]? with
      | none =>
        refine ⟨0, fun q hq hqi => ?_, fun z => absurd z hi⟩
        obtain ⟨k, hk2⟩ := List.getElem?_of_mem hq
        have h3 := hpl k q hk2
        have h4 : i - 1000 = k := by omega
        rw [h4, hk2] at hk
        cases hk
      | some q0 =>
        obtain ⟨a, ha⟩ := hstr q0 (List.mem_of_getElem? hk)
        refine ⟨a, fun q hq hqi => ?_, fun z => absurd z hi⟩
        obtain ⟨k, hk2⟩ := List.getElem?_of_mem hq
        have h3 := hpl k q hk2
        have h4 : i - 1000 = k := by omega
        rw [h4, hk2] at hk
        cases hk
        exact ha
  refine ⟨fun i => (hall i).choose, ⟨⟨⟨fun q hq => (hall q.2.2.2).choose_spec.1 q hq rfl, fun z hz => ?_⟩, ⟨⟨x1, o1⟩, z1⟩, ⟨x2, o2⟩, z2⟩, fun w hw => ?_, am_LS.of (hts _ (am_wat_in q1)) hA, am_LS.of (hts _ (am_wat_in q2)) hA⟩, (hall 2000).choose_spec.2 rfl⟩
  · obtain ⟨i, hi⟩ := am_zip (p := am_nestP) am_nestck.2 hz
    exact va_Nw.of rfl (hts _ (am_wat_in (List.all_eq_true.mp am_nestck.1 _ hi)))
  · obtain ⟨i, hi⟩ := am_zip (p := am_stP.drop 3) q5 hw
    have h6 := List.all_eq_true.mp q4 _ hi
    rw [Bool.and_eq_true] at h6
    exact va_Nw.of h6.2 (hts _ (am_wat_in h6.1))
