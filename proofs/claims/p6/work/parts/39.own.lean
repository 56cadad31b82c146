def am_nmS : List String := ["java/lang/RuntimeException", "java/lang/Exception"]
/-- words on exceptions that no callee may be handed as they are -/
def am_nwW : List Jvm.Cond := [.declares (Bundle.initS "java/lang/RuntimeException"), .declares (Bundle.initS "java/lang/Exception"), .declares (Bundle.initS Bundle.tN), .castable "java/lang/IllegalArgumentException" "java/lang/IllegalArgumentException", .castable "java/lang/IndexOutOfBoundsException" "java/lang/IndexOutOfBoundsException"]
def am_spc : List Jvm.Cond := am_nwW ++ [.laysStatic Bundle.tN "UNASSIGNED_STACK" Bundle.steD, .laysStatic Bundle.tN "SUPPRESSED_SENTINEL" Bundle.listD, .isRef (.static Bundle.tN "UNASSIGNED_STACK" Bundle.steD), .isRef (.static Bundle.tN "SUPPRESSED_SENTINEL" Bundle.listD)]
/-- all constants -/
def am_KX (ak : Nat → Nat) (A : Nat → Prop) (U : State) : Prop := am_KK ak A U ∧ (∀ w ∈ am_nwW, va_Nw w U) ∧ am_LS Bundle.tN "UNASSIGNED_STACK" Bundle.steD A U U.heap ∧ am_LS Bundle.tN "SUPPRESSED_SENTINEL" Bundle.listD A U U.heap
theorem am_nwW_same {u U : State} (hv : u.vm = U.vm) (h : ∀ w ∈ am_nwW, va_Nw w u) : ∀ w ∈ am_nwW, va_Nw w U := by
  intro w hw
  have h1 := h w hw
  simp only [am_nwW, List.mem_cons, List.not_mem_nil, or_false] at hw
  rcases hw with rfl | rfl | rfl | rfl | rfl <;> exact va_Nw.same rfl hv h1
theorem am_nwW_warm {s U : State} (hW : s.WarmedH U.vm) (h : ∀ w ∈ am_nwW, va_Nw w s) : ∀ w ∈ am_nwW, va_Nw w U := by
  intro w hw
  have h1 := h w hw
  simp only [am_nwW, List.mem_cons, List.not_mem_nil, or_false] at hw
  rcases hw with rfl | rfl | rfl | rfl | rfl
  · exact va_Nw.warmD hW h1
  · exact va_Nw.warmD hW h1
  · exact va_Nw.warmD hW h1
  · exact va_Nw.warmC hW h1
  · exact va_Nw.warmC hW h1
theorem am_KX_ok (ak : Nat → Nat) : am_K0 (am_KX ak) := by
  refine ⟨fun A U g mk a h => ?_, fun A A' s U h hW hk hA => ?_⟩
  · obtain ⟨h1, h2, h3, h4⟩ := h
    exact ⟨(am_KK_ok ak).1 _ _ _ _ _ h1, am_nwW_same (u := U) (U := U.calling g mk a) rfl h2, am_LS.moved (u := U) (U := U.calling g mk a) (Vm.Alike.refl U.vm) h3, am_LS.moved (u := U) (U := U.calling g mk a) (Vm.Alike.refl U.vm) h4⟩
  · obtain ⟨h1, h2, h3, h4⟩ := h
    exact ⟨(am_KK_ok ak).2 _ _ _ _ h1 hW hk hA, am_nwW_warm hW h2, ((h3.kept hk).narrow hA).moved hW.alike, ((h4.kept hk).narrow hA).moved hW.alike⟩
theorem am_spc_ok {ak : Nat → Nat} {A : Nat → Prop} {s : State} {args : Array Value} (h : am_KX ak A s) : ∀ w ∈ am_spc, w.before args s = true := by
  intro w hw
  obtain ⟨⟨-, ⟨u, hu⟩, v, hv⟩, h2, h3, h4⟩ := h
  rcases List.mem_append.mp hw with z | z
  · have h5 := h2 w z
    simp only [am_nwW, List.mem_cons, List.not_mem_nil, or_false] at z
    rcases z with rfl | rfl | rfl | rfl | rfl <;> exact va_Nw.use rfl h5
  · simp only [List.mem_cons, List.not_mem_nil, or_false] at z
    rcases z with rfl | rfl | rfl | rfl
    · exact h3.word
    · exact h4.word
    · exact am_isRef hu
    · exact am_isRef hv
theorem am_GX {tys : List (ClassId × FieldType)} {ct : Nat → Nat} (hTY : am_TY tys ct) (ak : Nat → Nat) : am_G am_okm am_cl tys ct ak (am_KX ak) am_nm am_bt am_wM am_co am_mL am_rt am_in am_fc am_fl am_kc am_kl (fun _ _ => none) (fun _ => none) am_cal am_oi am_nw := by
  obtain ⟨-, h2, h3, h4⟩ := am_GG hTY ak
  refine ⟨am_KX_ok ak, h2, h3, fun y hy => ?_⟩
  obtain ⟨g1, g2, g3, g4, g5, g6, g7, g8, g9, g10⟩ := h4 y hy
  exact ⟨g1, g2, g3, g4, g5, g6, g7, g8, g9, fun A s args hK hts => g10 A s args hK.1 hts⟩
def am_ow0 : List Nat := [235, 635, 644, 647, 650, 652, 636, 637, 251, 252, 638, 643, 648, 668, 625, 669, 627, 670, 629, 639, 99999, 641, 99999, 631, 664, 665, 667, 631, 655, 656, 657, 658, 99999, 658, 659, 660, 661, 99999, 661, 662, 663, 664, 99999, 654, 614, 99999, 622, 623, 624, 626, 628, 630, 99999, 99999, 634, 633, 632]
def am_ow1 : List Nat := [235, 635, 644, 647, 650, 652, 636, 637, 251, 252, 638, 643, 648, 668, 625, 669, 627, 670, 629, 639, 99999, 641, 99999, 631, 664, 665, 667, 631, 1336, 1337, 1338, 658, 99999, 658, 659, 660, 661, 99999, 661, 662, 663, 664, 99999, 1335, 1326, 99999, 1328, 646, 1329, 1330, 1331, 1332, 99999, 99999, 634, 633, 1333]
def am_owck (own : String) (ic : Nat) (xc : String) (ps : List Nat) : Bool := decide ((Bundle.ownAtoms own ic xc am_nmS).length = ps.length) && ((Bundle.ownAtoms own ic xc am_nmS).zip ps).all (fun e => am_at e.2 e.1 || decide (e.1 ∈ am_spc))
set_option maxRecDepth 100000 in
theorem am_owck0 : am_owck "ScriptFront$Flaw" 25 "java/lang/IllegalArgumentException" am_ow0 = true := by decide +kernel
set_option maxRecDepth 100000 in
theorem am_owck1 : am_owck "ScriptFront" 124 "java/lang/IndexOutOfBoundsException" am_ow1 = true := by decide +kernel
theorem am_ow_ok {own xc : String} {ic : Nat} {ps : List Nat} (h : am_owck own ic xc ps = true) {Ts : List Jvm.Cond} {ak : Nat → Nat} {A : Nat → Prop} {s : State} {args : Array Value} (hT : ∀ w ∈ am_Ts, w ∈ Ts) (hts : ∀ w ∈ Ts, w.before args s = true) (hK : am_KX ak A s) : ∀ a ∈ Bundle.ownAtoms own ic xc am_nmS, a.before args s = true := by
  unfold am_owck at h
  rw [Bool.and_eq_true] at h
  intro w hw
  obtain ⟨i, hi⟩ := am_zip (of_decide_eq_true h.1) hw
  have h1 := List.all_eq_true.mp h.2 _ hi
  rw [Bool.or_eq_true] at h1
  rcases h1 with z | z
  · exact hts _ (hT _ (am_at_in z))
  · exact am_spc_ok hK _ (of_decide_eq_true z)
