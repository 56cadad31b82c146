def am_ckK (e : ((Nat × Nat) × Int64) × Nat) : Bool := am_at e.2 (.constantLong (am_cn e.1.1.1) e.1.1.2 e.1.2)
set_option maxRecDepth 100000 in
theorem am_klck : (am_klT.zip am_klP).all am_ckK = true := by decide +kernel
theorem am_KLok (c : Nat) {Ts : List Jvm.Cond} (hT : ∀ w ∈ am_Ts, w ∈ Ts) : am_KL (am_kl c) (am_cn c) Ts := by
  intro idx v hv
  obtain ⟨i, hi⟩ := am_zip (p := am_klP) (by decide +kernel) (am_mem_look hv)
  exact hT _ (am_at_in (List.all_eq_true.mp am_klck _ hi))
def am_ckI (e : ((Nat × Nat) × Int32) × Nat) : Bool := am_at e.2 (.constant (am_cn e.1.1.1) e.1.1.2 e.1.2)
set_option maxRecDepth 100000 in
theorem am_kick : (am_kiT.zip am_kiP).all am_ckI = true := by decide +kernel
def am_ckO (e : (Nat × Nat) × Nat) : Bool := am_at e.2 (.methodLink (am_cn e.1.1) e.1.2 Lib.objectInit)
set_option maxRecDepth 100000 in
theorem am_oick : (am_oiT.zip am_oiP).all am_ckO = true ∧ am_at am_oiQ.1 (.instanceMethod Lib.objectInit) = true ∧ am_at am_oiQ.2 (.code Lib.objectInit ⟨#[0xb1]⟩ 1 none) = true := by decide +kernel
theorem am_OIok (c : Nat) {Ts : List Jvm.Cond} (hT : ∀ w ∈ am_Ts, w ∈ Ts) : am_OI (am_oi c) (am_cn c) Ts := by
  intro k hk
  obtain ⟨i, hi⟩ := am_zip (p := am_oiP) (by decide +kernel) (List.contains_iff_mem.mp hk)
  exact ⟨hT _ (am_at_in (List.all_eq_true.mp am_oick.1 _ hi)), hT _ (am_at_in am_oick.2.1), hT _ (am_at_in am_oick.2.2)⟩
def am_ckN (e : ((Nat × Nat) × (Nat × List Value)) × (Nat × Nat × Nat)) : Bool := match am_cl[e.1.2.1]? with
  | some q => decide (q.2.2 = e.1.2.2.length) && (am_at e.2.1 (.classLink (am_cn e.1.1.1) e.1.1.2 q.1) && (am_at e.2.2.1 (.instantiable q.1 q.2.2) && (am_at e.2.2.2 (.initialized q.1) && ((List.range q.2.2).all (fun j => decide ((parseFieldDescriptor (q.2.1 j).2.2.1).map defaultValue = some (vp_V e.1.2.2 j))) && e.1.2.2.all am_nor))))
  | none => false
set_option maxRecDepth 100000 in
theorem am_nwck : (am_nwT.zip am_nwP).all am_ckN = true := by decide +kernel
theorem am_NWok (c : Nat) {Ts : List Jvm.Cond} (hT : ∀ w ∈ am_Ts, w ∈ Ts) : am_NW (am_nw c) (am_cn c) am_cl Ts := by
  intro k q hq
  obtain ⟨i, hi⟩ := am_zip (p := am_nwP) (by decide +kernel) (am_mem_look hq)
  have h := List.all_eq_true.mp am_nwck _ hi
  unfold am_ckN at h
  split at h
  · next z hz =>
    simp only [Bool.and_eq_true, decide_eq_true_eq, List.all_eq_true] at h
    obtain ⟨h1, h2, h3, h4, h5, h6⟩ := h
    obtain ⟨g1, ty0, g2, -⟩ := am_cls hz
    obtain ⟨C, T, N⟩ := z
    dsimp only at h1 h2 h3 h4 h5 g1 g2 hz
    subst h1
    refine ⟨C, T, ty0, hz, fun w hw => hT w (g1 w hw), g2, hT _ (am_at_in h2), hT _ (am_at_in h3), hT _ (am_at_in h4), fun j hj => ?_, h6⟩
    have h5 := h5 j (List.mem_range.mpr hj)
    rw [g2 j hj] at h5
    exact Option.some.inj h5
  · cases h
set_option maxRecDepth 100000 in
theorem am_arck : am_at (am_arP.getD 0 0) (.arrayClass .int) = true ∧ am_at (am_arP.getD 1 0) (.arrayClass .char) = true ∧ am_at (am_arP.getD 2 0) (.arrayClass .boolean) = true ∧ am_at (am_arP.getD 3 0) (.arrayClass .byte) = true ∧ am_at (am_arP.getD 4 0) (.arrayClass .long) = true := by decide +kernel
theorem am_ARok {Ts : List Jvm.Cond} (hT : ∀ w ∈ am_Ts, w ∈ Ts) : am_AR Ts := by
  obtain ⟨h1, h2, h3, h4, h5⟩ := am_arck
  intro t t0 h
  have g1 : Jvm.Cond.arrayClass .int ∈ Ts := hT _ (am_at_in h1)
  have g2 : Jvm.Cond.arrayClass .char ∈ Ts := hT _ (am_at_in h2)
  have g3 : Jvm.Cond.arrayClass .boolean ∈ Ts := hT _ (am_at_in h3)
  have g4 : Jvm.Cond.arrayClass .byte ∈ Ts := hT _ (am_at_in h4)
  have g5 : Jvm.Cond.arrayClass .long ∈ Ts := hT _ (am_at_in h5)
  clear h1 h2 h3 h4 h5
  cases t with
  | boolean => exact g3
  | char => exact g2
  | byte => exact g4
  | int => exact g1
  | long => exact g5
  | float => cases h
  | double => cases h
  | short => cases h
-- the constants: texts at their places, nests
def am_Kc (ak : Nat → Nat) (U : State) : Prop := (∀ q ∈ am_strs, vk_R q.1 q.2.1 q.2.2.1 (ak q.2.2.2) U) ∧ ∀ z ∈ am_nestT, va_Nw (.methodLinkNest z.1 z.2.1 z.2.2.1 z.2.2.2) U
theorem am_Kc_same {ak : Nat → Nat} {u U : State} (hv : U.vm = u.vm) (h : am_Kc ak u) : am_Kc ak U := ⟨fun q hq => (h.1 q hq).same hv, fun z hz => va_Nw.same rfl hv.symm (h.2 z hz)⟩
theorem am_Kc_warm {ak : Nat → Nat} {s U : State} (hW : s.WarmedH U.vm) (h : am_Kc ak s) : am_Kc ak U := ⟨fun q hq => (h.1 q hq).warm hW, fun z hz => va_Nw.warmM hW (h.2 z hz)⟩
def am_ckS (e : ((Nat × Nat) × Nat) × (String × Nat × String × Nat)) : Bool := decide (am_cn e.1.1.1 = e.2.1) && (decide (e.1.1.2 = e.2.2.1) && (decide (e.1.2 = e.2.2.2.2) && decide (1000 ≤ e.1.2)))
set_option maxRecDepth 100000 in
theorem am_sck : (am_sT.zip am_strs).all am_ckS = true := by decide +kernel
theorem am_KCok (c : Nat) {Ts : List Jvm.Cond} {ad ak : Nat → Nat} {s : State} (hT : ∀ w ∈ am_Ts, w ∈ Ts) (hs : am_Kc ak s) (ha : ∀ i, 1000 ≤ i → ad i = ak i) : am_KC (am_kc c) (am_cn c) ad Ts s := by
  intro idx v hv
  unfold am_kc at hv
  split at hv
  · next x hx =>
    cases hv
    obtain ⟨i, hi⟩ := am_zip (p := am_kiP) (by decide +kernel) (am_mem_look hx)
    exact Or.inl ⟨x, rfl, hT _ (am_at_in (List.all_eq_true.mp am_kick _ hi))⟩
  · obtain ⟨a, ha1, rfl⟩ := Option.map_eq_some_iff.mp hv
    obtain ⟨q, hq⟩ := am_zip (p := am_strs) (by decide +kernel) (am_mem_look ha1)
    have h := List.all_eq_true.mp am_sck _ hq
    unfold am_ckS at h
    simp only [Bool.and_eq_true, decide_eq_true_eq] at h
    obtain ⟨h1, h2, h3, h4⟩ := h
    refine Or.inr ⟨a, q.2.2.1, rfl, ?_⟩
    have hz := hs.1 q (List.of_mem_zip hq).2
    rw [← h1, ← h2, ← h3] at hz
    rw [ha a h4]
    exact hz
