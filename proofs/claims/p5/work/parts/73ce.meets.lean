/-! ===== EVERY METHOD MEETS ITS RUN, texts and all ===== -/
theorem am_GSok {ad ak : Nat → Nat} {A : Nat → Prop} {s : State} (hK : am_KY ak A s) (hak : ∀ i, 1000 ≤ i → ad i = ak i) (co : Nat) {Ts : List Jvm.Cond} (hT : ∀ w ∈ am_Ts, w ∈ Ts) : am_GS (am_gs2 co) (am_cn co) ad A Ts s := by
  intro idx v h
  unfold am_gs2 at h
  obtain ⟨h1, h2⟩ := am_if h
  cases h2
  obtain ⟨h1, h2⟩ := j_and h1
  have e1 : co = 10 := by simpa using h1
  have e2 : idx = 7 := by simpa using h2
  subst e1; subst e2
  refine ⟨"ScriptFront$Token", "SIGNS", "[I", ?_, hT _ (am_at_in (i := 763) (by decide +kernel))⟩
  show va_Z _ _ _ (.ref (ad 1039)) A s s.heap
  rw [hak 1039 (by omega)]
  exact hK.2.2.2.2.1
theorem am_ROok {ad ak : Nat → Nat} {A : Nat → Prop} {s : State} (hK : am_KY ak A s) (hak : ∀ i, 1000 ≤ i → ad i = ak i) : am_RO am_ro2 ad A s := by
  intro a n f h
  unfold am_ro2 at h
  obtain ⟨h1, h2⟩ := cm_if_eq h
  cases h2
  subst h1
  rw [hak 1039 (by omega)]
  exact hK.2.2.2.2.2
section JXM
variable {l : Launch} {D : va_G} {tys : List (ClassId × FieldType)} {ct ak : Nat → Nat} {X : Nat → Nat → State → Prop} {F : Nat}
set_option maxHeartbeats 1000000 in
/-- one that comes back -/
theorem am_run2_R (hTY : am_TY tys ct) : ∀ (d y : Nat) (as : List Value) (h : List va_E) (v : Option Value) (h' : List va_E) (nc ns : Nat), y < 400 → am_run2 F d y as h = some (.inl v, h', nc, ns) → ∀ (ad : Nat → Nat) (sz : Nat), Met l (am_nm y) (am_wM y) (am_rm d nc ns) (am_Pre D am_cl ct tys ak (am_KY ak) ad h sz as) (am_Post D am_cl ct tys X ad h.length (va_A (am_ws ad ct h) sz) (.inl v) h' nc) nc ns (va_A (am_ws ad ct h) sz) := by
  obtain ⟨-, -, hok, hall⟩ := am_GX hTY ak
  intro d
  induction d with
  | zero => intro y as h v h' nc ns _ hr; cases hr
  | succ d ih =>
    intro y as h v h' nc ns hy hr ad sz
    rw [am_run2, if_neg (by omega)] at hr
    obtain ⟨hw, hex⟩ := am_if hr
    have hw := of_decide_eq_true hw
    obtain ⟨i0, hi0⟩ := am_exec_pos hex
    obtain ⟨⟨ws', hws⟩, hpl, hini, hFL, hKL, hOI, hNW, hAR, hfe, hdyn⟩ := hall y (hok y 0 i0 hi0)
    have hcn : am_cn (am_co y) = (am_nm y).cls := (am_ckM_ok (am_hM y (hok y 0 i0 hi0))).2.2.2
    have hT := am_wM_in y
    refine Met.ofW (cc := am_bt y) (maxL := am_mL y) (ret := am_rt y) hpl hws ?_
    intro p e s m args below meth c s₁ B hml hv
    obtain ⟨rfl, hsz, hP, hK, hD0, hak, hK0⟩ := hv
    have hts := atoms_spec (ws := am_wM y) B.pre
    subst hsz
    have hD := hD0.self (sz := s.heap.size)
    obtain ⟨hCT, hKGR⟩ := hdyn _ s _ hK0.1 hts
    have hl := lv_entry (as.map (am_tv ad)) (n := am_mL y) (by rw [am_sl_len, am_cats]; exact hw)
    rw [lg_entry_eq]
    generalize (lg_sl (as.map (am_tv ad)) ++ List.replicate (am_mL y - (lg_sl (as.map (am_tv ad))).length) Slot.unset).toArray = ls at hl ⊢
    rw [← am_args_lv] at hl
    have hm : am_M p l s m (as.map (am_tv ad)).toArray meth c (am_rm (d + 1) nc ns) (am_bt y) D am_cl (va_A (am_ws ad ct h) s.heap.size) tys ct ak (am_wM y) (am_nm y).cls (am_mL y) (am_KY ak) (am_cal (am_co y)) am_nm am_bt am_mL am_rt am_wM (am_fl (am_co y)) (am_kc (am_co y)) (am_kl (am_co y)) (am_gs2 (am_co y)) am_ro2 (am_in y) (am_fc y) (am_oi (am_co y)) (am_nw (am_co y)) (am_rt y) d :=
      ⟨B.exec, B.bytes, hml, hts, findClass_of_methodNamed B.named, B.notSynchronized, B.returns, hK, am_KY_ok ak, hK0, fun q hq => Or.inr hq, hFL, fun ad2 ha2 => ⟨(hKGR ad2 ha2).1, by rw [← hcn]; exact am_GSok hK0 ha2 _ hT, am_ROok hK0 ha2⟩, hKL, hTY, fun z => (name_of_methodNamed B.named B.method).1.trans (hini z), hCT, hOI, hNW, hAR, hfe, by show d + 9 ≤ d + 1 + 8; omega, Nat.le_refl _⟩
    exact am_exec_R2 (X := X) (thr := am_thr y) (xc := 1) (xs := 6) (run := am_run2 F d) hm hcn hT (fun y as h r hy hr => am_run2_tx hTY hy hr) ih (ad0 := ad) (n0 := h.length) (NC := nc) (NS := ns) (Nat.le_refl _) (Nat.le_refl _) F 0 (lv_args 0 as) [] h nc ns hex ad s.heap [] 0 0 ls (by omega) (by omega) hP hD va_S.rf hl hak (fun _ _ => rfl) (Nat.le_refl _) (fun _ => rfl)
set_option maxHeartbeats 1000000 in
/-- one that throws -/
theorem am_run2_T (hfl : ∀ e : Env, l.admits e → e.platform.stackTraces = false) (hTY : am_TY tys ct) : ∀ (d y : Nat) (as : List Value) (h : List va_E) (ex : Nat) (h' : List va_E) (nc ns : Nat), y < 400 → am_run2 F d y as h = some (.inr ex, h', nc, ns) → ∀ (ad : Nat → Nat) (sz : Nat), am_MT l (am_nm y) (am_wM y) (am_rm d nc ns) (am_Pre D am_cl ct tys ak (am_KY ak) ad h sz as) (am_Post D am_cl ct tys (am_X am_xn) ad h.length (va_A (am_ws ad ct h) sz) (.inr ex) h' nc) nc ns (va_A (am_ws ad ct h) sz) := by
  obtain ⟨-, -, hok, hall⟩ := am_GX hTY ak
  intro d
  induction d with
  | zero => intro y as h v h' nc ns _ hr; cases hr
  | succ d ih =>
    intro y as h ex h' nc ns hy4 hr ad sz
    rw [am_run2, if_neg (by omega)] at hr
    obtain ⟨hw, hex⟩ := am_if hr
    have hw := of_decide_eq_true hw
    have hy : am_okm y := by
      rcases am_exec_posT hex with ⟨e1, he1⟩ | ⟨i0, hi0⟩
      · exact am_thr_ok he1
      · exact hok y 0 i0 hi0
    obtain ⟨⟨ws', hws⟩, hpl, hini, hFL, hKL, hOI, hNW, hAR, hfe, hdyn⟩ := hall y hy
    have hcn : am_cn (am_co y) = (am_nm y).cls := (am_ckM_ok (am_hM y hy)).2.2.2
    have hT := am_wM_in y
    refine am_MT.ofW (cc := am_bt y) (maxL := am_mL y) (ret := am_rt y) hpl hws ?_
    intro p e s m args below meth c s₁ B hml hv
    obtain ⟨rfl, hsz, hP, hK, hD0, hak, hK0⟩ := hv
    have hts := atoms_spec (ws := am_wM y) B.pre
    subst hsz
    have hD := hD0.self (sz := s.heap.size)
    obtain ⟨hCT, hKGR⟩ := hdyn _ s _ hK0.1 hts
    have hnh : c.exceptionTable.isEmpty = true := B.noHandlers (hts _ (by rw [hws]; exact List.mem_cons_self))
    have hl := lv_entry (as.map (am_tv ad)) (n := am_mL y) (by rw [am_sl_len, am_cats]; exact hw)
    rw [lg_entry_eq]
    generalize (lg_sl (as.map (am_tv ad)) ++ List.replicate (am_mL y - (lg_sl (as.map (am_tv ad))).length) Slot.unset).toArray = ls at hl ⊢
    rw [← am_args_lv] at hl
    have hm : am_M p l s m (as.map (am_tv ad)).toArray meth c (am_rm (d + 1) nc ns) (am_bt y) D am_cl (va_A (am_ws ad ct h) s.heap.size) tys ct ak (am_wM y) (am_nm y).cls (am_mL y) (am_KY ak) (am_cal (am_co y)) am_nm am_bt am_mL am_rt am_wM (am_fl (am_co y)) (am_kc (am_co y)) (am_kl (am_co y)) (am_gs2 (am_co y)) am_ro2 (am_in y) (am_fc y) (am_oi (am_co y)) (am_nw (am_co y)) (am_rt y) d :=
      ⟨B.exec, B.bytes, hml, hts, findClass_of_methodNamed B.named, B.notSynchronized, B.returns, hK, am_KY_ok ak, hK0, fun q hq => Or.inr hq, hFL, fun ad2 ha2 => ⟨(hKGR ad2 ha2).1, by rw [← hcn]; exact am_GSok hK0 ha2 _ hT, am_ROok hK0 ha2⟩, hKL, hTY, fun z => (name_of_methodNamed B.named B.method).1.trans (hini z), hCT, hOI, hNW, hAR, hfe, by show d + 9 ≤ d + 1 + 8; omega, Nat.le_refl _⟩
    have hsi : am_SI p l e (am_rm (d + 1) nc ns) s m (as.map (am_tv ad)).toArray below meth c D am_cl (va_A (am_ws ad ct h) s.heap.size) tys ct ak (am_mL y) (am_X am_xn) (am_thr y) 1 6 :=
      am_site am_xn (hfl e (Stand.of_body B).admits) B.exec B.bytes hml hts (findClass_of_methodNamed B.named) B.notSynchronized hnh hK (fun q hq => Or.inr hq) (fun aS cS h1 h2 => am_NA hP h1 h2) (by show 9 ≤ d + 1 + 8; omega) (by show 400 ≤ (d + 1) * 40 + 400; omega) (fun pc ex hp => am_STall hp hy hts hK0.1)
    exact am_exec_T2 (X := am_X am_xn) (thr := am_thr y) (xc := 1) (xs := 6) (run := am_run2 F d) (am_X_o am_xn) hnh hm hcn hT (fun y as h r hy hr => am_run2_tx hTY hy hr) (am_run2_R (X := am_X am_xn) (F := F) hTY d) ih (ad0 := ad) (n0 := h.length) (NC := nc) (NS := ns) (Nat.le_refl _) (Nat.le_refl _) (hsi ad h.length nc ns (Nat.le_refl _) (Nat.le_refl _)) F 0 (lv_args 0 as) [] h nc ns hex ad s.heap [] 0 0 ls (by omega) (by omega) hP hD va_S.rf hl hak (fun _ _ => rfl) (Nat.le_refl _) (fun _ => rfl)
end JXM
