/-- the constants: texts, nests, Throwable's two statics -/
def am_KK (ak : Nat → Nat) (A : Nat → Prop) (U : State) : Prop := am_Kc ak U ∧ (∃ u : RefV, va_Z Bundle.tN "UNASSIGNED_STACK" Bundle.steD u.v A U U.heap) ∧ ∃ u : RefV, va_Z Bundle.tN "SUPPRESSED_SENTINEL" Bundle.listD u.v A U U.heap
theorem am_KK_ok (ak : Nat → Nat) : am_K0 (am_KK ak) := by
  refine ⟨fun A U g mk a h => ?_, fun A A' s U h hW hk hA => ?_⟩
  · obtain ⟨h1, ⟨u, h2⟩, v, h3⟩ := h
    exact ⟨am_Kc_same rfl h1, ⟨u, va_Z.moved (u := U) (U := U.calling g mk a) (Vm.Alike.refl U.vm) h2⟩, v, va_Z.moved (u := U) (U := U.calling g mk a) (Vm.Alike.refl U.vm) h3⟩
  · obtain ⟨h1, ⟨u, h2⟩, v, h3⟩ := h
    exact ⟨am_Kc_warm hW h1, ⟨u, ((h2.kept hk).narrow hA).moved hW.alike⟩, v, ((h3.kept hk).narrow hA).moved hW.alike⟩
theorem am_isRef {C n d : String} {u : RefV} {A : Nat → Prop} {s : State} {args : Array Value} (h : va_Z C n d u.v A s s.heap) : (Jvm.Cond.isRef (.static C n d)).before args s = true := by
  obtain ⟨cf, kf, fi, f, a, cell, h1, h2, h3, h4, h5, h6, h7, h8⟩ := h
  have hv : (Term.static C n d).eval args s none [] s = some u.v := by simp [Term.eval, State.fieldNamed?, h1, h2, h4, h5, h6, h7]
  obtain ⟨w, hw⟩ := u
  cases w <;> first | (cases hw; done) | simp [Cond.before, Cond.holds, Cond.value, hv, Value.isRef]
abbrev am_okm (y : Nat) : Prop := y < am_me.length
theorem am_GG {tys : List (ClassId × FieldType)} {ct : Nat → Nat} (hTY : am_TY tys ct) (ak : Nat → Nat) : am_G am_okm am_cl tys ct ak (am_KK ak) am_nm am_bt am_wM am_co am_mL am_rt am_in am_fc am_fl am_kc am_kl (fun _ _ => none) (fun _ => none) am_cal am_oi am_nw := by
  refine ⟨am_KK_ok ak, hTY, fun y pc i h => am_fc_lt h, fun y hy => ?_⟩
  obtain ⟨h1, h2, h3, h4⟩ := am_ckM_ok (am_hM y hy)
  have hT := am_wM_in y
  rw [← h4]
  refine ⟨⟨am_Ts, rfl⟩, by rw [h4]; exact h3, fun z => of_decide_eq_true z, am_FLok _ hT, am_KLok _ hT, am_OIok _ hT, am_NWok _ hT, am_ARok hT, fun pc i hi => am_chk_ok (am_hD y hy) hi, fun A s args hK hts => ⟨am_CTok am_hM am_hC _ hT hK.1.2, fun ad ha => ⟨am_KCok _ hT hK.1 ha, fun _ _ z => (by cases z), fun _ _ _ z => (by cases z)⟩⟩⟩
/-- the machine over all methods of the claim -/
def am_all (thr : Nat → Nat → Option Nat) (fuel : Nat) : Nat → Nat → List Value → List va_E → Option am_R := am_run am_co am_mL am_rt am_in am_fc am_fl am_kc am_kl (fun _ _ => none) (fun _ => none) am_cal am_oi am_nw thr 1 6 fuel
/-- EVERY METHOD OF THE CLAIM MEETS ITS RUN (one that comes back) -/
theorem am_meets {l : Launch} {D : va_G} {tys : List (ClassId × FieldType)} {ct ak : Nat → Nat} {X : Nat → Nat → State → Prop} (hTY : am_TY tys ct) {thr : Nat → Nat → Option Nat} {fuel d y : Nat} {as : List Value} {h h' : List va_E} {v : Option Value} {nc ns : Nat} (hr : am_all thr fuel d y as h = some (.inl v, h', nc, ns)) (ad : Nat → Nat) (sz : Nat) :
    Met l (am_nm y) (am_wM y) (am_rm d nc ns) (am_Pre D am_cl ct tys ak (am_KK ak) ad h sz as) (am_Post D am_cl ct tys X ad h.length (va_A (am_ws ad ct h) sz) (.inl v) h' nc) nc ns (va_A (am_ws ad ct h) sz) := am_run_R (am_GG hTY ak) d y as h v h' nc ns hr ad sz
