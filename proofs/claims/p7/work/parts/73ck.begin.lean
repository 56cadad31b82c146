/-! ===== what lies there at the loop's start, as two states ===== -/
/-- both objects, made: one state serves for both sides -/
def z0 : cm_S := (fun k => if k = 6 then 18 else if k = 7 then 27 else if k = 3602 then 27 else if k = 3704 then 18 else if k = 301 then -1 else if k = 4109 then -1 else 0, fun _ _ => 0)
def eqE (e e' : va_E) : Bool := match e, e' with
  | .inl (t, n, .inl f), .inl (t', n', .inl f') => decide (t = t') && (decide (n = n') && (List.range n).all fun j => decide (f j = f' j))
  | .inl (t, n, .inr (.inl f)), .inl (t', n', .inr (.inl f')) => decide (t = t') && (decide (n = n') && (List.range n).all fun j => decide (f j = f' j))
  | .inr o, .inr o' => decide (o.1 = o'.1) && decide (o.2 = o'.2)
  | _, _ => false
def isOut (e : va_E) : Bool := match e with
  | .inl (t, n, .inr (.inl _)) => decide (t = 4) && decide (n = 1)
  | _ => false
def ckS (h : List va_E) : Bool := decide (h.length = 73) && ((List.range 73).all fun a => match h[a]? with
  | some e => if a < 72 then eqE e (cm_cell z0 a) else isOut e
  | none => false)
set_option maxRecDepth 1000000 in
theorem ckS_d : (match am_s1r with
    | some r => ckS r.1.2.2.2
    | none => false) = true := by decide +kernel
theorem arr_same {cA : ClassId} {n : Nat} {f g : Nat → Value} (h : ∀ j, j < n → f j = g j) : arrV cA n f = arrV cA n g := by
  have e : (fun j : Fin n => f j.val) = fun j : Fin n => g j.val := funext fun j => h j.val j.isLt
  unfold arrV
  rw [e]
theorem eqE_at {D : va_G} {ad ct : Nat → Nat} {a : Nat} {e e' : va_E} {Hh : Heap} (h : eqE e e' = true) (hv : va_at D am_cl (a, am_te ad ct e) Hh) : va_at D am_cl (a, am_te ad ct e') Hh := by
  unfold eqE at h
  split at h
  · next t n f t' n' f' =>
    obtain ⟨h1, h⟩ := j_and h
    obtain ⟨h2, h3⟩ := j_and h
    obtain rfl := of_decide_eq_true h1
    obtain rfl := of_decide_eq_true h2
    have hv : Hh[a]? = some (arrV (ct t) n (fun j => .int (f j))) := hv
    show Hh[a]? = some (arrV (ct t) n (fun j => .int (f' j)))
    rw [hv, arr_same (fun j hj => by rw [of_decide_eq_true (List.all_eq_true.mp h3 j (List.mem_range.mpr hj))])]
  · next t n f t' n' f' =>
    obtain ⟨h1, h⟩ := j_and h
    obtain ⟨h2, h3⟩ := j_and h
    obtain rfl := of_decide_eq_true h1
    obtain rfl := of_decide_eq_true h2
    have hv : Hh[a]? = some (arrV (ct t) n (fun j => .long (f j))) := hv
    show Hh[a]? = some (arrV (ct t) n (fun j => .long (f' j)))
    rw [hv, arr_same (fun j hj => by rw [of_decide_eq_true (List.all_eq_true.mp h3 j (List.mem_range.mpr hj))])]
  · next o o' =>
    obtain ⟨h1, h2⟩ := j_and h
    have e : o = o' := Prod.ext (of_decide_eq_true h1) (of_decide_eq_true h2)
    rw [← e]
    exact hv
  · cases h
theorem ws_len (ad ct : Nat → Nat) (h : List va_E) : (am_ws ad ct h).length = h.length := by simp [am_ws]
/-- the cells that the constructors left are those of the state z0 -/
theorem st_two {H : List va_E} (hS : ckS H = true) : okO H ∧ ∀ {D : va_G} {ad ct : Nat → Nat} {A : Nat → Prop} {Hh : Heap}, va_P D am_cl (am_ws ad ct H) Hh → va_D A (am_ws ad ct H) → va_P D am_cl (am_ws ad ct (cm_two z0 z0 H)) Hh ∧ va_D A (am_ws ad ct (cm_two z0 z0 H)) := by
  obtain ⟨h1, h2⟩ := j_and hS
  replace h1 := of_decide_eq_true h1
  have hat : ∀ a, a < 73 → ∃ e, H[a]? = some e ∧ (if a < 72 then eqE e (cm_cell z0 a) else isOut e) = true := by
    intro a ha
    have := List.all_eq_true.mp h2 a (List.mem_range.mpr ha)
    cases he : H[a]? with
    | none => rw [he] at this; cases this
    | some e => rw [he] at this; exact ⟨e, rfl, this⟩
  have hO : okO H := by
    refine ⟨h1, ?_⟩
    obtain ⟨e, he, hk⟩ := hat 72 (by omega)
    rw [if_neg (by omega)] at hk
    unfold isOut at hk
    split at hk
    · next t n g =>
      obtain ⟨k1, k2⟩ := j_and hk
      obtain rfl := of_decide_eq_true k1
      obtain rfl := of_decide_eq_true k2
      exact ⟨g, he⟩
    · cases hk
  refine ⟨hO, fun {D ad ct A Hh} hP hD => ?_⟩
  have hcell : ∀ a, a < 72 → (cm_two z0 z0 H)[a]? = some (cm_cell z0 a) := by
    intro a ha
    unfold cm_two
    by_cases h41 : a < 41
    · rw [cm_mix_at (by omega) h41 (by rw [cm_mix_len]; omega)]
    · rw [cm_mix_no (by omega), cm_mix_at (by omega) (by omega) (by omega)]
  have hkey : ∀ (k : Nat) (q : Nat × va_E), (am_ws ad ct (cm_two z0 z0 H))[k]? = some q → ∃ e, H[k]? = some e ∧ q.1 = ad k ∧ (k < 72 → eqE e (cm_cell z0 k) = true ∧ q.2 = am_te ad ct (cm_cell z0 k)) ∧ (¬ k < 72 → q.2 = am_te ad ct e) := by
    intro k q hq
    have hk : k < 73 := by
      have := (List.getElem?_eq_some_iff.mp hq).1
      rw [ws_len, two_len hO] at this
      exact this
    obtain ⟨e, he, hc⟩ := hat k hk
    refine ⟨e, he, ?_⟩
    by_cases h72 : k < 72
    · rw [am_ws_at (hcell k h72)] at hq
      cases hq
      rw [if_pos h72] at hc
      exact ⟨rfl, fun _ => ⟨hc, rfl⟩, fun z => absurd h72 z⟩
    · obtain rfl : k = 72 := by omega
      rw [am_ws_at (two_72.trans he)] at hq
      cases hq
      exact ⟨rfl, fun z => absurd z h72, fun _ => rfl⟩
  constructor
  · intro k q hq
    obtain ⟨e, he, q1, q2, q3⟩ := hkey k q hq
    have h3 := hP k _ (am_ws_at he)
    obtain ⟨qa, qe⟩ := q
    obtain rfl : qa = ad k := q1
    by_cases h72 : k < 72
    · obtain ⟨k1, k2⟩ := q2 h72
      obtain rfl : qe = _ := k2
      exact eqE_at k1 h3
    · obtain rfl : qe = _ := q3 h72
      exact h3
  · refine ⟨fun i j x y hx hy he => ?_, fun k q hq => ?_⟩
    · obtain ⟨e1, g1, g2, -⟩ := hkey i x hx
      obtain ⟨e2, g3, g4, -⟩ := hkey j y hy
      exact hD.1 i j _ _ (am_ws_at g1) (am_ws_at g3) (by show ad i = ad j; rw [← g2, ← g4]; exact he)
    · obtain ⟨e1, g1, g2, -⟩ := hkey k q hq
      rw [g2]
      exact hD.2 k _ (am_ws_at g1)
theorem z0_cs : cm_cs 0 41 z0 ∧ cm_cs 41 72 z0 := by
  have h1 : ∀ k, cm_in (z0.1 k) := by
    intro k
    show cm_in (if k = 6 then 18 else if k = 7 then 27 else if k = 3602 then 27 else if k = 3704 then 18 else if k = 301 then -1 else if k = 4109 then -1 else 0)
    repeat' split
    all_goals exact ⟨by omega, by omega⟩
  have h2 : ∀ a j, cm_in (z0.2 a j) := fun _ _ => ⟨by show (-2147483648 : Int) ≤ 0; omega, by show (0 : Int) < 2147483648; omega⟩
  have hc : (List.range 72).all (fun a => (List.range 60).all fun j => decide (cm_fk (cm_cl a) j ≠ 2 ∨ (a < 41 ∧ 0 ≤ (z0.1 (100 * a + j)).toNat ∧ (z0.1 (100 * a + j)).toNat < 41))) = true := by decide +kernel
  have h3 : ∀ a j, a < 72 → cm_fk (cm_cl a) j = 2 → a < 41 ∧ (z0.1 (100 * a + j)).toNat < 41 := by
    intro a j ha hk
    have hn := cm_fk_nf (c := cm_cl a) (j := j) (by omega)
    have hl := cm_nf_le (cm_cl a)
    have := of_decide_eq_true (List.all_eq_true.mp (List.all_eq_true.mp hc a (List.mem_range.mpr ha)) j (List.mem_range.mpr (by omega)))
    rcases this with z | z
    · exact absurd hk z
    · exact ⟨z.1, z.2.2⟩
  refine ⟨⟨h1, h2, fun a j ha hb hk => ?_⟩, ⟨h1, h2, fun a j ha hb hk => ?_⟩⟩
  · have := h3 a j (by omega) hk
    left
    exact ⟨by omega, this.2⟩
  · have := h3 a j (by omega) hk
    omega
/-- type, on both sides -/
theorem ty_c {s r : cm_S} {h0 : List va_E} (hO : okO h0) {w : Int64} {n : Int32} {t : Nat} (hts : s.1 101 = (t : Int)) (ht : t ≤ 480) : jRun 400 9 [.ref 0, .long w, .int n] (cm_two s r h0) (.inl (some (.int (am_zb (am_tyv w n t)))), cm_two (if am_tyv w n t = true then tyS w n.toNatClampNeg t s else s) r h0, 0, 0) := by
  refine ⟨3000, fun F d k1 k2 => ?_⟩
  have h1 := am_rTyp2 (h0 := cm_mix 41 72 r h0) (by rw [cm_mix_len, hO.1]; omega) (d := 0) (w := w) (n := n) hts ht
  exact (am_run_mono k1 3 d 9 _ _ _ (by omega) (by rw [cm_mix_len, cm_mix_len, hO.1]; omega) h1).1
theorem ty_r {s r : cm_S} {h0 : List va_E} (hO : okO h0) {w : Int64} {n : Int32} {t : Nat} (hts : r.1 4106 = (t : Int)) (ht : t ≤ 480) : jRun 400 172 [.ref 41, .long w, .int n] (cm_two s r h0) (.inl (some (.int (am_zb (am_tyv w n t)))), cm_two s (if am_tyv w n t = true then tyR w n.toNatClampNeg t (cm_p r 4103 0) else cm_p r 4103 0) h0, 0, 0) := by
  refine ⟨3000, fun F d k1 k2 => ?_⟩
  have h1 := am_rMTyp2 (h0 := cm_mix 0 41 s h0) (by rw [cm_mix_len, hO.1]; omega) (d := 0) (w := w) (n := n) hts ht
  have h2 := (am_run_mono k1 2 d 172 _ _ _ (by omega) (by rw [cm_mix_len, cm_mix_len, hO.1]; omega) h1).1
  unfold cm_two
  rw [mix_comm, mix_comm]
  exact h2
theorem tyS_cs {w : Int64} : ∀ (j t : Nat) (s : cm_S), j ≤ 8 → t + j ≤ 480 → am_ok8 w j = true → cm_cs 0 41 s → cm_cs 0 41 (tyS w j t s)
  | 0, _, _, _, _, _, h => h
  | j + 1, t, s, hj, ht, hok, h => by
    have hok2 : am_ty (am_cb w (am_lc (j + 1))) = true ∧ am_ok8 w j = true := by
      unfold am_ok8 at hok
      rwa [Bool.and_eq_true] at hok
    refine tyS_cs j (t + 1) _ (by omega) (by omega) hok2.2 ?_
    exact cm_cs_p (a := 1) (j := 1) (cm_cs_q h (cm_in32 _)) ⟨by omega, by omega⟩ (by omega) (fun z => absurd z (by decide))
theorem tyR_cs {w : Int64} : ∀ (j t : Nat) (s : cm_S), j ≤ 8 → t + j ≤ 480 → am_ok8 w j = true → cm_cs 41 72 s → cm_cs 41 72 (tyR w j t s)
  | 0, _, _, _, _, _, h => h
  | j + 1, t, s, hj, ht, hok, h => by
    have hok2 : am_ty (am_cb w (am_lc (j + 1))) = true ∧ am_ok8 w j = true := by
      unfold am_ok8 at hok
      rwa [Bool.and_eq_true] at hok
    refine tyR_cs j (t + 1) _ (by omega) (by omega) hok2.2 ?_
    exact cm_cs_p (a := 41) (j := 6) (cm_cs_q h (cm_in32 _)) ⟨by omega, by omega⟩ (by omega) (fun z => absurd z (by decide))
theorem p4103_cs {r : cm_S} {z : Int} (h : cm_cs 41 72 r) (hz : cm_in z) : cm_cs 41 72 (cm_p r 4103 z) := cm_cs_p (a := 41) (j := 3) h hz (by omega) (fun z => absurd z (by decide))
theorem tyv_n {w : Int64} {n : Int32} {t : Nat} (ht : t ≤ 480) (h : am_tyv w n t = true) : n.toNatClampNeg ≤ 8 ∧ t + n.toNatClampNeg ≤ 480 ∧ am_ok8 w n.toNatClampNeg = true := by
  unfold am_tyv at h
  simp only [Bool.and_eq_true, Bool.not_eq_true', decide_eq_false_iff_not, decide_eq_true_eq] at h
  obtain ⟨h1, h2, h3, h4⟩ := h
  obtain ⟨k, hk, rfl⟩ := am_n18 h1 h2
  obtain ⟨-, e5⟩ := am_n8 k hk
  have e3 := am_t481 t (by omega) k hk h3
  rw [e5] at h4 ⊢
  exact ⟨by omega, e3, h4⟩
