/-! ===== more steps, and runs that know more, end as before ===== -/
def cm_G (x : Option cm_R) (X : Nat → Option cm_R) : Prop := ∀ r, x = some r → ∃ N, ∀ n, N ≤ n → X n = some r
section CM1
theorem cm_g_c {x : Option cm_R} : cm_G x (fun _ => x) := fun _ h => ⟨0, fun _ _ => h⟩
theorem cm_g_i1 {st : List cm_V} {f : Int → List cm_V → Option cm_R} {F : Nat → Int → List cm_V → Option cm_R} (h : ∀ x r, cm_G (f x r) (fun n => F n x r)) : cm_G (cm_i1 st f) (fun n => cm_i1 st (F n)) := by
  unfold cm_i1
  split
  · exact h _ _
  · exact cm_g_c
theorem cm_g_i2 {st : List cm_V} {f : Int → Int → List cm_V → Option cm_R} {F : Nat → Int → Int → List cm_V → Option cm_R} (h : ∀ x y r, cm_G (f x y r) (fun n => F n x y r)) : cm_G (cm_i2 st f) (fun n => cm_i2 st (F n)) := by
  unfold cm_i2
  split
  · exact h _ _ _
  · exact cm_g_c
theorem cm_g_l1 {st : List cm_V} {f : Int → List cm_V → Option cm_R} {F : Nat → Int → List cm_V → Option cm_R} (h : ∀ x r, cm_G (f x r) (fun n => F n x r)) : cm_G (cm_l1 st f) (fun n => cm_l1 st (F n)) := by
  unfold cm_l1
  split
  · exact h _ _
  · exact cm_g_c
theorem cm_g_l2 {st : List cm_V} {f : Int → Int → List cm_V → Option cm_R} {F : Nat → Int → Int → List cm_V → Option cm_R} (h : ∀ x y r, cm_G (f x y r) (fun n => F n x y r)) : cm_G (cm_l2 st f) (fun n => cm_l2 st (F n)) := by
  unfold cm_l2
  split
  · exact h _ _ _
  · exact cm_g_c
theorem cm_g_il {st : List cm_V} {f : Int → Int → List cm_V → Option cm_R} {F : Nat → Int → Int → List cm_V → Option cm_R} (h : ∀ x y r, cm_G (f x y r) (fun n => F n x y r)) : cm_G (cm_il st f) (fun n => cm_il st (F n)) := by
  unfold cm_il
  split
  · exact h _ _ _
  · exact cm_g_c
theorem cm_g_r1 {st : List cm_V} {f : Nat → List cm_V → Option cm_R} {F : Nat → Nat → List cm_V → Option cm_R} (h : ∀ x r, cm_G (f x r) (fun n => F n x r)) : cm_G (cm_r1 st f) (fun n => cm_r1 st (F n)) := by
  unfold cm_r1
  split
  · exact h _ _
  · exact cm_g_c
theorem cm_g_ri {st : List cm_V} {f : Nat → Int → List cm_V → Option cm_R} {F : Nat → Nat → Int → List cm_V → Option cm_R} (h : ∀ x y r, cm_G (f x y r) (fun n => F n x y r)) : cm_G (cm_ri st f) (fun n => cm_ri st (F n)) := by
  unfold cm_ri
  split
  · exact h _ _ _
  · exact cm_g_c
theorem cm_g_zr {st : List cm_V} {f : Nat → Int → List cm_V → Option cm_R} {F : Nat → Nat → Int → List cm_V → Option cm_R} (h : ∀ x y r, cm_G (f x y r) (fun n => F n x y r)) : cm_G (cm_zr st f) (fun n => cm_zr st (F n)) := by
  unfold cm_zr
  split
  · exact h _ _ _
  · exact cm_g_c
theorem cm_g_rr {st : List cm_V} {f : Nat → Nat → List cm_V → Option cm_R} {F : Nat → Nat → Nat → List cm_V → Option cm_R} (h : ∀ x y r, cm_G (f x y r) (fun n => F n x y r)) : cm_G (cm_rr st f) (fun n => cm_rr st (F n)) := by
  unfold cm_rr
  split
  · exact h _ _ _
  · exact cm_g_c
theorem cm_g_rii {st : List cm_V} {f : Nat → Int → Int → List cm_V → Option cm_R} {F : Nat → Nat → Int → Int → List cm_V → Option cm_R} (h : ∀ x y z r, cm_G (f x y z r) (fun n => F n x y z r)) : cm_G (cm_rii st f) (fun n => cm_rii st (F n)) := by
  unfold cm_rii
  split
  · exact h _ _ _ _
  · exact cm_g_c
theorem cm_g_dp {st : List cm_V} {f : cm_V → List cm_V → Option cm_R} {F : Nat → cm_V → List cm_V → Option cm_R} (h : ∀ x r, cm_G (f x r) (fun n => F n x r)) : cm_G (cm_dp st f) (fun n => cm_dp st (F n)) := by
  unfold cm_dp
  split
  · exact h _ _
  · exact h _ _
  · exact cm_g_c
theorem cm_g_li {lv : cm_L} {j : Nat} {f : Int → Option cm_R} {F : Nat → Int → Option cm_R} (h : ∀ x, cm_G (f x) (fun n => F n x)) : cm_G (cm_li lv j f) (fun n => cm_li lv j (F n)) := by
  unfold cm_li
  split
  · exact h _
  · exact cm_g_c
theorem cm_g_lr {lv : cm_L} {j : Nat} {f : Nat → Option cm_R} {F : Nat → Nat → Option cm_R} (h : ∀ x, cm_G (f x) (fun n => F n x)) : cm_G (cm_lr lv j f) (fun n => cm_lr lv j (F n)) := by
  unfold cm_lr
  split
  · exact h _
  · exact cm_g_c
theorem cm_g_ll {lv : cm_L} {j : Nat} {f : Int → Option cm_R} {F : Nat → Int → Option cm_R} (h : ∀ x, cm_G (f x) (fun n => F n x)) : cm_G (cm_ll lv j f) (fun n => cm_ll lv j (F n)) := by
  unfold cm_ll
  split
  · exact h _
  · exact cm_g_c
theorem cm_g_po {r : Bool} {m : Nat} {st : List cm_V} {f : List cm_V → List cm_V → Option cm_R} {F : Nat → List cm_V → List cm_V → Option cm_R} (h : ∀ x y, cm_G (f x y) (fun n => F n x y)) : cm_G (cm_po r m st f) (fun n => cm_po r m st (F n)) := by
  unfold cm_po
  split
  · exact h _ _
  · exact cm_g_c
theorem cm_g_rcv {as : List cm_V} {f : Nat → Option cm_R} {F : Nat → Nat → Option cm_R} (h : ∀ x, cm_G (f x) (fun n => F n x)) : cm_G (cm_rcv as f) (fun n => cm_rcv as (F n)) := by
  unfold cm_rcv
  split
  · exact h _
  · exact cm_g_c
theorem cm_g_if {c : Prop} [Decidable c] {x y : Option cm_R} {X Y : Nat → Option cm_R} (h1 : cm_G x X) (h2 : cm_G y Y) : cm_G (if c then x else y) (fun n => if c then X n else Y n) := by
  by_cases hc : c
  · simp only [if_pos hc]; exact h1
  · simp only [if_neg hc]; exact h2
theorem cm_g_br {c : ClassFile.Cond} {a b : Int} {x y : Option cm_R} {X Y : Nat → Option cm_R} (h1 : cm_G x X) (h2 : cm_G y Y) : cm_G (cm_br c a b x y) (fun n => cm_br c a b (X n) (Y n)) := by
  cases c <;> first | exact cm_g_if h1 h2 | exact cm_g_if h2 h1
theorem cm_g_sw {x d : Int} {f : Int → Option cm_R} {F : Nat → Int → Option cm_R} (h : ∀ t, cm_G (f t) (fun n => F n t)) : ∀ ps : List (Int × Int), cm_G (cm_sw x f d ps) (fun n => cm_sw x (F n) d ps)
  | [] => h d
  | q :: r => cm_g_if (h q.2) (cm_g_sw h r)
theorem cm_g_bi {R : Nat → Option cm_R} {x : Option cm_R} (hx : ∀ r, x = some r → ∃ N, ∀ n, N ≤ n → R n = some r) {f : Int → cm_S → Option cm_R} {F : Nat → Int → cm_S → Option cm_R} (h : ∀ z s, cm_G (f z s) (fun n => F n z s)) : cm_G (cm_bi x f) (fun n => cm_bi (R n) (F n)) := by
  intro r hr
  unfold cm_bi at hr
  split at hr
  · next z s =>
    obtain ⟨N1, h1⟩ := hx _ rfl
    obtain ⟨N2, h2⟩ := h z s r hr
    refine ⟨max N1 N2, fun n hn => ?_⟩
    show cm_bi (R n) (F n) = some r
    rw [h1 n (by omega)]
    exact h2 n (by omega)
  · next e s =>
    obtain ⟨N1, h1⟩ := hx _ rfl
    refine ⟨N1, fun n hn => ?_⟩
    show cm_bi (R n) (F n) = some r
    rw [h1 n hn]
    exact hr
  · cases hr
theorem cm_g_bv {R : Nat → Option cm_R} {x : Option cm_R} (hx : ∀ r, x = some r → ∃ N, ∀ n, N ≤ n → R n = some r) {f : cm_S → Option cm_R} {F : Nat → cm_S → Option cm_R} (h : ∀ s, cm_G (f s) (fun n => F n s)) : cm_G (cm_bv x f) (fun n => cm_bv (R n) (F n)) := by
  intro r hr
  unfold cm_bv at hr
  split at hr
  · next s =>
    obtain ⟨N1, h1⟩ := hx _ rfl
    obtain ⟨N2, h2⟩ := h s r hr
    refine ⟨max N1 N2, fun n hn => ?_⟩
    show cm_bv (R n) (F n) = some r
    rw [h1 n (by omega)]
    exact h2 n (by omega)
  · next e s =>
    obtain ⟨N1, h1⟩ := hx _ rfl
    refine ⟨N1, fun n hn => ?_⟩
    show cm_bv (R n) (F n) = some r
    rw [h1 n hn]
    exact hr
  · cases hr
end CM1
set_option maxHeartbeats 2000000 in
theorem cm_blk_G {run : cm_RN} {R : Nat → cm_RN} {X : cm_X} {XX : Nat → cm_X} {code : List Instr} (hR : ∀ y as s, cm_G (run y as s) fun n => R n y as s) (hX : ∀ t lv st s, cm_G (X t lv st s) fun n => XX n t lv st s) : ∀ (m : Nat) (rest : List Instr) (lv : cm_L) (st : List cm_V) (s : cm_S), cm_G (cm_blk run X code m rest lv st s) (fun n => cm_blk (R n) (XX n) code m rest lv st s) := by
  intro m
  induction m with
  | zero => intro rest lv st s r hr; cases hr
  | succ m ih =>
    intro rest lv st s
    cases rest with
    | nil => exact cm_g_c
    | cons i r =>
      cases i <;> simp only [cm_blk] <;> repeat' first
        | exact ih _ _ _ _
        | exact hX _ _ _ _
        | exact cm_g_c
        | refine cm_g_i1 fun _ _ => ?_
        | refine cm_g_i2 fun _ _ _ => ?_
        | refine cm_g_l1 fun _ _ => ?_
        | refine cm_g_l2 fun _ _ _ => ?_
        | refine cm_g_il fun _ _ _ => ?_
        | refine cm_g_r1 fun _ _ => ?_
        | refine cm_g_ri fun _ _ _ => ?_
        | refine cm_g_zr fun _ _ _ => ?_
        | refine cm_g_rr fun _ _ _ => ?_
        | refine cm_g_rii fun _ _ _ _ => ?_
        | refine cm_g_dp fun _ _ => ?_
        | refine cm_g_li fun _ => ?_
        | refine cm_g_lr fun _ => ?_
        | refine cm_g_ll fun _ => ?_
        | refine cm_g_po fun _ _ => ?_
        | refine cm_g_rcv fun _ => ?_
        | refine cm_g_br ?_ ?_
        | refine cm_g_sw (fun _ => ?_) _
        | refine cm_g_bi (hR _ _ _) fun _ _ => ?_
        | refine cm_g_bv (hR _ _ _) fun _ => ?_
        | refine cm_g_if ?_ ?_
theorem cm_blk_more {run run' : cm_RN} {X X' : cm_X} {code : List Instr} (hR : ∀ y as s r, run y as s = some r → run' y as s = some r) (hX : ∀ t lv st s r, X t lv st s = some r → X' t lv st s = some r) {m : Nat} {rest : List Instr} {lv : cm_L} {st : List cm_V} {s : cm_S} {r : cm_R} (h : cm_blk run X code m rest lv st s = some r) : cm_blk run' X' code m rest lv st s = some r := by
  obtain ⟨N, hN⟩ := cm_blk_G (R := fun _ => run') (XX := fun _ => X') (fun y as s r h => ⟨0, fun _ _ => hR y as s r h⟩) (fun t lv st s r h => ⟨0, fun _ _ => hX t lv st s r h⟩) m rest lv st s r h
  exact hN N (Nat.le_refl _)
theorem cm_go_more {run run' : cm_RN} {code : List Instr} (hR : ∀ y as s r, run y as s = some r → run' y as s = some r) : ∀ {kk kk' : Nat}, kk ≤ kk' → ∀ (t : Nat) (lv : cm_L) (st : List cm_V) (s : cm_S) (r : cm_R), cm_go run code kk t lv st s = some r → cm_go run' code kk' t lv st s = some r := by
  intro kk
  induction kk with
  | zero => intro kk' _ t lv st s r h; cases h
  | succ kk ih =>
    intro kk' hk t lv st s r h
    obtain ⟨e, rfl⟩ : ∃ e, kk' = e + 1 := ⟨kk' - 1, by omega⟩
    exact cm_blk_more hR (ih (by omega)) h
theorem cm_go_lp {run : cm_RN} {code : List Instr} {kk t : Nat} {lv : cm_L} {st : List cm_V} {s : cm_S} {r : cm_R} (h : cm_go run code kk t lv st s = some r) : cm_lp run code t lv st s = some r := cm_lim_iff.mpr ⟨kk, fun _ hk => cm_go_more (fun _ _ _ _ h => h) hk _ _ _ _ _ h⟩
/-- A CUT'S EQUATION -/
theorem cm_lp_eq (run : cm_RN) (code : List Instr) (t : Nat) (lv : cm_L) (st : List cm_V) (s : cm_S) : cm_lp run code t lv st s = cm_blk run (cm_lp run code) code 700 (code.drop t) lv st s := cm_ext fun r => by
  constructor
  · intro h
    obtain ⟨K, hK⟩ := cm_lim_iff.mp h
    exact cm_blk_more (X := cm_go run code K) (fun _ _ _ _ h => h) (fun _ _ _ _ _ h => cm_go_lp h) (hK (K + 1) (by omega))
  · intro h
    obtain ⟨N, hN⟩ := cm_blk_G (R := fun _ => run) (XX := fun n => cm_go run code n) (fun _ _ _ _ h => ⟨0, fun _ _ => h⟩) (fun t lv st s r h => cm_lim_iff.mp h) 700 _ _ _ _ r h
    exact cm_go_lp (kk := N + 1) (hN N (Nat.le_refl _))
def cm_lv0 (n : Nat) (as : List cm_V) : cm_L := as.map some ++ List.replicate (n - as.length) none
/-- all methods: d calls deep, F cuts each -/
def cm_all (cd : Nat → List Instr) (mL : Nat → Nat) (F : Nat) : Nat → cm_RN
  | 0, _, _, _ => none
  | d + 1, y, as, s => if as.length ≤ mL y then cm_go (cm_all cd mL F d) (cd y) F 0 (cm_lv0 (mL y) as) [] s else none
theorem cm_all_more {cd : Nat → List Instr} {mL : Nat → Nat} {F F' : Nat} (hF : F ≤ F') : ∀ {d d' : Nat}, d ≤ d' → ∀ (y : Nat) (as : List cm_V) (s : cm_S) (r : cm_R), cm_all cd mL F d y as s = some r → cm_all cd mL F' d' y as s = some r := by
  intro d
  induction d with
  | zero => intro d' _ y as s r h; cases h
  | succ d ih =>
    intro d' hd y as s r h
    obtain ⟨e, rfl⟩ : ∃ e, d' = e + 1 := ⟨d' - 1, by omega⟩
    simp only [cm_all] at h ⊢
    by_cases hm : as.length ≤ mL y
    · rw [if_pos hm] at h ⊢
      exact cm_go_more (ih (by omega)) hF _ _ _ _ _ h
    · rw [if_neg hm] at h; cases h
noncomputable def cm_semG (cd : Nat → List Instr) (mL : Nat → Nat) : cm_RN := fun y as s => cm_lim fun n => cm_all cd mL n n y as s
theorem cm_all_sem {cd : Nat → List Instr} {mL : Nat → Nat} {F d y : Nat} {as : List cm_V} {s : cm_S} {r : cm_R} (h : cm_all cd mL F d y as s = some r) : cm_semG cd mL y as s = some r := cm_lim_iff.mpr ⟨max F d, fun _ hk => cm_all_more (by omega) (by omega) y as s r h⟩
theorem cm_go_G {run : cm_RN} {R : Nat → cm_RN} {code : List Instr} (hR : ∀ y as s, cm_G (run y as s) fun n => R n y as s) : ∀ (kk t : Nat) (lv : cm_L) (st : List cm_V) (s : cm_S), cm_G (cm_go run code kk t lv st s) (fun n => cm_go (R n) code kk t lv st s) := by
  intro kk
  induction kk with
  | zero => intro t lv st s r h; cases h
  | succ kk ih => intro t lv st s; exact cm_blk_G (XX := fun n => cm_go (R n) code kk) hR ih 700 _ _ _ _
/-- A METHOD'S EQUATION -/
theorem cm_sem_eq {cd : Nat → List Instr} {mL : Nat → Nat} {y : Nat} {as : List cm_V} (hm : as.length ≤ mL y) (s : cm_S) : cm_semG cd mL y as s = cm_lp (cm_semG cd mL) (cd y) 0 (cm_lv0 (mL y) as) [] s := cm_ext fun r => by
  constructor
  · intro h
    obtain ⟨K, hK⟩ := cm_lim_iff.mp h
    have h1 := hK (K + 1) (by omega)
    simp only [cm_all] at h1
    rw [if_pos hm] at h1
    exact cm_go_lp (cm_go_more (fun _ _ _ _ h => cm_all_sem h) (Nat.le_refl _) _ _ _ _ _ h1)
  · intro h
    obtain ⟨K, hK⟩ := cm_lim_iff.mp h
    obtain ⟨N, hN⟩ := cm_go_G (R := fun n => cm_all cd mL n n) (fun y as s r h => cm_lim_iff.mp h) K 0 (cm_lv0 (mL y) as) [] s r (hK K (Nat.le_refl _))
    have h2 := hN (max N K) (by omega)
    refine cm_all_sem (F := max N K + 1) (d := max N K + 1) ?_
    simp only [cm_all]
    rw [if_pos hm]
    exact cm_go_more (cm_all_more (by omega) (Nat.le_refl _)) (by omega) _ _ _ _ _ h2
