/-! ===== a run needs no more depth than its rank ===== -/
def drk (y : Nat) (as : List cm_V) : Nat := match dlo y with
  | none => ds y
  | some k => match as[k]? with
    | some (.inl a) => ds y + 16 * (21 - a.toNat)
    | _ => 0
def dok (y : Nat) (as : List cm_V) : Prop := y < 301 ∧ ∀ k, dlo y = some k → ∃ a, as[k]? = some (.inl a) ∧ 0 ≤ a ∧ a ≤ 20
def dT (t : Nat) (a : Int) (st : List cm_V) : Prop := (t = 1 → ∃ r, st = .inl a :: r) ∧ (t = 2 → ∃ r, st = .inl (a + 1) :: r) ∧ (t = 3 → ∃ r, st = .inl 1 :: .inl a :: r) ∧ (t = 4 → ∃ z r, st = .inl z :: .inl a :: r) ∧ (t = 5 → ∃ z r, st = .inl z :: .inl (a + 1) :: r) ∧ (t = 6 → ∃ r, st = .inl 0 :: r)
theorem dT_0 {t : Nat} (h : t = 0) (a : Int) (st : List cm_V) : dT t a st := ⟨fun z => by omega, fun z => by omega, fun z => by omega, fun z => by omega, fun z => by omega, fun z => by omega⟩
def dI (y : Nat) (a : Int) (T G : List Nat) (ix : Nat) (lv : cm_L) (st : List cm_V) : Prop := (∀ k, dlo y = some k → lv[k]? = some (some (.inl a))) ∧ dT (T.getD ix 0) a st ∧ (G.getD ix 0 = 1 → a < 20)
section DEEP
variable {α : Type} {r : α}
theorem im_i1 {st : List cm_V} {f f' : Int → List cm_V → Option α} (h : ∀ x r0, st = .inl x :: r0 → f x r0 = some r → f' x r0 = some r) (hb : cm_i1 st f = some r) : cm_i1 st f' = some r := by
  obtain ⟨x, r0, rfl, hb⟩ := cm_i1_eq hb; exact h x r0 rfl hb
theorem im_i2 {st : List cm_V} {f f' : Int → Int → List cm_V → Option α} (h : ∀ x z r0, st = .inl z :: .inl x :: r0 → f x z r0 = some r → f' x z r0 = some r) (hb : cm_i2 st f = some r) : cm_i2 st f' = some r := by
  obtain ⟨x, z, r0, rfl, hb⟩ := cm_i2_eq hb; exact h x z r0 rfl hb
theorem im_l1 {st : List cm_V} {f f' : Int → List cm_V → Option α} (h : ∀ x r0, f x r0 = some r → f' x r0 = some r) (hb : cm_l1 st f = some r) : cm_l1 st f' = some r := by
  obtain ⟨x, r0, rfl, hb⟩ := cm_l1_eq hb; exact h x r0 hb
theorem im_l2 {st : List cm_V} {f f' : Int → Int → List cm_V → Option α} (h : ∀ x z r0, f x z r0 = some r → f' x z r0 = some r) (hb : cm_l2 st f = some r) : cm_l2 st f' = some r := by
  obtain ⟨x, z, r0, rfl, hb⟩ := cm_l2_eq hb; exact h x z r0 hb
theorem im_il {st : List cm_V} {f f' : Int → Int → List cm_V → Option α} (h : ∀ x z r0, f x z r0 = some r → f' x z r0 = some r) (hb : cm_il st f = some r) : cm_il st f' = some r := by
  obtain ⟨x, z, r0, rfl, hb⟩ := cm_il_eq hb; exact h x z r0 hb
theorem im_r1 {st : List cm_V} {f f' : Nat → List cm_V → Option α} (h : ∀ x r0, f x r0 = some r → f' x r0 = some r) (hb : cm_r1 st f = some r) : cm_r1 st f' = some r := by
  obtain ⟨x, r0, rfl, hb⟩ := cm_r1_eq hb; exact h x r0 hb
theorem im_ri {st : List cm_V} {f f' : Nat → Int → List cm_V → Option α} (h : ∀ x z r0, f x z r0 = some r → f' x z r0 = some r) (hb : cm_ri st f = some r) : cm_ri st f' = some r := by
  obtain ⟨x, z, r0, rfl, hb⟩ := cm_ri_eq hb; exact h x z r0 hb
theorem im_zr {st : List cm_V} {f f' : Nat → Int → List cm_V → Option α} (h : ∀ x z r0, f x z r0 = some r → f' x z r0 = some r) (hb : cm_zr st f = some r) : cm_zr st f' = some r := by
  obtain ⟨x, z, r0, rfl, hb⟩ := cm_zr_eq hb; exact h x z r0 hb
theorem im_rr {st : List cm_V} {f f' : Nat → Nat → List cm_V → Option α} (h : ∀ x z r0, f x z r0 = some r → f' x z r0 = some r) (hb : cm_rr st f = some r) : cm_rr st f' = some r := by
  obtain ⟨x, z, r0, rfl, hb⟩ := cm_rr_eq hb; exact h x z r0 hb
theorem im_rii {st : List cm_V} {f f' : Nat → Int → Int → List cm_V → Option α} (h : ∀ x z u r0, f x z u r0 = some r → f' x z u r0 = some r) (hb : cm_rii st f = some r) : cm_rii st f' = some r := by
  obtain ⟨x, z, u, r0, rfl, hb⟩ := cm_rii_eq hb; exact h x z u r0 hb
theorem im_dp {st : List cm_V} {f f' : cm_V → List cm_V → Option α} (h : ∀ x r0, f x r0 = some r → f' x r0 = some r) (hb : cm_dp st f = some r) : cm_dp st f' = some r := by
  unfold cm_dp at hb ⊢
  split at hb
  · exact h _ _ hb
  · exact h _ _ hb
  · cases hb
theorem im_li {lv : cm_L} {k : Nat} {f f' : Int → Option α} (h : ∀ x, lv[k]? = some (some (.inl x)) → f x = some r → f' x = some r) (hb : cm_li lv k f = some r) : cm_li lv k f' = some r := by
  obtain ⟨x, hx, hb⟩ := cm_li_eq hb
  unfold cm_li
  rw [hx]
  exact h x hx hb
theorem im_lr {lv : cm_L} {k : Nat} {f f' : Nat → Option α} (h : ∀ x, f x = some r → f' x = some r) (hb : cm_lr lv k f = some r) : cm_lr lv k f' = some r := by
  obtain ⟨x, hx, hb⟩ := cm_lr_eq hb
  unfold cm_lr
  rw [hx]
  exact h x hb
theorem im_ll {lv : cm_L} {k : Nat} {f f' : Int → Option α} (h : ∀ x, f x = some r → f' x = some r) (hb : cm_ll lv k f = some r) : cm_ll lv k f' = some r := by
  obtain ⟨x, hx, hb⟩ := cm_ll_eq hb
  unfold cm_ll
  rw [hx]
  exact h x hb
theorem im_if {c : Prop} [Decidable c] {x x' : Option α} (h : c → x = some r → x' = some r) (hb : (if c then x else none) = some r) : (if c then x' else none) = some r := by
  obtain ⟨hc, hb⟩ := cm_if_eq hb
  rw [if_pos hc]
  exact h hc hb
theorem im_if2 {c : Prop} [Decidable c] {x x' z z' : Option α} (h : c → x = some r → x' = some r) (h' : ¬ c → z = some r → z' = some r) (hb : (if c then x else z) = some r) : (if c then x' else z') = some r := by
  by_cases hc : c
  · rw [if_pos hc] at hb ⊢; exact h hc hb
  · rw [if_neg hc] at hb ⊢; exact h' hc hb
theorem im_br {c : ClassFile.Cond} {a b : Int} {x x' z z' : Option α} (h : x = some r → x' = some r) (h' : z = some r → z' = some r) (hb : cm_br c a b x z = some r) : cm_br c a b x' z' = some r := by
  cases c <;> first | exact im_if2 (fun _ => h) (fun _ => h') hb | exact im_if2 (fun _ => h') (fun _ => h) hb
theorem im_sw {x d : Int} {f f' : Int → Option α} (hd : f d = some r → f' d = some r) : ∀ ps : List (Int × Int), (∀ q ∈ ps, f q.2 = some r → f' q.2 = some r) → cm_sw x f d ps = some r → cm_sw x f' d ps = some r
  | [], _, hb => hd hb
  | q :: ps, h, hb => im_if2 (fun _ => h q List.mem_cons_self) (fun _ => im_sw hd ps (fun q hq => h q (List.mem_cons_of_mem _ hq))) hb
theorem im_po {rb : Bool} {n : Nat} {st : List cm_V} {f f' : List cm_V → List cm_V → Option α} (h : ∀ as st', cm_pop rb n st = some (as, st') → f as st' = some r → f' as st' = some r) (hb : cm_po rb n st f = some r) : cm_po rb n st f' = some r := by
  obtain ⟨as, st', hp, hb⟩ := cm_po_eq hb
  unfold cm_po
  rw [hp]
  exact h as st' hp hb
end DEEP
theorem im_rcv {r : cm_R} {as : List cm_V} {f f' : Nat → Option cm_R} (h : ∀ a r0, as = .inr (.inl a) :: r0 → f a = some r → f' a = some r) (hb : cm_rcv as f = some r) : cm_rcv as f' = some r := by
  obtain ⟨a, r0, rfl, hb⟩ := cm_rcv_eq hb; exact h a r0 rfl hb
theorem im_bi {r : cm_R} {x x' : Option cm_R} {f f' : Int → cm_S → Option cm_R} (hx : ∀ z, x = some z → x' = some z) (h : ∀ z s, x = some (.inl (some (.inl z)), s) → f z s = some r → f' z s = some r) (hb : cm_bi x f = some r) : cm_bi x' f' = some r := by
  unfold cm_bi at hb
  split at hb
  · rw [hx _ rfl]; exact h _ _ rfl hb
  · rw [hx _ rfl]; exact hb
  · cases hb
theorem im_bv {r : cm_R} {x x' : Option cm_R} {f f' : cm_S → Option cm_R} (hx : ∀ z, x = some z → x' = some z) (h : ∀ s, x = some (.inl none, s) → f s = some r → f' s = some r) (hb : cm_bv x f = some r) : cm_bv x' f' = some r := by
  unfold cm_bv at hb
  split at hb
  · rw [hx _ rfl]; exact h _ rfl hb
  · rw [hx _ rfl]; exact hb
  · cases hb
section DEEP2
variable {y : Nat} {a : Int} {T G : List Nat} {code : List Instr}
theorem dcp_eq {ix : Nat} {ci : Instr} (h : dcp y T G ix ci = true) : dci y (T.getD ix 0) (G.getD ix 0) ci = true ∧ dcn y T G ix ci = true := j_and h
theorem dcn_eq {ix : Nat} {ci : Instr} (h : dcn y T G ix ci = true) : decide (T.getD (ix + 1) 0 = 0 ∨ T.getD (ix + 1) 0 = dnx (dlo y) (T.getD ix 0) ci) = true ∧ (decide (G.getD (ix + 1) 0 = 0 ∨ G.getD ix 0 = 1) || dbw (T.getD ix 0) ci) = true := j_and h
theorem cm_cl_4 {b : Nat} (h : cm_cl b = 4) : b = 14 := by
  have h72 := cm_cl_72 (a := b) (by omega)
  have : (List.range 72).all (fun b => decide (cm_cl b ≠ 4 ∨ b = 14)) = true := by decide +kernel
  have := of_decide_eq_true (List.all_eq_true.mp this b (List.mem_range.mpr h72))
  omega
theorem d_n0 {ix : Nat} {ci : Instr} {lv : cm_L} {st : List cm_V} (hk : dcn y T G ix ci = true) (h0 : dnx (dlo y) (T.getD ix 0) ci = 0) (hb : dbw (T.getD ix 0) ci = false) (hI : dI y a T G ix lv st) (lv' : cm_L) (hl : ∀ k, dlo y = some k → lv'[k]? = lv[k]?) (st' : List cm_V) : dI y a T G (ix + 1) lv' st' := by
  obtain ⟨k1, k2⟩ := j_and hk
  rw [hb, Bool.or_false] at k2
  refine ⟨fun k hk => (hl k hk).trans (hI.1 k hk), dT_0 ?_ a st', fun z => ?_⟩
  · rcases of_decide_eq_true k1 with z | z
    · exact z
    · rw [z, h0]
  · rcases of_decide_eq_true k2 with q | q
    · omega
    · exact hI.2.2 q
theorem d_j {ix : Nat} {t : Int} {lv : cm_L} {st : List cm_V} (hk : dcj T G ix t = true) (hI : dI y a T G ix lv st) (st' : List cm_V) : dI y a T G t.toNat lv st' := by
  obtain ⟨k1, k2⟩ := of_decide_eq_true hk
  refine ⟨hI.1, dT_0 k1 a st', fun z => ?_⟩
  rcases k2 with q | q
  · omega
  · exact hI.2.2 q
theorem d_pop2 {top sec : cm_V} {st as st' : List cm_V} (h : cm_pop true 2 (top :: sec :: st) = some (as, st')) : as[1]? = some sec := by
  obtain ⟨h0, h⟩ := cm_pop_eq h
  rcases h with ⟨z, -, -⟩ | ⟨-, b, h1, rfl⟩
  · cases z
  · rfl
theorem d_set {lv : cm_L} {j : Nat} {v : Option cm_V} (h : dlo y ≠ some j) : ∀ k, dlo y = some k → (lv.set j v)[k]? = lv[k]? := fun k hk => List.getElem?_set_ne (fun z => h (by rw [z]; exact hk))
/-- the rank of a call -/
theorem d_call {R0 : Nat} (hR : ∀ k, dlo y = some k → R0 = ds y + 16 * (21 - a.toNat) ∧ 0 ≤ a ∧ a ≤ 20) (hR' : dlo y = none → R0 = ds y) {t g y' n : Nat} {vir : Bool} {st as st' : List cm_V} (hk : dcal y t g y' n vir = true) (hy : y' < 301) (hT : dT t a st) (hG : g = 1 → a < 20) (hp : cm_pop vir n st = some (as, st')) : dok y' as ∧ drk y' as < R0 := by
  unfold dcal at hk
  cases hd : dlo y' with
  | none =>
    rw [hd] at hk
    refine ⟨⟨hy, fun k z => by rw [hd] at z; cases z⟩, ?_⟩
    unfold drk
    rw [hd]
    show ds y' < R0
    cases hy2 : dlo y with
    | none =>
      rw [hR' hy2]
      rw [hy2] at hk
      exact of_decide_eq_true hk
    | some k =>
      obtain ⟨r1, r2, r3⟩ := hR k hy2
      rw [hy2] at hk
      have : ds y' < 16 := of_decide_eq_true hk
      omega
  | some k =>
    rw [hd] at hk
    dsimp only at hk
    replace hk := j_and hk
    obtain ⟨h1, hk⟩ := hk
    replace hk := j_and hk
    obtain ⟨h2, hk⟩ := hk
    subst h1
    replace h2 := of_decide_eq_true h2
    have fin : ∀ b : Int, as[k]? = some (.inl b) → 0 ≤ b → b ≤ 20 → ds y' + 16 * (21 - b.toNat) < R0 → dok y' as ∧ drk y' as < R0 := by
      intro b hb b0 b1 hlt
      refine ⟨⟨hy, fun k' hk' => ?_⟩, ?_⟩
      · rw [hd] at hk'
        cases hk'
        exact ⟨b, hb, b0, b1⟩
      · unfold drk
        rw [hd]
        simp only [hb]
        exact hlt
    by_cases hs : dsec y' = true
    · rw [if_pos hs] at hk
      replace hk := j_and hk
      obtain ⟨h3, hk⟩ := hk
      replace hk := j_and hk
      obtain ⟨h4, hk⟩ := hk
      replace h3 := of_decide_eq_true h3
      obtain ⟨rfl, rfl⟩ := h3
      replace h4 := of_decide_eq_true h4
      cases hy2 : dlo y with
      | none => rw [hy2] at h4; cases h4
      | some k2 =>
        obtain ⟨r1, r2, r3⟩ := hR k2 hy2
        rw [Bool.or_eq_true] at hk
        rcases hk with z | z
        · obtain ⟨z1, z2⟩ := j_and z
          replace z2 := of_decide_eq_true z2
          rcases of_decide_eq_true z1 with e | e
          · obtain ⟨r0, rfl⟩ := hT.2.2.1 e
            exact fin a (d_pop2 hp) r2 r3 (by omega)
          · obtain ⟨u, r0, rfl⟩ := hT.2.2.2.1 e
            exact fin a (d_pop2 hp) r2 r3 (by omega)
        · obtain ⟨z1, z2⟩ := j_and z
          have hg := hG (of_decide_eq_true z2)
          obtain ⟨u, r0, rfl⟩ := hT.2.2.2.2.1 (of_decide_eq_true z1)
          exact fin (a + 1) (d_pop2 hp) (by omega) (by omega) (by omega)
    · rw [if_neg hs] at hk
      replace hk := j_and hk
      obtain ⟨h3, hk⟩ := hk
      replace h3 := of_decide_eq_true h3
      obtain ⟨rfl, h3⟩ := h3
      cases hy2 : dlo y with
      | none =>
        rw [hy2] at hk
        obtain ⟨z1, z2⟩ := j_and hk
        have e := hR' hy2
        replace z2 := of_decide_eq_true z2
        obtain ⟨r0, rfl⟩ := hT.2.2.2.2.2 (of_decide_eq_true z1)
        exact fin 0 (j_top hp h3) (by omega) (by omega) (by show ds y' + 16 * (21 - 0) < R0; omega)
      | some k2 =>
        obtain ⟨r1, r2, r3⟩ := hR k2 hy2
        rw [hy2] at hk
        rw [show (if (some k2).isSome = true then (decide (t = 1) && decide (ds y' < ds y) || decide (t = 2) && decide (g = 1)) else decide (t = 6) && decide (352 ≤ ds y)) = (decide (t = 1) && decide (ds y' < ds y) || decide (t = 2) && decide (g = 1)) from rfl, Bool.or_eq_true] at hk
        rcases hk with z | z
        · obtain ⟨z1, z2⟩ := j_and z
          replace z2 := of_decide_eq_true z2
          obtain ⟨r0, rfl⟩ := hT.1 (of_decide_eq_true z1)
          exact fin a (j_top hp h3) r2 r3 (by omega)
        · obtain ⟨z1, z2⟩ := j_and z
          have hg := hG (of_decide_eq_true z2)
          obtain ⟨r0, rfl⟩ := hT.2.1 (of_decide_eq_true z1)
          exact fin (a + 1) (j_top hp h3) (by omega) (by omega) (by omega)
theorem dckA_at {ix : Nat} {ci : Instr} (h : dckA y code T G = true) (hc : code[ix]? = some ci) : dck y T G ix ci = true := by
  have h1 := List.all_eq_true.mp (j_and h).2 ix (List.mem_range.mpr (List.getElem?_eq_some_iff.mp hc).1)
  rw [hc] at h1
  exact h1
/-- all calls of the resolved code name methods -/
def dlt (ci : Instr) : Bool := match ci with
  | .invokevirtual z => decide (z / 1000 < 301)
  | .invokespecial z => decide (z / 1000 < 301)
  | .invokestatic z => decide (z / 1000 < 301)
  | _ => true
set_option maxHeartbeats 4000000 in
set_option maxRecDepth 20000 in
theorem d_blk {R0 : Nat} (ha0 : 0 ≤ a ∧ a ≤ 20) (hR : ∀ k, dlo y = some k → R0 = ds y + 16 * (21 - a.toNat) ∧ 0 ≤ a ∧ a ≤ 20) (hR' : dlo y = none → R0 = ds y) {run run' : cm_RN} {X X' : cm_X} (hck : dckA y code T G = true) (hlt : code.all dlt = true) (hrun : ∀ y' as s r, run y' as s = some r → dok y' as → drk y' as < R0 → run' y' as s = some r) (hbw : ∀ b s s', run 48 [.inr (.inl 14), .inl b] s = some (.inl none, s') → b < 20) (hX : ∀ t lv st s r, X t lv st s = some r → dI y a T G t lv st → X' t lv st s = some r) : ∀ (m ix : Nat) (lv : cm_L) (st : List cm_V) (s : cm_S) (r : cm_R), cm_blk run X code m (code.drop ix) lv st s = some r → dI y a T G ix lv st → cm_blk run' X' code m (code.drop ix) lv st s = some r := by
  intro m
  induction m with
  | zero => intro ix lv st s r hb; cases hb
  | succ m ih =>
    intro ix lv st s r hb hI
    cases hcd : code.drop ix with
    | nil => rw [hcd] at hb; cases hb
    | cons ci rest =>
      have hl : ix < code.length := by
        have := congrArg List.length hcd
        simp at this
        omega
      rw [List.drop_eq_getElem_cons hl] at hcd
      have hci : code[ix]? = some ci := by rw [List.getElem?_eq_getElem hl]; exact congrArg some (List.cons.inj hcd).1
      rw [List.drop_eq_getElem_cons hl, (List.cons.inj hcd).1] at hb
      obtain rfl : code.drop (ix + 1) = rest := (List.cons.inj hcd).2
      have hk := dckA_at hck hci
      have hlt1 := List.all_eq_true.mp hlt ci (List.mem_of_getElem? hci)
      clear hcd hci
      have hT := hI.2.1
      cases ci with
      | iconst z =>
        refine ih _ _ _ _ _ hb ?_
        obtain ⟨k1, k2⟩ := dcn_eq (dcp_eq hk).2
        refine ⟨hI.1, ?_, fun q => ?_⟩
        · rcases of_decide_eq_true k1 with e | e
          · exact dT_0 e a _
          · rw [e]
            generalize T.getD ix 0 = t at hT
            show dT (if t = 1 then (if z = 1 then 3 else 4) else if t = 2 then 5 else if z = 0 then 6 else 0) a _
            by_cases h1 : t = 1
            · rw [if_pos h1]
              obtain ⟨r0, rfl⟩ := hT.1 h1
              by_cases hz : z = 1
              · rw [if_pos hz, hz]
                exact ⟨fun z => by omega, fun z => by omega, fun _ => ⟨_, rfl⟩, fun z => by omega, fun z => by omega, fun z => by omega⟩
              · rw [if_neg hz]
                exact ⟨fun z => by omega, fun z => by omega, fun z => by omega, fun _ => ⟨_, _, rfl⟩, fun z => by omega, fun z => by omega⟩
            · rw [if_neg h1]
              by_cases h2 : t = 2
              · rw [if_pos h2]
                obtain ⟨r0, rfl⟩ := hT.2.1 h2
                exact ⟨fun z => by omega, fun z => by omega, fun z => by omega, fun z => by omega, fun _ => ⟨_, _, rfl⟩, fun z => by omega⟩
              · rw [if_neg h2]
                by_cases hz : z = 0
                · rw [if_pos hz, hz]
                  exact ⟨fun z => by omega, fun z => by omega, fun z => by omega, fun z => by omega, fun z => by omega, fun _ => ⟨_, rfl⟩⟩
                · rw [if_neg hz]
                  exact dT_0 rfl a _
        · have k2 : (decide (G.getD (ix + 1) 0 = 0 ∨ G.getD ix 0 = 1) || false) = true := k2
          rw [Bool.or_false] at k2
          rcases of_decide_eq_true k2 with e | e
          · omega
          · exact hI.2.2 e
      | iload j =>
        refine im_li (fun x hx h => ih _ _ _ _ _ h ?_) hb
        obtain ⟨k1, k2⟩ := dcn_eq (dcp_eq hk).2
        refine ⟨hI.1, ?_, fun q => ?_⟩
        · rcases of_decide_eq_true k1 with e | e
          · exact dT_0 e a _
          · rw [e]
            generalize T.getD ix 0 = t at hT
            show dT (if dlo y = some j then 1 else if t = 1 then 4 else if t = 2 then 5 else 0) a _
            by_cases h0 : dlo y = some j
            · rw [if_pos h0]
              have := hI.1 j h0
              rw [hx] at this
              cases this
              exact ⟨fun _ => ⟨_, rfl⟩, fun z => by omega, fun z => by omega, fun z => by omega, fun z => by omega, fun z => by omega⟩
            · rw [if_neg h0]
              by_cases h1 : t = 1
              · rw [if_pos h1]
                obtain ⟨r0, rfl⟩ := hT.1 h1
                exact ⟨fun z => by omega, fun z => by omega, fun z => by omega, fun _ => ⟨_, _, rfl⟩, fun z => by omega, fun z => by omega⟩
              · rw [if_neg h1]
                by_cases h2 : t = 2
                · rw [if_pos h2]
                  obtain ⟨r0, rfl⟩ := hT.2.1 h2
                  exact ⟨fun z => by omega, fun z => by omega, fun z => by omega, fun z => by omega, fun _ => ⟨_, _, rfl⟩, fun z => by omega⟩
                · rw [if_neg h2]
                  exact dT_0 rfl a _
        · have k2 : (decide (G.getD (ix + 1) 0 = 0 ∨ G.getD ix 0 = 1) || false) = true := k2
          rw [Bool.or_false] at k2
          rcases of_decide_eq_true k2 with e | e
          · omega
          · exact hI.2.2 e
      | iadd =>
        refine im_i2 (fun x z r0 es h => ih _ _ _ _ _ h ?_) hb
        obtain ⟨k1, k2⟩ := dcn_eq (dcp_eq hk).2
        refine ⟨hI.1, ?_, fun q => ?_⟩
        · rcases of_decide_eq_true k1 with e | e
          · exact dT_0 e a _
          · rw [e]
            generalize T.getD ix 0 = t at hT
            show dT (if t = 3 then 2 else 0) a _
            by_cases h3 : t = 3
            · rw [if_pos h3]
              obtain ⟨r1, hr1⟩ := hT.2.2.1 h3
              rw [es] at hr1
              cases hr1
              have ha : 0 ≤ a ∧ a ≤ 20 := ha0
              have e1 : cm_w (a + 1) = a + 1 := cm_32 ⟨by omega, by omega⟩
              rw [e1]
              exact ⟨fun z => by omega, fun _ => ⟨_, rfl⟩, fun z => by omega, fun z => by omega, fun z => by omega, fun z => by omega⟩
            · rw [if_neg h3]
              exact dT_0 rfl a _
        · have k2 : (decide (G.getD (ix + 1) 0 = 0 ∨ G.getD ix 0 = 1) || false) = true := k2
          rw [Bool.or_false] at k2
          rcases of_decide_eq_true k2 with e | e
          · omega
          · exact hI.2.2 e
      | sipush z => exact ih _ _ _ _ _ hb (d_n0 (dcp_eq hk).2 rfl rfl hI _ (fun _ _ => rfl) _)
      | ldc z => exact ih _ _ _ _ _ hb (d_n0 (dcp_eq hk).2 rfl rfl hI _ (fun _ _ => rfl) _)
      | aload j => exact im_lr (fun x h => ih _ _ _ _ _ h (d_n0 (dcp_eq hk).2 rfl rfl hI _ (fun _ _ => rfl) _)) hb
      | lload j => exact im_ll (fun x h => ih _ _ _ _ _ h (d_n0 (dcp_eq hk).2 rfl rfl hI _ (fun _ _ => rfl) _)) hb
      | istore j => exact im_i1 (fun x r0 _ h => ih _ _ _ _ _ h (d_n0 (dcp_eq hk).2 rfl rfl hI _ (d_set (of_decide_eq_true (dcp_eq hk).1)) _)) hb
      | astore j => exact im_r1 (fun x r0 h => ih _ _ _ _ _ h (d_n0 (dcp_eq hk).2 rfl rfl hI _ (d_set (of_decide_eq_true (dcp_eq hk).1)) _)) hb
      | lstore j => exact im_l1 (fun x r0 h => ih _ _ _ _ _ h (d_n0 (dcp_eq hk).2 rfl rfl hI _ (fun k q => (d_set (of_decide_eq_true (j_and (dcp_eq hk).1).2) k q).trans (d_set (of_decide_eq_true (j_and (dcp_eq hk).1).1) k q)) _)) hb
      | iinc j z => exact im_li (fun x _ h => ih _ _ _ _ _ h (d_n0 (dcp_eq hk).2 rfl rfl hI _ (d_set (of_decide_eq_true (dcp_eq hk).1)) _)) hb
      | isub => exact im_i2 (fun x z r0 _ h => ih _ _ _ _ _ h (d_n0 (dcp_eq hk).2 rfl rfl hI _ (fun _ _ => rfl) _)) hb
      | imul => exact im_i2 (fun x z r0 _ h => ih _ _ _ _ _ h (d_n0 (dcp_eq hk).2 rfl rfl hI _ (fun _ _ => rfl) _)) hb
      | iand => exact im_i2 (fun x z r0 _ h => ih _ _ _ _ _ h (d_n0 (dcp_eq hk).2 rfl rfl hI _ (fun _ _ => rfl) _)) hb
      | ior => exact im_i2 (fun x z r0 _ h => ih _ _ _ _ _ h (d_n0 (dcp_eq hk).2 rfl rfl hI _ (fun _ _ => rfl) _)) hb
      | ishl => exact im_i2 (fun x z r0 _ h => ih _ _ _ _ _ h (d_n0 (dcp_eq hk).2 rfl rfl hI _ (fun _ _ => rfl) _)) hb
      | ishr => exact im_i2 (fun x z r0 _ h => ih _ _ _ _ _ h (d_n0 (dcp_eq hk).2 rfl rfl hI _ (fun _ _ => rfl) _)) hb
      | ladd => exact im_l2 (fun x z r0 h => ih _ _ _ _ _ h (d_n0 (dcp_eq hk).2 rfl rfl hI _ (fun _ _ => rfl) _)) hb
      | lsub => exact im_l2 (fun x z r0 h => ih _ _ _ _ _ h (d_n0 (dcp_eq hk).2 rfl rfl hI _ (fun _ _ => rfl) _)) hb
      | lmul => exact im_l2 (fun x z r0 h => ih _ _ _ _ _ h (d_n0 (dcp_eq hk).2 rfl rfl hI _ (fun _ _ => rfl) _)) hb
      | land => exact im_l2 (fun x z r0 h => ih _ _ _ _ _ h (d_n0 (dcp_eq hk).2 rfl rfl hI _ (fun _ _ => rfl) _)) hb
      | lcmp => exact im_l2 (fun x z r0 h => ih _ _ _ _ _ h (d_n0 (dcp_eq hk).2 rfl rfl hI _ (fun _ _ => rfl) _)) hb
      | lshr => exact im_il (fun x z r0 h => ih _ _ _ _ _ h (d_n0 (dcp_eq hk).2 rfl rfl hI _ (fun _ _ => rfl) _)) hb
      | i2l => exact im_i1 (fun x r0 _ h => ih _ _ _ _ _ h (d_n0 (dcp_eq hk).2 rfl rfl hI _ (fun _ _ => rfl) _)) hb
      | l2i => exact im_l1 (fun x r0 h => ih _ _ _ _ _ h (d_n0 (dcp_eq hk).2 rfl rfl hI _ (fun _ _ => rfl) _)) hb
      | i2c => exact im_i1 (fun x r0 _ h => im_if (fun _ h => ih _ _ _ _ _ h (d_n0 (dcp_eq hk).2 rfl rfl hI _ (fun _ _ => rfl) _)) h) hb
      | i2b => exact im_i1 (fun x r0 _ h => im_if (fun _ h => ih _ _ _ _ _ h (d_n0 (dcp_eq hk).2 rfl rfl hI _ (fun _ _ => rfl) _)) h) hb
      | dup =>
        have hb : cm_dp st (fun v st' => cm_blk run X code m (code.drop (ix + 1)) lv (v :: v :: st') s) = some r := hb
        show cm_dp st (fun v st' => cm_blk run' X' code m (code.drop (ix + 1)) lv (v :: v :: st') s) = some r
        exact im_dp (fun x r0 h => ih _ _ _ _ _ h (d_n0 (dcp_eq hk).2 rfl rfl hI _ (fun _ _ => rfl) _)) hb
      | dup2 => exact im_zr (fun x z r0 h => ih _ _ _ _ _ h (d_n0 (dcp_eq hk).2 rfl rfl hI _ (fun _ _ => rfl) _)) hb
      | goto t => exact ih _ _ _ _ _ hb (d_j hk hI _)
      | ifCond c t => exact im_i1 (fun x r0 _ h => im_br (fun h => ih _ _ _ _ _ h (d_j (j_and hk).1 hI _)) (fun h => ih _ _ _ _ _ h (d_n0 (j_and hk).2 rfl rfl hI _ (fun _ _ => rfl) _)) h) hb
      | if_icmp c t => exact im_i2 (fun x z r0 _ h => im_br (fun h => ih _ _ _ _ _ h (d_j (j_and hk).1 hI _)) (fun h => ih _ _ _ _ _ h (d_n0 (j_and hk).2 rfl rfl hI _ (fun _ _ => rfl) _)) h) hb
      | lookupswitch d ps => exact im_i1 (fun x r0 _ h => im_sw (fun h => ih _ _ _ _ _ h (d_j (j_and hk).1 hI _)) ps.toList (fun q hq h => ih _ _ _ _ _ h (d_j (List.all_eq_true.mp (j_and hk).2 q hq) hI _)) h) hb
      | getfield k => exact im_r1 (fun x r0 h => im_if (fun _ h => ih _ _ _ _ _ h (d_n0 (dcp_eq hk).2 rfl rfl hI _ (fun _ _ => rfl) _)) h) hb
      | getstatic k => exact im_r1 (fun x r0 h => im_if (fun _ h => ih _ _ _ _ _ h (d_n0 (dcp_eq hk).2 rfl rfl hI _ (fun _ _ => rfl) _)) h) hb
      | checkcast k => exact im_r1 (fun x r0 h => im_if (fun _ h => ih _ _ _ _ _ h (d_n0 (dcp_eq hk).2 rfl rfl hI _ (fun _ _ => rfl) _)) h) hb
      | putfield k => exact im_zr (fun x z r0 h => im_if (fun _ h => ih _ _ _ _ _ h (d_n0 (dcp_eq hk).2 rfl rfl hI _ (fun _ _ => rfl) _)) h) hb
      | instanceof k => exact im_zr (fun x z r0 h => im_if (fun _ h => im_if (fun _ h => ih _ _ _ _ _ h (d_n0 (dcp_eq hk).2 rfl rfl hI _ (fun _ _ => rfl) _)) h) h) hb
      | putstatic k => exact im_rr (fun x z r0 h => im_if (fun _ h => ih _ _ _ _ _ h (d_n0 (dcp_eq hk).2 rfl rfl hI _ (fun _ _ => rfl) _)) h) hb
      | iaload => exact im_ri (fun x z r0 h => im_if2 (fun _ h => im_if (fun _ h => ih _ _ _ _ _ h (d_n0 (dcp_eq hk).2 rfl rfl hI _ (fun _ _ => rfl) _)) h) (fun _ h => im_if (fun _ h => im_if (fun _ h => ih _ _ _ _ _ h (d_n0 (dcp_eq hk).2 rfl rfl hI _ (fun _ _ => rfl) _)) h) h) h) hb
      | caload => exact im_ri (fun x z r0 h => im_if (fun _ h => im_if (fun _ h => ih _ _ _ _ _ h (d_n0 (dcp_eq hk).2 rfl rfl hI _ (fun _ _ => rfl) _)) h) h) hb
      | baload => exact im_ri (fun x z r0 h => im_if (fun _ h => im_if (fun _ h => ih _ _ _ _ _ h (d_n0 (dcp_eq hk).2 rfl rfl hI _ (fun _ _ => rfl) _)) h) h) hb
      | laload => exact im_ri (fun x z r0 h => im_if (fun _ h => im_if (fun _ h => ih _ _ _ _ _ h (d_n0 (dcp_eq hk).2 rfl rfl hI _ (fun _ _ => rfl) _)) h) h) hb
      | saload => exact im_ri (fun x z r0 h => im_if (fun _ h => ih _ _ _ _ _ h (d_n0 (dcp_eq hk).2 rfl rfl hI _ (fun _ _ => rfl) _)) h) hb
      | arraylength => exact im_r1 (fun x r0 h => ih _ _ _ _ _ h (d_n0 (dcp_eq hk).2 rfl rfl hI _ (fun _ _ => rfl) _)) hb
      | i2s => exact im_r1 (fun x r0 h => ih _ _ _ _ _ h (d_n0 (dcp_eq hk).2 rfl rfl hI _ (fun _ _ => rfl) _)) hb
      | iastore => exact im_rii (fun x z u r0 h => im_if (fun _ h => im_if (fun _ h => ih _ _ _ _ _ h (d_n0 (dcp_eq hk).2 rfl rfl hI _ (fun _ _ => rfl) _)) h) h) hb
      | castore => exact im_rii (fun x z u r0 h => im_if (fun _ h => im_if (fun _ h => im_if (fun _ h => ih _ _ _ _ _ h (d_n0 (dcp_eq hk).2 rfl rfl hI _ (fun _ _ => rfl) _)) h) h) h) hb
      | bastore => exact im_rii (fun x z u r0 h => im_if (fun _ h => im_if (fun _ h => im_if (fun _ h => ih _ _ _ _ _ h (d_n0 (dcp_eq hk).2 rfl rfl hI _ (fun _ _ => rfl) _)) h) h) h) hb
      | sastore => exact im_rii (fun x z u r0 h => im_if (fun _ h => im_if (fun _ h => im_if (fun _ h => ih _ _ _ _ _ h (d_n0 (dcp_eq hk).2 rfl rfl hI _ (fun _ _ => rfl) _)) h) h) h) hb
      | ret t =>
        obtain ⟨k1, k2⟩ := j_and hk
        obtain rfl : t = ix + 1 := of_decide_eq_true k1
        exact hX _ _ _ _ _ hb (d_n0 k2 rfl rfl hI _ (fun _ _ => rfl) _)
      | ireturn => exact hb
      | lreturn => exact hb
      | return_ => exact hb
      | new e => exact hb
      | invokevirtual z =>
        have hb : cm_po true (z / 100 % 10) st (fun as st' => cm_rcv as fun a => if cm_cl a = z % 100 then (if cm_cts st' ≤ 8 then cm_bi (run (z / 1000) as s) fun z s' => cm_blk run X code m (code.drop (ix + 1)) lv (.inl z :: st') s' else none) else none) = some r := hb
        show cm_po true (z / 100 % 10) st (fun as st' => cm_rcv as fun a => if cm_cl a = z % 100 then (if cm_cts st' ≤ 8 then cm_bi (run' (z / 1000) as s) fun z s' => cm_blk run' X' code m (code.drop (ix + 1)) lv (.inl z :: st') s' else none) else none) = some r
        refine im_po (fun as st' hp h => im_rcv (fun b r0 eb h => im_if (fun _ h => im_if (fun _ h => ?_) h) h) h) hb
        obtain ⟨d1, d2⟩ := d_call hR hR' (dcp_eq hk).1 (of_decide_eq_true hlt1) hT hI.2.2 hp
        exact im_bi (fun q hq => hrun _ _ _ _ hq d1 d2) (fun z s' _ h => ih _ _ _ _ _ h (d_n0 (dcp_eq hk).2 rfl rfl hI _ (fun _ _ => rfl) _)) h
      | invokespecial z =>
        have hb : cm_po true (z / 100 % 10) st (fun as st' => cm_rcv as fun a => if cm_cl a = z % 100 then (if cm_cts st' ≤ 8 then cm_bv (run (z / 1000) as s) fun s' => cm_blk run X code m (code.drop (ix + 1)) lv st' s' else none) else none) = some r := hb
        show cm_po true (z / 100 % 10) st (fun as st' => cm_rcv as fun a => if cm_cl a = z % 100 then (if cm_cts st' ≤ 8 then cm_bv (run' (z / 1000) as s) fun s' => cm_blk run' X' code m (code.drop (ix + 1)) lv st' s' else none) else none) = some r
        refine im_po (fun as st' hp h => im_rcv (fun b r0 eb h => im_if (fun hcl h => im_if (fun _ h => ?_) h) h) h) hb
        obtain ⟨d1, d2⟩ := d_call hR hR' (dcp_eq hk).1 (of_decide_eq_true hlt1) hT hI.2.2 hp
        refine im_bv (fun q hq => hrun _ _ _ _ hq d1 d2) (fun s' hs' h => ih _ _ _ _ _ h ?_) h
        by_cases hw : dbw (T.getD ix 0) (.invokespecial z) = true
        · obtain ⟨w1, w2⟩ := j_and hw
          obtain rfl : z = 48104 := of_decide_eq_true w1
          obtain ⟨r1, rfl⟩ := hT.1 (of_decide_eq_true w2)
          have hb14 : b = 14 := cm_cl_4 hcl
          have hlast := j_top hp (by decide)
          have hE : as = [.inr (.inl 14), .inl a] := by
            obtain ⟨-, g⟩ := cm_pop_eq hp
            rcases g with ⟨q, -⟩ | ⟨-, b', g1, rfl⟩
            · cases q
            · rw [hb14] at eb
              cases eb
              rfl
          rw [hE] at hs'
          have h20 := hbw a _ _ hs'
          obtain ⟨k1, k2⟩ := dcn_eq (dcp_eq hk).2
          refine ⟨hI.1, ?_, fun _ => h20⟩
          rcases of_decide_eq_true k1 with e | e
          · exact dT_0 e a _
          · exact dT_0 e a _
        · exact d_n0 (dcp_eq hk).2 rfl (by simpa using hw) hI _ (fun _ _ => rfl) _
      | invokestatic z =>
        have hb : cm_po false (z / 100 % 10) st (fun as st' => if cm_cts st' ≤ 8 then cm_bi (run (z / 1000) as s) fun z s' => cm_blk run X code m (code.drop (ix + 1)) lv (.inl z :: st') s' else none) = some r := hb
        show cm_po false (z / 100 % 10) st (fun as st' => if cm_cts st' ≤ 8 then cm_bi (run' (z / 1000) as s) fun z s' => cm_blk run' X' code m (code.drop (ix + 1)) lv (.inl z :: st') s' else none) = some r
        refine im_po (fun as st' hp h => im_if (fun _ h => ?_) h) hb
        obtain ⟨d1, d2⟩ := d_call hR hR' (dcp_eq hk).1 (of_decide_eq_true hlt1) hT hI.2.2 hp
        exact im_bi (fun q hq => hrun _ _ _ _ hq d1 d2) (fun z s' _ h => ih _ _ _ _ _ h (d_n0 (dcp_eq hk).2 rfl rfl hI _ (fun _ _ => rfl) _)) h
      | _ => cases hb
end DEEP2
theorem cm_bv_in {x : Option cm_R} {f : cm_S → Option cm_R} {v : Option cm_V} {s' : cm_S} (h : cm_bv x f = some (.inl v, s')) : ∃ s1, x = some (.inl none, s1) ∧ f s1 = some (.inl v, s') := by
  unfold cm_bv at h
  split at h
  · exact ⟨_, rfl, h⟩
  · cases h
  · cases h
theorem d_bw {F K : Nat} {b : Int} {s s' : cm_S} (h : cm_all cm_cd cm_mLn F K 48 [.inr (.inl 14), .inl b] s = some (.inl none, s')) : b < 20 := by
  have h := cm_all_sem h
  have h : cm_sem 48 [.inr (.inl 14), .inl b] s = some (.inl none, s') := h
  rw [cS_48] at h
  unfold cF_48_0 at h
  obtain ⟨s1, -, h⟩ := cm_bv_in h
  by_cases hb : b < 20
  · exact hb
  · exfalso
    have h34 : ∀ z u s2, cm_sem 34 [.inr (.inl 3), .inl z, .inl u] s2 = some (.inr 0, cm_p (cm_p s2 300 z) 301 u) := fun z u s2 => cS_34 z u s2
    by_cases h0 : s1.1 1503 = 0
    · rw [if_pos h0] at h
      obtain ⟨s2, -, h⟩ := cm_bv_in h
      rw [if_neg hb] at h
      obtain ⟨s3, h, -⟩ := cm_bv_in h
      rw [h34] at h
      cases h
    · rw [if_neg h0, if_neg hb] at h
      obtain ⟨s3, h, -⟩ := cm_bv_in h
      rw [h34] at h
      cases h
set_option maxRecDepth 20000 in
theorem dlt_all : (List.range 301).all (fun y => (cm_cd y).all dlt) = true := by decide +kernel
theorem d_go {y : Nat} {a : Int} {T G : List Nat} {code : List Instr} {R0 : Nat} (hR : ∀ k, dlo y = some k → R0 = ds y + 16 * (21 - a.toNat) ∧ 0 ≤ a ∧ a ≤ 20) (hR' : dlo y = none → R0 = ds y) {run run' : cm_RN} (ha0 : 0 ≤ a ∧ a ≤ 20) (hck : dckA y code T G = true) (hlt : code.all dlt = true) (hrun : ∀ y' as s r, run y' as s = some r → dok y' as → drk y' as < R0 → run' y' as s = some r) (hbw : ∀ b s s', run 48 [.inr (.inl 14), .inl b] s = some (.inl none, s') → b < 20) : ∀ (kk t : Nat) (lv : cm_L) (st : List cm_V) (s : cm_S) (r : cm_R), cm_go run code kk t lv st s = some r → dI y a T G t lv st → cm_go run' code kk t lv st s = some r := by
  intro kk
  induction kk with
  | zero => intro t lv st s r h; cases h
  | succ kk ih => intro t lv st s r h hI; exact d_blk ha0 hR hR' hck hlt hrun hbw ih 700 t lv st s r h hI
/-- A RUN NEEDS NO MORE DEPTH THAN ITS RANK -/
theorem d_all {F : Nat} : ∀ (K y : Nat) (as : List cm_V) (s : cm_S) (r : cm_R) (d : Nat), cm_all cm_cd cm_mLn F K y as s = some r → dok y as → drk y as < d → cm_all cm_cd cm_mLn F d y as s = some r := by
  intro K
  induction K with
  | zero => intro y as s r d h; cases h
  | succ K ih =>
    intro y as s r d h hok hd
    obtain ⟨d, rfl⟩ : ∃ k, d = k + 1 := ⟨d - 1, by omega⟩
    obtain ⟨hl, hg⟩ := cm_if_eq (c := as.length ≤ cm_mLn y) h
    show (if as.length ≤ cm_mLn y then cm_go (cm_all cm_cd cm_mLn F d) (cm_cd y) F 0 (cm_lv0 (cm_mLn y) as) [] s else none) = some r
    rw [if_pos hl]
    obtain ⟨hy, hok⟩ := hok
    obtain ⟨a, ha0, haR, haN, haL⟩ : ∃ a : Int, (0 ≤ a ∧ a ≤ 20) ∧ (∀ k, dlo y = some k → drk y as = ds y + 16 * (21 - a.toNat) ∧ 0 ≤ a ∧ a ≤ 20) ∧ (dlo y = none → drk y as = ds y) ∧ ∀ k, dlo y = some k → as[k]? = some (.inl a) := by
      cases hdl : dlo y with
      | none => exact ⟨0, ⟨by omega, by omega⟩, fun k z => (by cases z), fun _ => (by unfold drk; rw [hdl]), fun k z => (by cases z)⟩
      | some k =>
        obtain ⟨a, h1, h2, h3⟩ := hok k hdl
        refine ⟨a, ⟨h2, h3⟩, fun k' z => ⟨?_, h2, h3⟩, fun z => (by cases z), fun k' z => (by cases z; exact h1)⟩
        unfold drk
        rw [hdl]
        simp only [h1]
    have hdf := df_all hy
    have hlt := List.all_eq_true.mp dlt_all y (List.mem_range.mpr hy)
    refine d_go (a := a) (R0 := drk y as) haR haN ha0 hdf hlt (fun y' as' s' r' h1 h2 h3 => ih y' as' s' r' d h1 h2 (by omega)) (fun b s1 s2 hh => d_bw hh) F 0 _ [] s r hg ⟨fun k hk => ?_, ?_, fun z => ?_⟩
    · have h1 := haL k hk
      unfold cm_lv0
      have hlt2 : k < as.length := (List.getElem?_eq_some_iff.mp h1).1
      rw [List.getElem?_append_left (by simpa using hlt2), List.getElem?_map, h1]
      rfl
    · exact dT_0 (of_decide_eq_true (j_and hdf).1).1 a _
    · have := (of_decide_eq_true (j_and hdf).1).2
      omega
