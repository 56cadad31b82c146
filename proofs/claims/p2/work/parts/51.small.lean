/-! ===== runs of the two sides' small methods ===== -/
section AM19
variable {y fuel d K pc : Nat} {lv : am_L} {st : List Value} {h : List va_E} {res : Option am_R}
theorem am_xj {off : Int} {t : Nat} (hp : am_pk y pc = some (.goto off)) (ht : am_to pc off = some t) (hn : am_go y fuel d K t lv st h res) : am_go y fuel d (K + 1) pc lv st h res := by
  refine am_x1 ⟨rfl, rfl, rfl⟩ hp ?_ hn
  show (am_to pc off).bind _ = _
  rw [ht]
  rfl
/-- a switch: outside, and at a number -/
theorem am_xo {dd lo hi : Int} {offs : Array Int} {x : Int32} {r : List Value} {t : Nat} (hp : am_pk y pc = some (.tableswitch dd lo hi offs)) (ho : (decide (x.toInt < lo) || decide (hi < x.toInt)) = true) (ht : am_to pc dd = some t) (hn : am_go y fuel d K t lv r h res) : am_go y fuel d (K + 1) pc lv (.int x :: r) h res := by
  refine am_x1 ⟨rfl, rfl, rfl⟩ hp ?_ hn
  show (am_to pc (if (decide (x.toInt < lo) || decide (hi < x.toInt)) = true then dd else _)).bind _ = _
  rw [if_pos ho, ht, Option.bind_some, if_pos]
  rw [ho]
  rfl
theorem am_xw {dd lo hi off : Int} {offs : Array Int} {x : Int32} {r : List Value} {t : Nat} (hp : am_pk y pc = some (.tableswitch dd lo hi offs)) (ho : (decide (x.toInt < lo) || decide (hi < x.toInt)) = false) (hf : offs[(x.toInt - lo).toNat]? = some off) (ht : am_to pc off = some t) (hn : am_go y fuel d K t lv r h res) : am_go y fuel d (K + 1) pc lv (.int x :: r) h res := by
  refine am_x1 ⟨rfl, rfl, rfl⟩ hp ?_ hn
  show (am_to pc (if (decide (x.toInt < lo) || decide (hi < x.toInt)) = true then dd else (offs[(x.toInt - lo).toNat]?).getD dd)).bind _ = _
  rw [ho, if_neg (by decide), hf, Option.getD_some, ht, Option.bind_some, if_pos]
  rfl
theorem am_at_set {a : Nat} {e e2 : va_E} (h1 : h[a]? = some e) : (h.set a e2)[a]? = some e2 := by
  rw [List.getElem?_set_self (List.getElem?_eq_some_iff.mp h1).1]
theorem am_at_other {a b : Nat} {e e2 : va_E} (h1 : h[b]? = some e) (hn : a ≠ b) : (h.set a e2)[b]? = some e := by
  rw [List.getElem?_set_ne hn]
  exact h1
theorem am_f_other {fs : List Value} {i j : Nat} {v w : Value} (h1 : fs[j]? = some v) (hn : i ≠ j) : (fs.set i w)[j]? = some v := by
  rw [List.getElem?_set_ne hn]
  exact h1
theorem am_f_set {fs : List Value} {i : Nat} {v w : Value} (h1 : fs[i]? = some v) : (fs.set i w)[i]? = some w := by
  rw [List.getElem?_set_self (List.getElem?_eq_some_iff.mp h1).1]
end AM19
def am_fv (n p s a : Int32) : Int32 := if a = 0 then n else if a = 1 then p else if a = 2 then s else -1
theorem am_fv_cases (n p s a : Int32) : (a = 0 ∧ am_fv n p s a = n) ∨ (a = 1 ∧ am_fv n p s a = p) ∨ (a = 2 ∧ am_fv n p s a = s) ∨ (a ≠ 0 ∧ a ≠ 1 ∧ a ≠ 2 ∧ am_fv n p s a = -1) := by
  unfold am_fv
  by_cases h0 : a = 0
  · exact Or.inl ⟨h0, if_pos h0⟩
  · by_cases h1 : a = 1
    · exact Or.inr (Or.inl ⟨h1, by rw [if_neg h0, if_pos h1]⟩)
    · by_cases h2 : a = 2
      · exact Or.inr (Or.inr (Or.inl ⟨h2, by rw [if_neg h0, if_neg h1, if_pos h2]⟩))
      · exact Or.inr (Or.inr (Or.inr ⟨h0, h1, h2, by rw [if_neg h0, if_neg h1, if_neg h2]⟩))
theorem am_out {a : Int32} {n : Nat} (hn : n < 1000) (h : ∀ k : Nat, k ≤ n → a ≠ Int32.ofNat k) : (decide (a.toInt < 0) || decide ((n : Int) < a.toInt)) = true := by
  rw [Bool.or_eq_true]
  by_cases h0 : a.toInt < 0
  · exact Or.inl (decide_eq_true h0)
  · by_cases h1 : (n : Int) < a.toInt
    · exact Or.inr (decide_eq_true h1)
    · exfalso
      refine h a.toInt.toNat (by omega) ?_
      apply Int32.toInt_inj.mp
      rw [Int32.toInt_ofNat_of_lt (by omega)]
      omega

theorem am_rFlt {d x a3 : Nat} {h : List va_E} {f0 : List Value} {n p s a : Int32} (h0 : h[x]? = some (.inr (0, f0))) (hf : f0[1]? = some (.ref a3)) (h3 : h[a3]? = some (.inr (2, [.int n, .int p, .int s]))) : am_all am_thr 3000 (d + 1) 13 [.ref x, .int a] h = some (.inl (some (.int (am_fv n p s a))), h, 0, 0) := by
  refine am_in_go (by rw [am_FFlt.2.1]; exact Nat.le_of_ble_eq_true rfl) ?_
  rcases am_fv_cases n p s a with ⟨rfl, e⟩ | ⟨rfl, e⟩ | ⟨rfl, e⟩ | ⟨n0, n1, n2, e⟩ <;> rw [e]
  · refine am_x1 am_FFlt am_qFlt_0 rfl ?_
    refine am_xw am_qFlt_1 (off := 27) (t := 28) (by decide) (by decide) (by decide) ?_
    refine am_x1 am_FFlt am_qFlt_28 rfl ?_
    refine am_xg am_FFlt am_qFlt_29 am_qf0_19 h0 hf ?_
    refine am_xg am_FFlt am_qFlt_32 am_qf0_114 h3 rfl ?_
    exact am_xr am_qFlt_35 rfl
  · refine am_x1 am_FFlt am_qFlt_0 rfl ?_
    refine am_xw am_qFlt_1 (off := 35) (t := 36) (by decide) (by decide) (by decide) ?_
    refine am_x1 am_FFlt am_qFlt_36 rfl ?_
    refine am_xg am_FFlt am_qFlt_37 am_qf0_19 h0 hf ?_
    refine am_xg am_FFlt am_qFlt_40 am_qf0_117 h3 rfl ?_
    exact am_xr am_qFlt_43 rfl
  · refine am_x1 am_FFlt am_qFlt_0 rfl ?_
    refine am_xw am_qFlt_1 (off := 43) (t := 44) (by decide) (by decide) (by decide) ?_
    refine am_x1 am_FFlt am_qFlt_44 rfl ?_
    refine am_xg am_FFlt am_qFlt_45 am_qf0_19 h0 hf ?_
    refine am_xg am_FFlt am_qFlt_48 am_qf0_99 h3 rfl ?_
    exact am_xr am_qFlt_51 rfl
  · refine am_x1 am_FFlt am_qFlt_0 rfl ?_
    refine am_xo am_qFlt_1 (t := 52) (am_out (n := 2) (by decide) (fun k hk => by
      match k, hk with
      | 0, _ => exact n0
      | 1, _ => exact n1
      | 2, _ => exact n2
      | k + 3, hk => omega)) (by decide) ?_
    refine am_x1 am_FFlt am_qFlt_52 rfl ?_
    exact am_xr am_qFlt_53 rfl

theorem am_ne_t {a b : Int32} (h : a ≠ b) : am_c .ne a b = true := decide_eq_true h
theorem am_rMFlt {d x : Nat} {h : List va_E} {f0 : List Value} {t n p s a : Int32} (h0 : h[x]? = some (.inr (9, f0))) (ht : f0[3]? = some (.int t)) (h8 : f0[8]? = some (.int n)) (h9 : f0[9]? = some (.int p)) (h10 : f0[10]? = some (.int s)) : am_all am_thr 3000 (d + 1) 296 [.ref x, .int a] h = some (.inl (some (.int (am_fv n p s a))), h.set x (.inr (9, f0.set 3 (.int 0))), 0, 0) := by
  refine am_in_go (by rw [am_FMFlt.2.1]; exact Nat.le_of_ble_eq_true rfl) ?_
  rcases am_fv_cases n p s a with ⟨rfl, e⟩ | ⟨rfl, e⟩ | ⟨rfl, e⟩ | ⟨n0, n1, n2, e⟩ <;> rw [e]
  · refine am_x1 am_FMFlt am_qMFlt_0 rfl ?_
    refine am_x1 am_FMFlt am_qMFlt_1 rfl ?_
    refine am_xp am_FMFlt am_qMFlt_2 am_qf9_167 h0 (List.getElem?_eq_some_iff.mp ht).1 rfl ?_
    refine am_x1 am_FMFlt am_qMFlt_5 rfl ?_
    refine am_xz am_qMFlt_6 (b := false) (t := 16) (by decide) (by decide) ?_
    refine am_x1 am_FMFlt am_qMFlt_9 rfl ?_
    refine am_xg am_FMFlt am_qMFlt_10 am_qf9_188 (am_at_set h0) (am_f_other h8 (by decide)) ?_
    refine am_xj am_qMFlt_13 (t := 41) (by decide) ?_
    exact am_xr am_qMFlt_41 rfl
  · refine am_x1 am_FMFlt am_qMFlt_0 rfl ?_
    refine am_x1 am_FMFlt am_qMFlt_1 rfl ?_
    refine am_xp am_FMFlt am_qMFlt_2 am_qf9_167 h0 (List.getElem?_eq_some_iff.mp ht).1 rfl ?_
    refine am_x1 am_FMFlt am_qMFlt_5 rfl ?_
    refine am_xz am_qMFlt_6 (b := true) (t := 16) (by decide) (by decide) ?_
    refine am_x1 am_FMFlt am_qMFlt_16 rfl ?_
    refine am_x1 am_FMFlt am_qMFlt_17 rfl ?_
    refine am_xi am_qMFlt_18 (b := false) (t := 28) (by decide) (by decide) ?_
    refine am_x1 am_FMFlt am_qMFlt_21 rfl ?_
    refine am_xg am_FMFlt am_qMFlt_22 am_qf9_87 (am_at_set h0) (am_f_other h9 (by decide)) ?_
    refine am_xj am_qMFlt_25 (t := 41) (by decide) ?_
    exact am_xr am_qMFlt_41 rfl
  · refine am_x1 am_FMFlt am_qMFlt_0 rfl ?_
    refine am_x1 am_FMFlt am_qMFlt_1 rfl ?_
    refine am_xp am_FMFlt am_qMFlt_2 am_qf9_167 h0 (List.getElem?_eq_some_iff.mp ht).1 rfl ?_
    refine am_x1 am_FMFlt am_qMFlt_5 rfl ?_
    refine am_xz am_qMFlt_6 (b := true) (t := 16) (by decide) (by decide) ?_
    refine am_x1 am_FMFlt am_qMFlt_16 rfl ?_
    refine am_x1 am_FMFlt am_qMFlt_17 rfl ?_
    refine am_xi am_qMFlt_18 (b := true) (t := 28) (by decide) (by decide) ?_
    refine am_x1 am_FMFlt am_qMFlt_28 rfl ?_
    refine am_x1 am_FMFlt am_qMFlt_29 rfl ?_
    refine am_xi am_qMFlt_30 (b := false) (t := 40) (by decide) (by decide) ?_
    refine am_x1 am_FMFlt am_qMFlt_33 rfl ?_
    refine am_xg am_FMFlt am_qMFlt_34 am_qf9_328 (am_at_set h0) (am_f_other h10 (by decide)) ?_
    refine am_xj am_qMFlt_37 (t := 41) (by decide) ?_
    exact am_xr am_qMFlt_41 rfl
  · refine am_x1 am_FMFlt am_qMFlt_0 rfl ?_
    refine am_x1 am_FMFlt am_qMFlt_1 rfl ?_
    refine am_xp am_FMFlt am_qMFlt_2 am_qf9_167 h0 (List.getElem?_eq_some_iff.mp ht).1 rfl ?_
    refine am_x1 am_FMFlt am_qMFlt_5 rfl ?_
    refine am_xz am_qMFlt_6 (b := true) (t := 16) (am_ne_t n0) (by decide) ?_
    refine am_x1 am_FMFlt am_qMFlt_16 rfl ?_
    refine am_x1 am_FMFlt am_qMFlt_17 rfl ?_
    refine am_xi am_qMFlt_18 (b := true) (t := 28) (am_ne_t n1) (by decide) ?_
    refine am_x1 am_FMFlt am_qMFlt_28 rfl ?_
    refine am_x1 am_FMFlt am_qMFlt_29 rfl ?_
    refine am_xi am_qMFlt_30 (b := true) (t := 40) (am_ne_t n2) (by decide) ?_
    refine am_x1 am_FMFlt am_qMFlt_40 rfl ?_
    exact am_xr am_qMFlt_41 rfl
