/-! ===== what lies there when both objects are made ===== -/
abbrev am_lv1 : am_L := [(4, .int 0), (3, .ref 72), (2, .ref 41), (1, .ref 0), (0, .ref 2000)]
def am_isO (h : List va_E) (i c : Nat) (fs : List (Nat × Value)) : Bool := match h[i]? with
  | some (.inr o) => decide (o.1 = c) && fs.all (fun q => decide (o.2[q.1]? = some q.2))
  | _ => false
def am_isA (h : List va_E) (i t n : Nat) (l : Bool) : Bool := match h[i]? with
  | some (.inl (t2, n2, .inl _)) => !l && (decide (t2 = t) && decide (n2 = n))
  | some (.inl (t2, n2, .inr (.inl _))) => l && (decide (t2 = t) && decide (n2 = n))
  | _ => false
theorem am_isO_eq {h : List va_E} {i c : Nat} {fs : List (Nat × Value)} (h1 : am_isO h i c fs = true) : ∃ f, h[i]? = some (.inr (c, f)) ∧ ∀ q ∈ fs, f[q.1]? = some q.2 := by
  unfold am_isO at h1
  split at h1
  · next o ho =>
    rw [Bool.and_eq_true, decide_eq_true_eq, List.all_eq_true] at h1
    obtain ⟨c2, f⟩ := o
    obtain ⟨h2, h3⟩ := h1
    cases h2
    exact ⟨f, ho, fun q hq => of_decide_eq_true (h3 q hq)⟩
  · cases h1
theorem am_isA_eq {h : List va_E} {i t n : Nat} (h1 : am_isA h i t n false = true) : ∃ g, h[i]? = some (.inl (t, n, .inl g)) := by
  unfold am_isA at h1
  split at h1
  · next t2 n2 g hg =>
    simp only [Bool.not_false, Bool.true_and, Bool.and_eq_true, decide_eq_true_eq] at h1
    obtain ⟨rfl, rfl⟩ := h1
    exact ⟨g, hg⟩
  · simp at h1
  · cases h1
def am_ckH (h : List va_E) : Bool := decide (h.length = 73) && (am_isO h 0 0 [(0, .ref 1), (1, .ref 3), (5, .ref 37), (6, .ref 18)] && (am_isO h 3 2 [(0, .int 0), (1, .int (-1)), (2, .int 0)] && (am_isO h 18 6 [(8, .int 0)] && (am_isO h 37 8 [(6, .int 0)] && (am_isO h 41 9 [(3, .int 0), (4, .ref 45), (6, .int 0), (8, .int 0), (9, .int (-1)), (10, .int 0), (43, .int 0), (48, .int 0)] && (am_isA h 2 1 480 false && (am_isA h 45 3 480 false && (decide (am_ob h 1 = some (1, [.ref 2, .int 0, .int 0])) && decide (am_ob h 3 = some (2, [.int 0, .int (-1), .int 0]))))))))))
set_option maxRecDepth 1000000 in
theorem am_s1d : (match am_s1r with
    | some r => decide (r.1.1 = 23) && (decide (r.1.2.1 = am_lv1) && (decide (r.1.2.2.1 = []) && (decide (r.2 = (73, 35900)) && am_ckH r.1.2.2.2)))
    | none => false) = true := by decide +kernel
theorem am_s1e : ∃ H, am_s1r = some ((23, am_lv1, [], H), 73, 35900) ∧ am_ckH H = true := by
  have h := am_s1d
  generalize am_s1r = o at h
  match o, h with
  | some ((a, b, c, d), e), h =>
    simp only [Bool.and_eq_true, decide_eq_true_eq] at h
    obtain ⟨rfl, rfl, rfl, rfl, h5⟩ := h
    exact ⟨d, rfl, h5⟩
theorem am_Hx {P : List va_E → Bool} {H : List va_E} (e : am_s1r = some ((23, am_lv1, [], H), 73, 35900)) (h : (match am_s1r with
    | some r => P r.1.2.2.2
    | none => false) = true) : P H = true := by
  generalize am_s1r = o at e h
  subst e
  exact h
