def am_chk (bs : ByteArray) (tb : List (Nat × Instr)) : Bool := tb.all fun q => match decode bs q.1 with
  | .ok (i, n) => decide (i = q.2) && (decide (am_len i = 0) || decide (n = am_len i))
  | _ => false
theorem am_mem_look {α β : Type} [BEq α] [LawfulBEq α] {l : List (α × β)} {k : α} {v : β} (h : l.lookup k = some v) : (k, v) ∈ l := by
  induction l with
  | nil => cases h
  | cons q r ih =>
    obtain ⟨j, w⟩ := q
    rw [List.lookup_cons] at h
    by_cases e : (k == j) = true
    · rw [e] at h
      cases h
      rw [eq_of_beq e]
      exact List.mem_cons_self
    · rw [Bool.not_eq_true] at e
      rw [e] at h
      exact List.mem_cons_of_mem _ (ih h)
theorem am_chk_ok {bs : ByteArray} {tb : List (Nat × Instr)} (h : am_chk bs tb = true) {pc : Nat} {i : Instr} (hl : tb.lookup pc = some i) : ∃ n, decode bs pc = .ok (i, n) ∧ (am_len i ≠ 0 → n = am_len i) := by
  have h1 := List.all_eq_true.mp h _ (am_mem_look hl)
  simp only at h1
  split at h1
  · next j n hd =>
    simp only [Bool.and_eq_true, Bool.or_eq_true, decide_eq_true_eq] at h1
    obtain ⟨rfl, h2⟩ := h1
    exact ⟨n, hd, fun z => h2.resolve_left z⟩
  · cases h1
