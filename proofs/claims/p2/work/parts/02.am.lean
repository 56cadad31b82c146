/-! ===== AN ABSTRACT MACHINE: values and cells by places (a place's address is ad's); one walk for every method ===== -/
def am_tv (ad : Nat → Nat) (v : Value) : Value := match v with
  | .ref i => .ref (ad i)
  | .int x => .int x
  | .long x => .long x
  | .float x => .float x
  | .double x => .double x
  | .null => .null
  | .retAddr x => .retAddr x
def am_te (ad ct : Nat → Nat) (e : va_E) : va_E := match e with
  | .inl x => .inl (ct x.1, x.2)
  | .inr o => .inr (o.1, o.2.map (am_tv ad))
def am_ws (ad ct : Nat → Nat) (h : List va_E) : va_W := h.mapIdx (fun i e => (ad i, am_te ad ct e))
def am_lv (ad : Nat → Nat) (lv : List (Nat × Value)) : List (Nat × Value) := lv.map (fun q => (q.1, am_tv ad q.2))
theorem am_tv_cat (ad : Nat → Nat) (v : Value) : (am_tv ad v).category = v.category := by cases v <;> rfl
theorem am_ws_at {ad ct : Nat → Nat} {h : List va_E} {i : Nat} {e : va_E} (hi : h[i]? = some e) : (am_ws ad ct h)[i]? = some (ad i, am_te ad ct e) := by
  simp [am_ws, List.getElem?_mapIdx, hi]
theorem am_ws_set (ad ct : Nat → Nat) (h : List va_E) (i : Nat) (e : va_E) : am_ws ad ct (h.set i e) = (am_ws ad ct h).set i (ad i, am_te ad ct e) := by
  simp [am_ws, List.mapIdx_set]
theorem am_look {ad : Nat → Nat} {lv : List (Nat × Value)} {i : Nat} {v : Value} (h : lv.lookup i = some v) : ∃ k : Nat, (am_lv ad lv)[k]? = some (i, am_tv ad v) := by
  induction lv with
  | nil => cases h
  | cons q r ih =>
    obtain ⟨j, w⟩ := q
    rw [List.lookup_cons] at h
    by_cases e : (i == j) = true
    · rw [e] at h
      cases h
      have e2 : i = j := by simpa using e
      subst e2
      exact ⟨0, rfl⟩
    · rw [Bool.not_eq_true] at e
      rw [e] at h
      obtain ⟨k, hk⟩ := ih h
      exact ⟨k + 1, by simpa [am_lv] using hk⟩
/-- a local of one word is written -/
def am_sto (lv : List (Nat × Value)) (i : Nat) (v : Value) : List (Nat × Value) := (i, v) :: lv.filter (fun q => !(q.1 == i) && !(q.1 + 1 == i && q.2.category == 2))
/-- a local of two words is written -/
def am_sto2 (lv : List (Nat × Value)) (i : Nat) (v : Value) : List (Nat × Value) := (i, v) :: lv.filter (fun q => !(q.1 == i) && (!(q.1 == i + 1) && !(q.1 + 1 == i && q.2.category == 2)))
theorem am_sto_lv (ad : Nat → Nat) (lv : List (Nat × Value)) (i : Nat) (v : Value) : (i, am_tv ad v) :: (am_lv ad lv).filter (fun q => !(q.1 == i) && !(q.1 + 1 == i && q.2.category == 2)) = am_lv ad (am_sto lv i v) := by
  unfold am_sto am_lv
  rw [List.map_cons, List.filter_map]
  congr 2
  apply List.filter_congr
  intro q _
  simp only [Function.comp, am_tv_cat]
theorem am_sto2_lv (ad : Nat → Nat) (lv : List (Nat × Value)) (i : Nat) (v : Value) : (i, am_tv ad v) :: (am_lv ad lv).filter (fun q => !(q.1 == i) && (!(q.1 == i + 1) && !(q.1 + 1 == i && q.2.category == 2))) = am_lv ad (am_sto2 lv i v) := by
  unfold am_sto2 am_lv
  rw [List.map_cons, List.filter_map]
  congr 2
  apply List.filter_congr
  intro q _
  simp only [Function.comp, am_tv_cat]
/-- a state of one frame: pc, locals, stack, cells -/
abbrev am_F : Type := Nat × List (Nat × Value) × List Value × List va_E
def am_c (c : ClassFile.Cond) (x y : Int32) : Bool := match c with
  | .eq => decide (x = y)
  | .ne => decide (¬ x = y)
  | .lt => decide (x < y)
  | .ge => decide (y ≤ x)
  | .gt => decide (y < x)
  | .le => decide (x ≤ y)
def am_to (pc : Nat) (off : Int) : Option Nat := match (pc : Int) + off with
  | .ofNat t => some t
  | .negSucc _ => none
theorem am_to_eq {pc t : Nat} {off : Int} (h : am_to pc off = some t) : (pc : Int) + off = (t : Int) := by
  unfold am_to at h
  split at h
  · next e => cases h; exact e
  · cases h
def am_ok (i : Int32) (n : Nat) : Bool := !(decide (i < 0) || decide (n ≤ i.toNatClampNeg))
theorem am_ok_eq {i : Int32} {n : Nat} (h : am_ok i n = true) : vp_in i n := by
  intro q
  unfold am_ok at h
  rcases q with q | q <;> simp [q] at h
/-- an int on the stack, two, a long .. -/
def am_i1 {α : Type} (st : List Value) (f : Int32 → List Value → Option α) : Option α := match st with
  | .int x :: r => f x r
  | _ => none
def am_i2 {α : Type} (st : List Value) (f : Int32 → Int32 → List Value → Option α) : Option α := match st with
  | .int y :: .int x :: r => f x y r
  | _ => none
def am_l1 {α : Type} (st : List Value) (f : Int64 → List Value → Option α) : Option α := match st with
  | .long x :: r => f x r
  | _ => none
def am_l2 {α : Type} (st : List Value) (f : Int64 → Int64 → List Value → Option α) : Option α := match st with
  | .long y :: .long x :: r => f x y r
  | _ => none
def am_li {α : Type} (st : List Value) (f : Int64 → Int32 → List Value → Option α) : Option α := match st with
  | .int y :: .long x :: r => f x y r
  | _ => none
def am_r1 {α : Type} (st : List Value) (f : Nat → List Value → Option α) : Option α := match st with
  | .ref a :: r => f a r
  | _ => none
def am_ri {α : Type} (st : List Value) (f : Nat → Int32 → List Value → Option α) : Option α := match st with
  | .int i :: .ref a :: r => f a i r
  | _ => none
def am_rii {α : Type} (st : List Value) (f : Nat → Int32 → Int32 → List Value → Option α) : Option α := match st with
  | .int x :: .int i :: .ref a :: r => f a i x r
  | _ => none
def am_ril {α : Type} (st : List Value) (f : Nat → Int32 → Int64 → List Value → Option α) : Option α := match st with
  | .long x :: .int i :: .ref a :: r => f a i x r
  | _ => none
theorem am_i1_eq {α : Type} {st : List Value} {f : Int32 → List Value → Option α} {z : α} (h : am_i1 st f = some z) : ∃ x r, st = .int x :: r ∧ f x r = some z := by
  unfold am_i1 at h; split at h
  · exact ⟨_, _, rfl, h⟩
  · cases h
theorem am_i2_eq {α : Type} {st : List Value} {f : Int32 → Int32 → List Value → Option α} {z : α} (h : am_i2 st f = some z) : ∃ x y r, st = .int y :: .int x :: r ∧ f x y r = some z := by
  unfold am_i2 at h; split at h
  · exact ⟨_, _, _, rfl, h⟩
  · cases h
theorem am_l1_eq {α : Type} {st : List Value} {f : Int64 → List Value → Option α} {z : α} (h : am_l1 st f = some z) : ∃ x r, st = .long x :: r ∧ f x r = some z := by
  unfold am_l1 at h; split at h
  · exact ⟨_, _, rfl, h⟩
  · cases h
theorem am_l2_eq {α : Type} {st : List Value} {f : Int64 → Int64 → List Value → Option α} {z : α} (h : am_l2 st f = some z) : ∃ x y r, st = .long y :: .long x :: r ∧ f x y r = some z := by
  unfold am_l2 at h; split at h
  · exact ⟨_, _, _, rfl, h⟩
  · cases h
theorem am_li_eq {α : Type} {st : List Value} {f : Int64 → Int32 → List Value → Option α} {z : α} (h : am_li st f = some z) : ∃ x y r, st = .int y :: .long x :: r ∧ f x y r = some z := by
  unfold am_li at h; split at h
  · exact ⟨_, _, _, rfl, h⟩
  · cases h
theorem am_r1_eq {α : Type} {st : List Value} {f : Nat → List Value → Option α} {z : α} (h : am_r1 st f = some z) : ∃ a r, st = .ref a :: r ∧ f a r = some z := by
  unfold am_r1 at h; split at h
  · exact ⟨_, _, rfl, h⟩
  · cases h
theorem am_ri_eq {α : Type} {st : List Value} {f : Nat → Int32 → List Value → Option α} {z : α} (h : am_ri st f = some z) : ∃ a i r, st = .int i :: .ref a :: r ∧ f a i r = some z := by
  unfold am_ri at h; split at h
  · exact ⟨_, _, _, rfl, h⟩
  · cases h
theorem am_rii_eq {α : Type} {st : List Value} {f : Nat → Int32 → Int32 → List Value → Option α} {z : α} (h : am_rii st f = some z) : ∃ a i x r, st = .int x :: .int i :: .ref a :: r ∧ f a i x r = some z := by
  unfold am_rii at h; split at h
  · exact ⟨_, _, _, _, rfl, h⟩
  · cases h
theorem am_ril_eq {α : Type} {st : List Value} {f : Nat → Int32 → Int64 → List Value → Option α} {z : α} (h : am_ril st f = some z) : ∃ a i x r, st = .long x :: .int i :: .ref a :: r ∧ f a i x r = some z := by
  unfold am_ril at h; split at h
  · exact ⟨_, _, _, _, rfl, h⟩
  · cases h
/-- a local that holds an int, a long, a cell -/
def am_gi {α : Type} (lv : List (Nat × Value)) (k : Nat) (f : Int32 → Option α) : Option α := match lv.lookup k with
  | some (.int x) => f x
  | _ => none
def am_gl {α : Type} (lv : List (Nat × Value)) (k : Nat) (f : Int64 → Option α) : Option α := match lv.lookup k with
  | some (.long x) => f x
  | _ => none
def am_gr {α : Type} (lv : List (Nat × Value)) (k : Nat) (f : Nat → Option α) : Option α := match lv.lookup k with
  | some (.ref x) => f x
  | _ => none
theorem am_gi_eq {α : Type} {lv : List (Nat × Value)} {k : Nat} {f : Int32 → Option α} {z : α} (h : am_gi lv k f = some z) : ∃ x, lv.lookup k = some (.int x) ∧ f x = some z := by
  unfold am_gi at h; split at h
  · next x e => exact ⟨x, e, h⟩
  · cases h
theorem am_gl_eq {α : Type} {lv : List (Nat × Value)} {k : Nat} {f : Int64 → Option α} {z : α} (h : am_gl lv k f = some z) : ∃ x, lv.lookup k = some (.long x) ∧ f x = some z := by
  unfold am_gl at h; split at h
  · next x e => exact ⟨x, e, h⟩
  · cases h
theorem am_gr_eq {α : Type} {lv : List (Nat × Value)} {k : Nat} {f : Nat → Option α} {z : α} (h : am_gr lv k f = some z) : ∃ x, lv.lookup k = some (.ref x) ∧ f x = some z := by
  unfold am_gr at h; split at h
  · next x e => exact ⟨x, e, h⟩
  · cases h
/-- the row of ints at a place, of the kind t -/
def am_row {α : Type} (h : List va_E) (a : Nat) (f : Nat → Nat → (Nat → Int32) → Option α) : Option α := match h[a]? with
  | some (.inl (t, n, .inl g)) => f t n g
  | _ => none
def am_rowl {α : Type} (h : List va_E) (a : Nat) (f : Nat → Nat → (Nat → Int64) → Option α) : Option α := match h[a]? with
  | some (.inl (t, n, .inr (.inl g))) => f t n g
  | _ => none
def am_obj {α : Type} (h : List va_E) (a : Nat) (f : Nat → List Value → Option α) : Option α := match h[a]? with
  | some (.inr (c, fs)) => f c fs
  | _ => none
theorem am_row_eq {α : Type} {h : List va_E} {a : Nat} {f : Nat → Nat → (Nat → Int32) → Option α} {z : α} (q : am_row h a f = some z) : ∃ t n g, h[a]? = some (.inl (t, n, .inl g)) ∧ f t n g = some z := by
  unfold am_row at q; split at q
  · next t n g e => exact ⟨t, n, g, e, q⟩
  · cases q
theorem am_rowl_eq {α : Type} {h : List va_E} {a : Nat} {f : Nat → Nat → (Nat → Int64) → Option α} {z : α} (q : am_rowl h a f = some z) : ∃ t n g, h[a]? = some (.inl (t, n, .inr (.inl g))) ∧ f t n g = some z := by
  unfold am_rowl at q; split at q
  · next t n g e => exact ⟨t, n, g, e, q⟩
  · cases q
theorem am_obj_eq {α : Type} {h : List va_E} {a : Nat} {f : Nat → List Value → Option α} {z : α} (q : am_obj h a f = some z) : ∃ c fs, h[a]? = some (.inr (c, fs)) ∧ f c fs = some z := by
  unfold am_obj at q; split at q
  · next c fs e => exact ⟨c, fs, e, q⟩
  · cases q
theorem am_if {α : Type} {b : Bool} {x : Option α} {z : α} (h : (if b = true then x else none) = some z) : b = true ∧ x = some z := by
  cases b
  · simp at h
  · exact ⟨rfl, by simpa using h⟩
