/-! ===== the cells that a state stands for ===== -/
def cm_fkT : List (List Nat) := [[1, 1, 1, 1, 1, 1, 2, 2], [1, 0, 0], [0, 0, 0], [1, 1, 1, 1, 1, 1, 1, 1, 1, 1, 0], [1, 1, 1, 1, 1, 0, 0, 0], [1, 1, 0, 0, 0, 0, 0, 0], [1, 1, 1, 1, 1, 1, 1, 1, 0], [1, 1, 2], [1, 1, 1, 1, 2, 0, 0], [1, 1, 1, 0, 1, 1, 0, 0, 0, 0, 0, 0, 0, 0, 0, 0, 0, 0, 0, 1, 1, 1, 1, 1, 1, 1, 1, 1, 0, 1, 1, 1, 1, 1, 0, 1, 0, 1, 1, 1, 0, 0, 0, 0, 1, 1, 1, 1, 0, 0, 1, 1, 1, 0, 0]]
/-- a field's kind: 0 a number, 1 a place that stays, 2 a place that changes; 9: there is none -/
def cm_fk (c j : Nat) : Nat := (cm_fkT.getD c []).getD j 9
def cm_nf (c : Nat) : Nat := (cm_fkT.getD c []).length
def cm_fv (s : cm_S) (a j : Nat) : Value := if cm_fk (cm_cl a) j = 0 then .int (Int32.ofInt (s.1 (100 * a + j))) else if cm_fk (cm_cl a) j = 1 then .ref (cm_pt a j) else .ref (s.1 (100 * a + j)).toNat
def cm_cell (s : cm_S) (a : Nat) : va_E := if cm_cl a = 99 then (if cm_rk a < 10 then .inl (cm_rk a, (cm_rn a).toNat, .inl fun i => Int32.ofInt (s.2 a (i : Int))) else if cm_rk a = 10 then .inl (0, (cm_rn a).toNat, .inl fun i => Int32.ofInt (cm_kr a (i : Int))) else .inl (4, (cm_rn a).toNat, .inr (.inl fun i => Int64.ofInt (cm_kr a (i : Int))))) else .inr (cm_cl a, (List.range (cm_nf (cm_cl a))).map (cm_fv s a))
def cm_mix (lo hi : Nat) (s : cm_S) (h : List va_E) : List va_E := h.mapIdx fun a e => if lo ≤ a ∧ a < hi then cm_cell s a else e
theorem cm_mix_len (lo hi : Nat) (s : cm_S) (h : List va_E) : (cm_mix lo hi s h).length = h.length := by simp [cm_mix]
theorem cm_mix_at {lo hi a : Nat} {s : cm_S} {h : List va_E} (h1 : lo ≤ a) (h2 : a < hi) (h3 : hi ≤ h.length) : (cm_mix lo hi s h)[a]? = some (cm_cell s a) := by
  unfold cm_mix
  rw [List.getElem?_mapIdx, List.getElem?_eq_getElem (by omega : a < h.length), Option.map_some, if_pos ⟨h1, h2⟩]
theorem cm_mix_no {lo hi a : Nat} {s : cm_S} {h : List va_E} (h1 : ¬ (lo ≤ a ∧ a < hi)) : (cm_mix lo hi s h)[a]? = h[a]? := by
  unfold cm_mix
  rw [List.getElem?_mapIdx]
  cases h[a]? with
  | none => rfl
  | some e => rw [Option.map_some, if_neg h1]
theorem cm_mix_set {lo hi a : Nat} {s s' : cm_S} {h : List va_E} {e : va_E} (h1 : lo ≤ a) (h2 : a < hi) (h3 : hi ≤ h.length) (he : cm_cell s' a = e) (hb : ∀ b, b ≠ a → cm_cell s' b = cm_cell s b) : (cm_mix lo hi s h).set a e = cm_mix lo hi s' h := by
  apply List.ext_getElem?
  intro b
  by_cases hab : a = b
  · subst hab
    rw [List.getElem?_set_self (by rw [cm_mix_len]; omega), cm_mix_at h1 h2 h3, he]
  · rw [List.getElem?_set_ne hab]
    by_cases hr : lo ≤ b ∧ b < hi
    · rw [cm_mix_at hr.1 hr.2 h3, cm_mix_at hr.1 hr.2 h3, hb b (Ne.symm hab)]
    · rw [cm_mix_no hr, cm_mix_no hr]
theorem cm_nf_le (c : Nat) : cm_nf c ≤ 60 := by
  by_cases hc : c < 10
  · have : (List.range 10).all (fun c => decide (cm_nf c ≤ 60)) = true := by decide +kernel
    exact of_decide_eq_true (List.all_eq_true.mp this c (List.mem_range.mpr hc))
  · unfold cm_nf
    rw [List.getD_eq_getElem?_getD, List.getElem?_eq_none (show cm_fkT.length ≤ c by show 10 ≤ c; omega)]
    exact Nat.zero_le _
theorem cm_fk_nf {c j : Nat} (h : cm_fk c j ≠ 9) : j < cm_nf c := by
  unfold cm_fk at h
  unfold cm_nf
  by_cases hj : j < (cm_fkT.getD c []).length
  · exact hj
  · exact absurd (by rw [List.getD_eq_getElem?_getD, List.getElem?_eq_none (by omega)]; rfl) h
theorem cm_fk_cl {c j : Nat} (h : cm_fk c j ≠ 9) : c < 10 := by
  by_cases hc : c < 10
  · exact hc
  · exfalso
    apply h
    unfold cm_fk
    have : cm_fkT.getD c [] = [] := by rw [List.getD_eq_getElem?_getD, List.getElem?_eq_none (show cm_fkT.length ≤ c by show 10 ≤ c; omega)]; rfl
    rw [this]
    rfl
theorem cm_cl_72 {a : Nat} (h : cm_cl a ≠ 99) : a < 72 := by
  by_cases hc : a < 72
  · exact hc
  · exact absurd (by unfold cm_cl; rw [List.getD_eq_getElem?_getD, List.getElem?_eq_none (show cm_clT.length ≤ a by show 72 ≤ a; omega)]; rfl) h
theorem cm_rk_72 {a : Nat} (h : cm_rk a ≠ 99) : a < 72 := by
  by_cases hc : a < 72
  · exact hc
  · exact absurd (by unfold cm_rk; rw [List.getD_eq_getElem?_getD, List.getElem?_eq_none (show cm_rT.length ≤ a by show 72 ≤ a; omega)]; rfl) h
set_option maxRecDepth 20000 in
theorem cm_row_t : (List.range 72).all (fun a => (cm_rk a == 99 || (cm_cl a == 99 && (cm_rk a < 4 || (cm_rk a == 10 || cm_rk a == 14)))) && decide ((cm_rn a).toNat < 4000 ∧ 0 ≤ cm_rn a)) = true := by decide +kernel
theorem cm_row_f {a : Nat} (h : cm_rk a ≠ 99) : cm_cl a = 99 ∧ (cm_rk a < 4 ∨ cm_rk a = 10 ∨ cm_rk a = 14) := by
  have h1 := List.all_eq_true.mp cm_row_t a (List.mem_range.mpr (cm_rk_72 h))
  simp only [Bool.and_eq_true, Bool.or_eq_true, beq_iff_eq, decide_eq_true_eq] at h1
  rcases h1.1 with z | z
  · exact absurd z h
  · exact z
theorem cm_rn_f {a : Nat} (h : cm_rk a ≠ 99) : ((cm_rn a).toNat : Int) = cm_rn a ∧ (cm_rn a).toNat < 4000 := by
  have h1 := List.all_eq_true.mp cm_row_t a (List.mem_range.mpr (cm_rk_72 h))
  simp only [Bool.and_eq_true, Bool.or_eq_true, beq_iff_eq, decide_eq_true_eq] at h1
  omega
theorem cm_cell_o {s : cm_S} {a : Nat} (h : cm_cl a ≠ 99) : cm_cell s a = .inr (cm_cl a, (List.range (cm_nf (cm_cl a))).map (cm_fv s a)) := by
  unfold cm_cell
  rw [if_neg h]
theorem cm_cell_r {s : cm_S} {a : Nat} (h : cm_rk a < 4) : cm_cell s a = .inl (cm_rk a, (cm_rn a).toNat, .inl fun i => Int32.ofInt (s.2 a (i : Int))) := by
  unfold cm_cell
  rw [if_pos (cm_row_f (by omega)).1, if_pos (by omega)]
theorem cm_cell_10 {s : cm_S} {a : Nat} (h : cm_rk a = 10) : cm_cell s a = .inl (0, (cm_rn a).toNat, .inl fun i => Int32.ofInt (cm_kr a (i : Int))) := by
  unfold cm_cell
  rw [if_pos (cm_row_f (by omega)).1, if_neg (by omega), if_pos h]
theorem cm_cell_14 {s : cm_S} {a : Nat} (h : cm_rk a = 14) : cm_cell s a = .inl (4, (cm_rn a).toNat, .inr (.inl fun i => Int64.ofInt (cm_kr a (i : Int)))) := by
  unfold cm_cell
  rw [if_pos (cm_row_f (by omega)).1, if_neg (by omega), if_neg (by omega)]
theorem cm_cell_pb {s : cm_S} {a j b : Nat} {z : Int} (hj : j < 100) (hb : b ≠ a) : cm_cell (cm_p s (100 * a + j) z) b = cm_cell s b := by
  unfold cm_cell
  split
  · rfl
  · have e : (List.range (cm_nf (cm_cl b))).map (cm_fv (cm_p s (100 * a + j) z) b) = (List.range (cm_nf (cm_cl b))).map (cm_fv s b) := by
      apply List.map_congr_left
      intro i hi
      have hi := List.mem_range.mp hi
      have h100 := cm_nf_le (cm_cl b)
      have e1 : (cm_p s (100 * a + j) z).1 (100 * b + i) = s.1 (100 * b + i) := by
        show (if 100 * b + i = 100 * a + j then z else s.1 (100 * b + i)) = _
        rw [if_neg (by omega)]
      unfold cm_fv
      rw [e1]
    rw [e]
theorem cm_cell_qb {s : cm_S} {a b : Nat} {j z : Int} (hb : b ≠ a) : cm_cell (cm_q s a j z) b = cm_cell s b := by
  have e1 : (cm_q s a j z).2 b = s.2 b := by
    show (if b = a then _ else s.2 b) = _
    rw [if_neg hb]
  unfold cm_cell
  rw [e1]
  rfl
theorem cm_cell_q {s : cm_S} {a : Nat} {j z : Int} (h : cm_rk a < 4) (hj : 0 ≤ j) : cm_cell (cm_q s a j z) a = .inl (cm_rk a, (cm_rn a).toNat, .inl (upd (fun i => Int32.ofInt (s.2 a (i : Int))) j.toNat (Int32.ofInt z))) := by
  rw [cm_cell_r h]
  congr 4
  funext i
  have e : (cm_q s a j z).2 a (i : Int) = if (i : Int) = j then z else s.2 a i := by
    show (if a = a then (fun i => if i = j then z else s.2 a i) else s.2 a) (i : Int) = _
    rw [if_pos rfl]
  rw [e]
  unfold upd
  by_cases hi : i = j.toNat
  · rw [if_pos hi, if_pos (by omega)]
  · rw [if_neg hi, if_neg (by omega)]
theorem cm_fs_get {s : cm_S} {a j : Nat} (h : j < cm_nf (cm_cl a)) : ((List.range (cm_nf (cm_cl a))).map (cm_fv s a))[j]? = some (cm_fv s a j) := by
  rw [List.getElem?_map, List.getElem?_range h]
  rfl
theorem cm_cell_p {s : cm_S} {a j : Nat} {z : Int} {w : Value} (h : cm_cl a ≠ 99) (hj : j < cm_nf (cm_cl a)) (hw : cm_fv (cm_p s (100 * a + j) z) a j = w) : cm_cell (cm_p s (100 * a + j) z) a = .inr (cm_cl a, ((List.range (cm_nf (cm_cl a))).map (cm_fv s a)).set j w) := by
  rw [cm_cell_o h]
  congr 2
  apply List.ext_getElem?
  intro i
  by_cases hi : j = i
  · subst hi
    rw [cm_fs_get hj, List.getElem?_set_self (by simpa using hj), hw]
  · rw [List.getElem?_set_ne hi]
    by_cases hl : i < cm_nf (cm_cl a)
    · rw [cm_fs_get hl, cm_fs_get hl]
      have e1 : (cm_p s (100 * a + j) z).1 (100 * a + i) = s.1 (100 * a + i) := by
        show (if 100 * a + i = 100 * a + j then z else s.1 (100 * a + i)) = _
        rw [if_neg (by omega)]
      unfold cm_fv
      rw [e1]
    · rw [List.getElem?_eq_none (by simpa using hl), List.getElem?_eq_none (by simpa using hl)]
/-- a place of the side [lo, hi), or a constant's -/
def cm_pl (lo hi a : Nat) : Prop := (lo ≤ a ∧ a < hi) ∨ (1000 ≤ a ∧ a < 1040)
/-- a state's numbers are ints, its changing places are places -/
def cm_cs (lo hi : Nat) (s : cm_S) : Prop := (∀ k, cm_in (s.1 k)) ∧ (∀ a j, cm_in (s.2 a j)) ∧ ∀ a j, lo ≤ a → a < hi → cm_fk (cm_cl a) j = 2 → cm_pl lo hi (s.1 (100 * a + j)).toNat
/-- a value: no long where nl -/
def cm_ok (nl : Bool) (lo hi : Nat) (v : cm_V) : Prop := match v with
  | .inl z => cm_in z
  | .inr (.inl a) => cm_pl lo hi a
  | .inr (.inr z) => nl = false ∧ cm_inl z
theorem cm_cs_p {lo hi : Nat} {s : cm_S} (h : cm_cs lo hi s) {a j : Nat} {z : Int} (hz : cm_in z) (hj : j < 100) (h2 : cm_fk (cm_cl a) j = 2 → cm_pl lo hi z.toNat) : cm_cs lo hi (cm_p s (100 * a + j) z) := by
  refine ⟨fun k => ?_, h.2.1, fun b i hb1 hb2 hk => ?_⟩
  · show cm_in (if k = 100 * a + j then z else s.1 k)
    split
    · exact hz
    · exact h.1 k
  · have hin := cm_fk_nf (c := cm_cl b) (j := i) (by omega)
    have h100 := cm_nf_le (cm_cl b)
    show cm_pl lo hi (if 100 * b + i = 100 * a + j then z else s.1 (100 * b + i)).toNat
    by_cases e : 100 * b + i = 100 * a + j
    · rw [if_pos e]
      obtain ⟨rfl, rfl⟩ : b = a ∧ i = j := by omega
      exact h2 hk
    · rw [if_neg e]
      exact h.2.2 b i hb1 hb2 hk
theorem cm_cs_q {lo hi : Nat} {s : cm_S} (h : cm_cs lo hi s) {a : Nat} {j z : Int} (hz : cm_in z) : cm_cs lo hi (cm_q s a j z) := by
  refine ⟨h.1, fun b i => ?_, h.2.2⟩
  show cm_in ((if b = a then (fun i => if i = j then z else s.2 a i) else s.2 b) i)
  by_cases e : b = a
  · rw [if_pos e]
    show cm_in (if i = j then z else s.2 a i)
    split
    · exact hz
    · exact h.2.1 a i
  · rw [if_neg e]
    exact h.2.1 b i
/-- the places that stay lie on the same side -/
def cm_ptck (lo hi : Nat) : Bool := (List.range 72).all fun a => decide (¬ (lo ≤ a ∧ a < hi)) || (List.range 60).all fun j => decide (cm_fk (cm_cl a) j ≠ 1 ∨ (lo ≤ cm_pt a j ∧ cm_pt a j < hi))
set_option maxRecDepth 20000 in
theorem cm_ptck0 : cm_ptck 0 41 = true ∧ cm_ptck 41 72 = true := by decide +kernel
theorem cm_pt_f {lo hi a j : Nat} (hc : cm_ptck lo hi = true) (h1 : lo ≤ a) (h2 : a < hi) (h72 : a < 72) (hk : cm_fk (cm_cl a) j = 1) : cm_pl lo hi (cm_pt a j) := by
  have h3 := List.all_eq_true.mp hc a (List.mem_range.mpr h72)
  rw [Bool.or_eq_true] at h3
  rcases h3 with z | z
  · exact absurd ⟨h1, h2⟩ (of_decide_eq_true z)
  · have hn := cm_fk_nf (c := cm_cl a) (j := j) (by omega)
    have hl := cm_nf_le (cm_cl a)
    have h4 := of_decide_eq_true (List.all_eq_true.mp z j (List.mem_range.mpr (by omega)))
    rcases h4 with z | z
    · exact absurd hk z
    · exact Or.inl z
