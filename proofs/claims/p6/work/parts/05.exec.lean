abbrev am_O : Type := Option Value ⊕ Nat
/-- how a run ends: its outcome, the cells, how many cells and slots it made -/
abbrev am_R : Type := am_O × List va_E × Nat × Nat
/-- no place from n on, but for the constants' -/
def am_old (n : Nat) (v : Value) : Bool := match v with
  | .ref i => decide (i < n) || decide (1000 ≤ i)
  | _ => true
def am_oldL (n : Nat) (lv : am_L) (st : List Value) : Bool := lv.all (fun q => am_old n q.2) && st.all (am_old n)
def am_oldE (n : Nat) (e : va_E) : Bool := match e with
  | .inl _ => true
  | .inr o => o.2.all (am_old n)
def am_oldH (n : Nat) (h : List va_E) : Bool := h.all (am_oldE n)
def am_pop (vir : Bool) (n : Nat) (st : List Value) : Option (List Value × List Value) := if decide (n ≤ st.length) = true then (match vir with
  | true => match st.drop n with
    | .ref a :: r => some (.ref a :: (st.take n).reverse, r)
    | _ => none
  | false => some ((st.take n).reverse, st.drop n)) else none
def am_nk (t : ArrayType) : Option Nat := match t with
  | .int => some 0
  | .char => some 1
  | .boolean => some 2
  | .byte => some 3
  | .long => some 4
  | _ => none
def am_zero (t n : Nat) : vp_A := if t = 4 then (n, .inr (.inl fun _ => 0)) else (n, .inl fun _ => 0)
/-- what a call's kind is: 0 virtual, 1 static, 2 a constructor, 3 a nest mate's -/
def am_vir (k : Nat) : Bool := !(k == 1)
/-- the receiver is of the class ci -/
def am_rcv (as : List Value) (h : List va_E) (ci : Nat) : Bool := match as with
  | .ref a :: _ => (match h[a]? with
    | some (.inr o) => o.1 == ci
    | _ => false)
  | _ => false
/-- a method's run: kk steps at most -/
def am_exec (fetch : Nat → Option Instr) (stp : Instr → Nat → am_L → List Value → List va_E → Option am_F) (cal : Instr → Option (Nat × Nat × Nat × Nat)) (oi : Nat → Bool) (nw : Nat → Option (Nat × List Value)) (run : Nat → List Value → List va_E → Option am_R) (thr : Nat → Option Nat) (ret : Option FieldType) (xc xs : Nat) : Nat → Nat → am_L → List Value → List va_E → Option am_R
  | 0, _, _, _, _ => none
  | kk + 1, pc, lv, st, h => match thr pc with
    | some e => if decide ((st.map fun v => v.category).sum ≤ 8) = true then some (.inr e, h, xc, xs) else none
    | none => match fetch pc with
      | none => none
      | some i => match i with
        | .return_ => if (ret.isNone && st.isEmpty) = true then some (.inl none, h, 0, 0) else none
        | .ireturn => match st with
          | [.int x] => match ret with
            | some ty => if decide (narrow ty (.int x) = .int x) = true then some (.inl (some (.int x)), h, 0, 0) else none
            | none => none
          | _ => none
        | .new k => (nw k).bind fun q => if (decide (h.length < 1000) && (am_oldL h.length lv st && am_oldH h.length h)) = true then (am_exec fetch stp cal oi nw run thr ret xc xs kk (pc + 3) lv (.ref h.length :: st) (h ++ [.inr q])).bind fun r => some (r.1, r.2.1, r.2.2.1 + 1, r.2.2.2 + q.2.length) else none
        | .newarray t => am_i1 st fun x r0 => (am_nk t).bind fun t0 => if (decide (¬ x < 0) && (decide (x.toNatClampNeg ≤ 65536) && (decide (h.length < 1000) && (am_oldL h.length lv st && am_oldH h.length h)))) = true then (am_exec fetch stp cal oi nw run thr ret xc xs kk (pc + 2) lv (.ref h.length :: r0) (h ++ [.inl (t0, am_zero t0 x.toNatClampNeg)])).bind fun r => some (r.1, r.2.1, r.2.2.1 + 1, r.2.2.2 + x.toNatClampNeg) else none
        | _ => match (match i with
            | .invokespecial k => oi k
            | _ => false) with
          | true => am_r1 st fun _ r => if decide ((r.map fun v => v.category).sum ≤ 8) = true then am_exec fetch stp cal oi nw run thr ret xc xs kk (pc + 3) lv r h else none
          | false => match cal i with
            | some q => (am_pop (am_vir q.1) q.2.2.1 st).bind fun w => if (decide ((w.2.map fun v => v.category).sum ≤ 8) && ((q.1 != 0) || am_rcv w.1 h q.2.2.2)) = true then (run q.2.1 w.1 h).bind fun r => match r.1 with
                | .inr e => if decide (q.1 < 2) = true then some (.inr e, r.2) else none
                | .inl v => if (decide (h.length ≤ r.2.1.length) && (r.2.2.1 == 0 || am_oldL h.length lv w.2)) = true then (am_exec fetch stp cal oi nw run thr ret xc xs kk (pc + 3) lv (v.toList ++ w.2) r.2.1).bind fun r2 => some (r2.1, r2.2.1, r.2.2.1 + r2.2.2.1, r.2.2.2 + r2.2.2.2) else none
                else none
            | none => (stp i pc lv st h).bind fun q => am_exec fetch stp cal oi nw run thr ret xc xs kk q.1 q.2.1 q.2.2.1 q.2.2.2
theorem am_exec_s (fetch : Nat → Option Instr) (stp : Instr → Nat → am_L → List Value → List va_E → Option am_F) (cal : Instr → Option (Nat × Nat × Nat × Nat)) (oi : Nat → Bool) (nw : Nat → Option (Nat × List Value)) (run : Nat → List Value → List va_E → Option am_R) (thr : Nat → Option Nat) (ret : Option FieldType) (xc xs : Nat) (kk pc : Nat) (lv : am_L) (st : List Value) (h : List va_E) : am_exec fetch stp cal oi nw run thr ret xc xs (kk + 1) pc lv st h = (match thr pc with
    | some e => if decide ((st.map fun v => v.category).sum ≤ 8) = true then some (.inr e, h, xc, xs) else none
    | none => match fetch pc with
      | none => none
      | some i => match i with
        | .return_ => if (ret.isNone && st.isEmpty) = true then some (.inl none, h, 0, 0) else none
        | .ireturn => match st with
          | [.int x] => match ret with
            | some ty => if decide (narrow ty (.int x) = .int x) = true then some (.inl (some (.int x)), h, 0, 0) else none
            | none => none
          | _ => none
        | .new k => (nw k).bind fun q => if (decide (h.length < 1000) && (am_oldL h.length lv st && am_oldH h.length h)) = true then (am_exec fetch stp cal oi nw run thr ret xc xs kk (pc + 3) lv (.ref h.length :: st) (h ++ [.inr q])).bind fun r => some (r.1, r.2.1, r.2.2.1 + 1, r.2.2.2 + q.2.length) else none
        | .newarray t => am_i1 st fun x r0 => (am_nk t).bind fun t0 => if (decide (¬ x < 0) && (decide (x.toNatClampNeg ≤ 65536) && (decide (h.length < 1000) && (am_oldL h.length lv st && am_oldH h.length h)))) = true then (am_exec fetch stp cal oi nw run thr ret xc xs kk (pc + 2) lv (.ref h.length :: r0) (h ++ [.inl (t0, am_zero t0 x.toNatClampNeg)])).bind fun r => some (r.1, r.2.1, r.2.2.1 + 1, r.2.2.2 + x.toNatClampNeg) else none
        | _ => match (match i with
            | .invokespecial k => oi k
            | _ => false) with
          | true => am_r1 st fun _ r => if decide ((r.map fun v => v.category).sum ≤ 8) = true then am_exec fetch stp cal oi nw run thr ret xc xs kk (pc + 3) lv r h else none
          | false => match cal i with
            | some q => (am_pop (am_vir q.1) q.2.2.1 st).bind fun w => if (decide ((w.2.map fun v => v.category).sum ≤ 8) && ((q.1 != 0) || am_rcv w.1 h q.2.2.2)) = true then (run q.2.1 w.1 h).bind fun r => match r.1 with
                | .inr e => if decide (q.1 < 2) = true then some (.inr e, r.2) else none
                | .inl v => if (decide (h.length ≤ r.2.1.length) && (r.2.2.1 == 0 || am_oldL h.length lv w.2)) = true then (am_exec fetch stp cal oi nw run thr ret xc xs kk (pc + 3) lv (v.toList ++ w.2) r.2.1).bind fun r2 => some (r2.1, r2.2.1, r.2.2.1 + r2.2.2.1, r.2.2.2 + r2.2.2.2) else none
                else none
            | none => (stp i pc lv st h).bind fun q => am_exec fetch stp cal oi nw run thr ret xc xs kk q.1 q.2.1 q.2.2.1 q.2.2.2) := rfl
theorem am_tv_old {ad ad' : Nat → Nat} {n : Nat} (ha : ∀ i, (i < n ∨ 1000 ≤ i) → ad' i = ad i) {v : Value} (h : am_old n v = true) : am_tv ad' v = am_tv ad v := by
  cases v with
  | ref i =>
    unfold am_old at h
    rw [Bool.or_eq_true] at h
    show Value.ref (ad' i) = Value.ref (ad i)
    rw [ha i (h.imp of_decide_eq_true of_decide_eq_true)]
  | _ => rfl
theorem am_st_old {ad ad' : Nat → Nat} {n : Nat} (ha : ∀ i, (i < n ∨ 1000 ≤ i) → ad' i = ad i) {st : List Value} (h : st.all (am_old n) = true) : st.map (am_tv ad') = st.map (am_tv ad) := List.map_congr_left fun v hv => am_tv_old ha (List.all_eq_true.mp h v hv)
theorem am_lv_old {ad ad' : Nat → Nat} {n : Nat} (ha : ∀ i, (i < n ∨ 1000 ≤ i) → ad' i = ad i) {lv : am_L} (h : lv.all (fun q => am_old n q.2) = true) : am_lv ad' lv = am_lv ad lv := List.map_congr_left fun q hq => by rw [am_tv_old ha (List.all_eq_true.mp h q hq)]
theorem am_te_old {ad ad' : Nat → Nat} {n : Nat} (ct : Nat → Nat) (ha : ∀ i, (i < n ∨ 1000 ≤ i) → ad' i = ad i) {e : va_E} (h : am_oldE n e = true) : am_te ad' ct e = am_te ad ct e := by
  cases e with
  | inl x => rfl
  | inr o =>
    show Sum.inr (o.1, o.2.map (am_tv ad')) = Sum.inr (o.1, o.2.map (am_tv ad))
    rw [am_st_old ha h]
theorem am_ws_old {ad ad' : Nat → Nat} {n : Nat} (ct : Nat → Nat) (ha : ∀ i, (i < n ∨ 1000 ≤ i) → ad' i = ad i) {h : List va_E} (hn : h.length ≤ n) (ho : am_oldH n h = true) : am_ws ad' ct h = am_ws ad ct h := by
  unfold am_ws
  apply List.mapIdx_eq_mapIdx_iff.mpr
  intro i hi
  rw [ha i (Or.inl (by omega)), am_te_old ct ha (List.all_eq_true.mp ho _ (List.getElem_mem hi))]
