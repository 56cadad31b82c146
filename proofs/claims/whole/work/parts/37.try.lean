def am_h0 : List va_E := [.inr (0, [.null, .null, .null, .null, .null, .null, .null, .null])]
def am_r0 : Option am_R := am_all (fun _ _ => none) 3000 12 0 [.ref 0] am_h0
set_option maxRecDepth 1000000 in
theorem am_try0 : am_r0.map (fun r => (r.2.1.length, r.2.2)) = some (41, 40, 15901) := by decide +kernel
def am_ans (o : Option am_R) : Option (Option Int32 ⊕ Nat) := match o with
  | some (.inl (some (.int x)), _) => some (.inl (some x))
  | some (.inl none, _) => some (.inl none)
  | some (.inr e, _) => some (.inr e)
  | _ => none
set_option maxRecDepth 1000000 in
theorem am_try1 : am_ans (am_r0.bind fun r => am_all (fun _ _ => none) 3000 20 20 [.ref 0] r.2.1) = some (.inl (some 1)) := by decide +kernel
