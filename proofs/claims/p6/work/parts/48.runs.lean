/-! ===== the law's first road: both objects are made ===== -/
def am_roL (L : Nat) (xs : Nat → Int32) (a : Nat) : Option (Nat × (Nat → Int32)) := if a = 2000 then some (L, xs) else none
abbrev am_lg (ro : Nat → Option (Nat × (Nat → Int32))) (n pc : Nat) (lv : am_L) (st : List Value) (h : List va_E) : Option (am_F × Nat × Nat) := am_seg (fun pc => am_fL0.lookup pc) (am_step (am_fl 12) (am_kc 12) (am_kl 12) (fun _ => none) ro false 7) (am_cal 12) (am_oi 12) (am_nw 12) (am_all am_thr 3000 40) n pc lv st h
def am_s1r : Option (am_F × Nat × Nat) := am_lg (fun _ => none) 13 0 [(0, .ref 2000)] [] []
def am_H1 : List va_E := match am_s1r with
  | some r => r.1.2.2.2
  | none => []
/-- an object's class and fields; a row's kind and length -/
def am_ob (h : List va_E) (i : Nat) : Option (Nat × List Value) := match h[i]? with
  | some (.inr o) => some o
  | _ => none
def am_rw (h : List va_E) (i : Nat) : Option (Nat × Nat × Bool) := match h[i]? with
  | some (.inl (t, n, .inl _)) => some (t, n, false)
  | some (.inl (t, n, .inr (.inl _))) => some (t, n, true)
  | _ => none
