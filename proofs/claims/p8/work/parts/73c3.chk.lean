/-! ===== the resolved code is the code: what is checked, index by index ===== -/
/-- the local that holds a text -/
def jtxl (y : Nat) : Option Nat := if y = 122 then some 2 else if y = 155 then some 2 else if y = 156 then some 1 else none
def jtp (y : Nat) (i : Instr) : Bool := match i with
  | .ldc _ => true
  | .aload k => decide (jtxl y = some k)
  | _ => false
def jip (i : Instr) : Bool := match i with
  | .iload _ => true
  | .iconst _ => true
  | _ => false
def jat (code : List Instr) (n : Nat) (f : Instr → Bool) : Bool := match code[n]? with
  | some i => f i
  | none => false
def jat1 (y : Nat) (code : List Instr) (n : Nat) : Bool := match n with
  | 0 => false
  | m + 1 => jat code m (jtp y)
/-- what is known of the stack ahead of an index: 1 a text on top, 2 a text below an int, 3 an int on top -/
def jtag (y : Nat) (code : List Instr) (ix : Nat) : Nat := match ix with
  | 0 => 0
  | n + 1 => if jat code n (jtp y) = true then 1 else if (jat code n jip && jat1 y code n) = true then 2 else if (decide (y = 275) && jat code n jip) = true then 3 else 0
def jtx (y a : Nat) : Bool := if y = 44 then decide (a = 1039) else decide (1000 ≤ a ∧ a < 1039)
def jTg (y : Nat) (code : List Instr) (ix : Nat) (st : List cm_V) : Prop := (jtag y code ix = 1 → ∃ a r, st = .inr (.inl a) :: r ∧ jtx y a = true) ∧ (jtag y code ix = 2 → ∃ z a r, st = .inl z :: .inr (.inl a) :: r ∧ jtx y a = true) ∧ (jtag y code ix = 3 → ∃ z r, st = .inl z :: r)
def jlp (i : Instr) : Bool := match i with
  | .sipush _ => true
  | .lload _ => true
  | .i2l => true
  | .laload => true
  | _ => false
/-- no longs -/
def jnl (code : List Instr) : Bool := code.all fun i => !(jlp i)
def jls (code : List Instr) (k : Nat) : Bool := code.any fun i => match i with
  | .lstore m => m == k
  | _ => false
/-- a local may be written -/
def jsto (y : Nat) (code : List Instr) (k : Nat) : Bool := decide (jtxl y ≠ some k) && (match k with
  | 0 => true
  | m + 1 => !(jls code m))
def jkv (c : Nat) (i : Instr) : Option Value := match i with
  | .iconst z => some (.int (Int32.ofInt z))
  | .bipush z => some (.int (Int8.ofInt z).toInt32)
  | .sipush z => some (.int (Int16.ofInt z).toInt32)
  | .lconst z => some (.long (Int64.ofNat z))
  | .ldc k => am_kc c k
  | .ldc2_w k => (am_kl c k).map fun v => .long v
  | .getstatic k => am_gs2 c k
  | _ => none
def jkI (v : Option Value) (z : Int) : Bool := match v with
  | some (.int x) => decide (x = Int32.ofInt z) && decide (-2147483648 ≤ z ∧ z < 2147483648)
  | _ => false
def jkL (v : Option Value) (z : Int) : Bool := match v with
  | some (.long x) => decide (x = Int64.ofInt z) && decide (-9223372036854775808 ≤ z ∧ z < 9223372036854775808)
  | _ => false
def jkR (v : Option Value) (a : Nat) : Bool := match v with
  | some (.ref x) => decide (x = a)
  | _ => false
def jfl (c : Nat) (i : Instr) : Option (Nat × Nat × FieldType × Bool) := match i with
  | .getfield j => am_fl c j
  | _ => none
def jfp (c : Nat) (i : Instr) : Option (Nat × Nat × FieldType × Bool) := match i with
  | .putfield j => am_fl c j
  | _ => none
/-- a field k of the kind kd -/
def jfk (q : Option (Nat × Nat × FieldType × Bool)) (k kd : Nat) : Bool := match q with
  | some q => decide (q.1 = k / 100 ∧ q.2.1 = k % 100 ∧ cm_fk (k / 100) (k % 100) = kd)
  | none => false
/-- its type: 0 int, 1 boolean, 2 a class; it isn't final -/
def jft (q : Option (Nat × Nat × FieldType × Bool)) (t : Nat) : Bool := match q with
  | some (_, _, .int, false) => decide (t = 0)
  | some (_, _, .boolean, false) => decide (t = 1)
  | some (_, _, .object _, false) => decide (t = 2)
  | _ => false
def jcv (c : Nat) (i : Instr) : Option (Nat × Nat × Nat × Nat) := match i with
  | .invokevirtual _ => am_cal2 c i
  | _ => none
def jcs (c : Nat) (i : Instr) : Option (Nat × Nat × Nat × Nat) := match i with
  | .invokestatic _ => am_cal2 c i
  | _ => none
/-- a jump's index is the offset's -/
def jto (P : List Nat) (t : Int) (q : Option Nat) : Bool := match q with
  | some pc => decide (P[t.toNat]? = some pc)
  | none => false
/-- nothing is known at a jump's end but the stack's height -/
def jt0 (y : Nat) (code : List Instr) (D : List Nat) (h : Option Nat) (t : Int) : Bool := decide (jtag y code t.toNat = 0 ∧ D[t.toNat]? = h)
def jswL (P : List Nat) (y : Nat) (code : List Instr) (D : List Nat) (h : Option Nat) (pc : Nat) : List (Int × Int) → List (Int × Int) → Bool
  | [], [] => true
  | a :: r, b :: r' => decide (a.1 = b.1) && (jto P b.2 (am_to pc a.2) && (jt0 y code D h b.2 && jswL P y code D h pc r r'))
  | _, _ => false
def jswT (P : List Nat) (y : Nat) (code : List Instr) (D : List Nat) (h : Option Nat) (pc : Nat) (d : Int) : Int → List Int → List (Int × Int) → Bool
  | _, [], ps => ps.isEmpty
  | lo, o :: r, ps => if decide (am_to pc o = am_to pc d) = true then jswT P y code D h pc d (lo + 1) r ps else match ps with
    | b :: r' => decide (b.1 = lo) && (jto P b.2 (am_to pc o) && (jt0 y code D h b.2 && jswT P y code D h pc d (lo + 1) r r'))
    | [] => false
def jsw (P : List Nat) (y : Nat) (code : List Instr) (D : List Nat) (h : Option Nat) (pc : Nat) (i : Instr) (d : Int) (ps : List (Int × Int)) : Bool := match i with
  | .lookupswitch d' ps' => (ps'.toList.zip (ps'.toList.drop 1)).all (fun (a, next) => a.1 < next.1) && (jto P d (am_to pc d') && (jt0 y code D h d && jswL P y code D h pc ps'.toList ps))
  | .tableswitch d' lo hi offs => decide ((offs.toList.length : Int) = hi - lo + 1) && (jto P d (am_to pc d') && (jt0 y code D h d && jswT P y code D h pc d' lo offs.toList ps))
  | _ => false
/-- the arguments of a call of y' -/
def jarg (y : Nat) (code : List Instr) (ix y' n : Nat) : Bool := decide (y' < 301) && ((jnl code || (decide (jtag y code ix = 3) && decide (n = 1))) && (match jtxl y' with
  | none => true
  | some k => decide (jtag y code ix = 1) && (decide (k = n ∧ 1 ≤ n) && decide (y ≠ 44))))
def jcal (q : Option (Nat × Nat × Nat × Nat)) (kd z : Nat) : Bool := match q with
  | some q => decide (q.1 = kd ∧ q.2.1 = z / 1000 ∧ q.2.2.1 = z / 100 % 10) && (decide (kd = 1) || decide (q.2.2.2 = z % 100 ∧ z % 100 < 10))
  | none => false
def jtc (q : Option (Nat × Nat × Nat × Nat)) (op n : Nat) : Bool := match q with
  | some q => decide (q.1 = 4 ∧ q.2.1 = 400 + op ∧ q.2.2.1 = n)
  | none => false
def jsame (ci : Instr) : Bool := match ci with
  | .iadd | .isub | .imul | .iand | .ior | .ishl | .ishr | .ladd | .lsub | .lmul | .land | .lshr | .i2l | .l2i | .i2c | .i2b | .lcmp | .dup | .dup2 | .iaload | .caload | .baload | .laload | .iastore | .castore | .bastore => true
  | _ => false
/-- values taken off the stack, values put there -/
def jeff (ci : Instr) : Nat × Nat := match ci with
  | .iconst _ | .sipush _ | .ldc _ | .iload _ | .aload _ | .lload _ => (0, 1)
  | .istore _ | .astore _ | .lstore _ | .ifCond _ _ | .lookupswitch _ _ => (1, 0)
  | .iadd | .isub | .imul | .iand | .ior | .ishl | .ishr | .ladd | .lsub | .lmul | .land | .lshr | .lcmp | .iaload | .caload | .baload | .laload | .saload => (2, 1)
  | .i2l | .l2i | .i2c | .i2b | .getfield _ | .getstatic _ | .checkcast _ | .arraylength | .i2s => (1, 1)
  | .dup => (1, 2)
  | .dup2 => (2, 4)
  | .putfield _ | .instanceof _ | .putstatic _ | .if_icmp _ _ => (2, 0)
  | .iastore | .castore | .bastore | .sastore => (3, 0)
  | .invokevirtual z => (z / 100 % 10 + 1, 1)
  | .invokespecial z => (z / 100 % 10 + 1, 0)
  | .invokestatic z => (z / 100 % 10, 1)
  | _ => (0, 0)
/-- the stack's height at n, where n follows ix -/
def jdn (D : List Nat) (ix n : Nat) (ci : Instr) : Bool := match D[ix]? with
  | some d => decide (D[n]? = some (d - (jeff ci).1 + (jeff ci).2))
  | none => false
def jd4 (D : List Nat) (ix : Nat) : Bool := match D[ix]? with
  | some d => decide (d ≤ 4)
  | none => false
def jil (i : Instr) (k : Nat) : Bool := match i with
  | .iload j => j == k
  | .iload_n j => j.val == k
  | _ => false
def jal (i : Instr) (k : Nat) : Bool := match i with
  | .aload j => j == k
  | .aload_n j => j.val == k
  | _ => false
def jis (i : Instr) (k : Nat) : Bool := match i with
  | .istore j => j == k
  | .istore_n j => j.val == k
  | _ => false
def jas (i : Instr) (k : Nat) : Bool := match i with
  | .astore j => j == k
  | .astore_n j => j.val == k
  | _ => false
def jll (i : Instr) (k : Nat) : Bool := match i with
  | .lload_n j => j.val == k
  | _ => false
def jlt (i : Instr) (k : Nat) : Bool := match i with
  | .lstore_n j => j.val == k
  | _ => false
def jii (i : Instr) (k : Nat) (z : Int) : Bool := match i with
  | .iinc j w => j == k && decide (w = z)
  | _ => false
def jbs (i : Instr) : Bool := match i with
  | .bastore => true
  | _ => false
def jia (i : Instr) : Bool := match i with
  | .iaload => true
  | _ => false
def jan (i : Instr) : Bool := match i with
  | .arraylength => true
  | _ => false
def jci (y c : Nat) (code : List Instr) (D : List Nat) (ix : Nat) (i ci : Instr) : Bool := match ci with
  | .iconst z => jkI (jkv c i) z
  | .sipush z => jkL (jkv c i) z
  | .ldc a => jkR (jkv c i) a && jtx y a
  | .iload k => jil i k
  | .aload k => jal i k
  | .lload k => jll i k
  | .istore k => jis i k && (decide (k < am_mL y) && jsto y code k)
  | .astore k => jas i k && (decide (k < am_mL y) && jsto y code k)
  | .lstore k => jlt i k && (decide (k + 1 < am_mL y) && (jsto y code k && decide (jtxl y = none)))
  | .iinc k z => jii i k z && (decide (k < am_mL y) && jsto y code k)
  | .getfield k => jfk (jfl c i) k 0
  | .getstatic k => jfk (jfl c i) k 1
  | .checkcast k => jfk (jfl c i) k 2
  | .putfield k => jfk (jfp c i) k 0 && jft (jfp c i) 0
  | .instanceof k => jfk (jfp c i) k 0 && jft (jfp c i) 1
  | .putstatic k => jfk (jfp c i) k 2 && jft (jfp c i) 2
  | .sastore => jbs i
  | .saload => decide (jtag y code ix = 2) && (if y = 44 then jia i else jtc (jcv c i) 1 1 && jd4 D ix)
  | .arraylength => decide (jtag y code ix = 1) && (if y = 44 then jan i else jtc (jcv c i) 0 0 && jd4 D ix)
  | .i2s => decide (jtag y code ix = 1) && (decide (y ≠ 44) && (jtc (jcv c i) 2 0 && jd4 D ix))
  | .invokevirtual z => jcal (jcv c i) 0 z && jarg y code ix (z / 1000) (z / 100 % 10)
  | .invokespecial z => jcal (jcv c i) 0 z && jarg y code ix (z / 1000) (z / 100 % 10)
  | .invokestatic z => jcal (jcs c i) 1 z && (jarg y code ix (z / 1000) (z / 100 % 10) && decide (jtxl (z / 1000) = none))
  | _ => jsame ci && decide (i = ci)
/-- branches and returns: they go nowhere else -/
def jbr (y : Nat) (code : List Instr) (P D : List Nat) (ix pc : Nat) (i ci : Instr) : Option Bool := match ci with
  | .goto t => some (match i with
    | .goto off => jto P t (am_to pc off) && (jdn D ix t.toNat ci && decide (jtag y code t.toNat = 0 ∨ jtag y code t.toNat = jtag y code ix))
    | _ => false)
  | .ifCond c t => some (match i with
    | .ifCond c' off => decide (c = c') && (jto P t (am_to pc off) && (decide (jtag y code t.toNat = 0) && (jdn D ix t.toNat ci && (jdn D ix (ix + 1) ci && decide (P[ix + 1]? = some (pc + 3))))))
    | _ => false)
  | .if_icmp c t => some (match i with
    | .if_icmp c' off => decide (c = c') && (jto P t (am_to pc off) && (decide (jtag y code t.toNat = 0) && (jdn D ix t.toNat ci && (jdn D ix (ix + 1) ci && decide (P[ix + 1]? = some (pc + 3))))))
    | _ => false)
  | .lookupswitch d ps => some (jsw P y code D ((D[ix]?).map fun d => d - 1) pc i d ps.toList)
  | .ireturn => some (match i, am_rt y with
    | .ireturn, some .int => true
    | _, _ => false)
  | .lreturn => some (match i, am_rt y with
    | .ireturn, some .boolean => true
    | _, _ => false)
  | .return_ => some (match i, am_rt y with
    | .return_, none => true
    | _, _ => false)
  | _ => none
def jre (y : Nat) (code : List Instr) (P D : List Nat) (ix pc : Nat) (i ci : Instr) : Bool := match jbr y code P D ix pc i ci with
  | some b => b
  | none => jci y (am_co y) code D ix i ci && (jdn D ix (ix + 1) ci && decide (P[ix + 1]? = some (pc + am_len i)))
def jrs (y : Nat) (code : List Instr) (P D : List Nat) (ix pc : Nat) (ci : Instr) : Bool := decide (am_thr y pc = none) && (match am_fc y pc with
    | some i => jre y code P D ix pc i ci
    | none => false)
def jck (y : Nat) (code : List Instr) (P D : List Nat) (ix pc : Nat) (ci : Instr) : Bool := match ci with
  | .nop => true
  | .ret t => decide (t = ix + 1 ∧ P[ix + 1]? = some pc) && jdn D ix (ix + 1) ci
  | .new e => decide (am_thr y pc = some e)
  | _ => jrs y code P D ix pc ci
/-- P: the pc of each index, D: the stack's height there -/
def jckA (y : Nat) (code : List Instr) (P D : List Nat) : Bool := decide (P[0]? = some 0 ∧ D[0]? = some 0) && (List.range code.length).all fun ix => match code[ix]?, P[ix]? with
  | some ci, some pc => jck y code P D ix pc ci
  | _, _ => false
theorem jckA_at {y : Nat} {code : List Instr} {P D : List Nat} (h : jckA y code P D = true) {ix pc : Nat} {ci : Instr} (hc : code[ix]? = some ci) (hp : P[ix]? = some pc) : jck y code P D ix pc ci = true := by
  unfold jckA at h
  rw [Bool.and_eq_true] at h
  have h1 := List.all_eq_true.mp h.2 ix (List.mem_range.mpr (List.getElem?_eq_some_iff.mp hc).1)
  rw [hc, hp] at h1
  exact h1
theorem jtag_next {y : Nat} {code : List Instr} {ix : Nat} {ci : Instr} (hc : code[ix]? = some ci) : jtag y code (ix + 1) = if jtp y ci = true then 1 else if (jip ci && decide (jtag y code ix = 1)) = true then 2 else if (decide (y = 275) && jip ci) = true then 3 else 0 := by
  have e : ∀ f : Instr → Bool, jat code ix f = f ci := fun f => by unfold jat; rw [hc]
  show (if jat code ix (jtp y) = true then 1 else if (jat code ix jip && jat1 y code ix) = true then 2 else if (decide (y = 275) && jat code ix jip) = true then 3 else 0) = _
  rw [e, e]
  have e2 : jat1 y code ix = decide (jtag y code ix = 1) := by
    cases ix with
    | zero => rfl
    | succ m =>
      have e3 : jtag y code (m + 1) = if jat code m (jtp y) = true then 1 else if (jat code m jip && jat1 y code m) = true then 2 else if (decide (y = 275) && jat code m jip) = true then 3 else 0 := rfl
      by_cases hj : jat code m (jtp y) = true
      · rw [if_pos hj] at e3
        rw [decide_eq_true e3]
        exact hj
      · rw [if_neg hj] at e3
        rw [Bool.not_eq_true] at hj
        have e4 : jtag y code (m + 1) ≠ 1 := by
          rw [e3]
          split
          · decide
          · split <;> decide
        rw [decide_eq_false e4]
        exact hj
  rw [e2]
theorem jTg_0 {y : Nat} {code : List Instr} {ix : Nat} (h : jtag y code ix = 0) (st : List cm_V) : jTg y code ix st := ⟨fun z => by omega, fun z => by omega, fun z => by omega⟩
theorem jTg_o {y : Nat} {code : List Instr} {ix : Nat} {ci : Instr} (hc : code[ix]? = some ci) (h1 : jtp y ci = false) (h2 : jip ci = false) (st : List cm_V) : jTg y code (ix + 1) st := by
  apply jTg_0
  rw [jtag_next hc, h1, h2]
  simp
theorem jTg_i {y : Nat} {code : List Instr} {ix : Nat} {ci : Instr} (hc : code[ix]? = some ci) (h1 : jtp y ci = false) {st : List cm_V} (hT : jTg y code ix st) (z : Int) : jTg y code (ix + 1) (.inl z :: st) := by
  refine ⟨fun e => ?_, fun e => ?_, fun e => ⟨_, _, rfl⟩⟩
  · rw [jtag_next hc, h1] at e
    exfalso
    split at e
    · next h => cases h
    · split at e
      · omega
      · split at e <;> omega
  · have h3 : jtag y code ix = 1 := by
      rw [jtag_next hc, h1] at e
      split at e
      · omega
      · split at e
        · next h => rw [Bool.and_eq_true] at h; exact of_decide_eq_true h.2
        · split at e <;> omega
    obtain ⟨a, r, rfl, ha⟩ := hT.1 h3
    exact ⟨z, a, r, rfl, ha⟩
theorem jTg_t {y : Nat} {code : List Instr} {ix : Nat} {ci : Instr} (hc : code[ix]? = some ci) {a : Nat} (h1 : jtp y ci = true → jtx y a = true) (h2 : jip ci = false) (st : List cm_V) : jTg y code (ix + 1) (.inr (.inl a) :: st) := by
  by_cases h : jtp y ci = true
  · have e : jtag y code (ix + 1) = 1 := by rw [jtag_next hc, if_pos h]
    exact ⟨fun _ => ⟨a, st, rfl, h1 h⟩, fun z => by omega, fun z => by omega⟩
  · rw [Bool.not_eq_true] at h
    exact jTg_o hc h h2 _
