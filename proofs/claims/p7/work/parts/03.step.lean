/-- the kinds of rows: 0 int, 1 char, 2 boolean, 3 byte, 4 long -/
def am_aty (t : Nat) : FieldType := match t with
  | 0 => .int
  | 1 => .char
  | 2 => .boolean
  | 3 => .byte
  | _ => .long
abbrev am_L : Type := List (Nat × Value)
/-- one instruction that neither calls, makes, returns nor throws -/
def am_step (fl : Nat → Option (Nat × Nat × FieldType × Bool)) (kc : Nat → Option Value) (kl : Nat → Option Int64) (gs : Nat → Option Value) (ro : Nat → Option (Nat × (Nat → Int32))) (ini : Bool) (nL : Nat) (i : Instr) (pc : Nat) (lv : am_L) (st : List Value) (h : List va_E) : Option am_F := match i with
  | .iconst c => some (pc + 1, lv, .int (Int32.ofInt c) :: st, h)
  | .bipush c => some (pc + 2, lv, .int (Int8.ofInt c).toInt32 :: st, h)
  | .sipush c => some (pc + 3, lv, .int (Int16.ofInt c).toInt32 :: st, h)
  | .lconst c => some (pc + 1, lv, .long (Int64.ofNat c) :: st, h)
  | .iload k => am_gi lv k fun x => some (pc + 2, lv, .int x :: st, h)
  | .iload_n k => am_gi lv k fun x => some (pc + 1, lv, .int x :: st, h)
  | .lload_n k => am_gl lv k fun x => some (pc + 1, lv, .long x :: st, h)
  | .aload k => am_gr lv k fun x => some (pc + 2, lv, .ref x :: st, h)
  | .aload_n k => am_gr lv k fun x => some (pc + 1, lv, .ref x :: st, h)
  | .istore k => am_i1 st fun x r => if decide (k < nL) = true then some (pc + 2, am_sto lv k (.int x), r, h) else none
  | .istore_n k => am_i1 st fun x r => if decide ((k : Nat) < nL) = true then some (pc + 1, am_sto lv k (.int x), r, h) else none
  | .lstore_n k => am_l1 st fun x r => if decide ((k : Nat) + 1 < nL) = true then some (pc + 1, am_sto2 lv k (.long x), r, h) else none
  | .astore k => am_r1 st fun x r => if decide (k < nL) = true then some (pc + 2, am_sto lv k (.ref x), r, h) else none
  | .astore_n k => am_r1 st fun x r => if decide ((k : Nat) < nL) = true then some (pc + 1, am_sto lv k (.ref x), r, h) else none
  | .iinc k c => am_gi lv k fun x => if decide (k < nL) = true then some (pc + 3, am_sto lv k (.int (x + Int32.ofInt c)), st, h) else none
  | .iadd => am_i2 st fun x y r => some (pc + 1, lv, .int (x + y) :: r, h)
  | .isub => am_i2 st fun x y r => some (pc + 1, lv, .int (x - y) :: r, h)
  | .imul => am_i2 st fun x y r => some (pc + 1, lv, .int (x * y) :: r, h)
  | .iand => am_i2 st fun x y r => some (pc + 1, lv, .int (x &&& y) :: r, h)
  | .ior => am_i2 st fun x y r => some (pc + 1, lv, .int (x ||| y) :: r, h)
  | .ishl => am_i2 st fun x y r => some (pc + 1, lv, .int (x <<< (y &&& 31)) :: r, h)
  | .ishr => am_i2 st fun x y r => some (pc + 1, lv, .int (x >>> (y &&& 31)) :: r, h)
  | .ladd => am_l2 st fun x y r => some (pc + 1, lv, .long (x + y) :: r, h)
  | .lsub => am_l2 st fun x y r => some (pc + 1, lv, .long (x - y) :: r, h)
  | .lmul => am_l2 st fun x y r => some (pc + 1, lv, .long (x * y) :: r, h)
  | .land => am_l2 st fun x y r => some (pc + 1, lv, .long (x &&& y) :: r, h)
  | .lor => am_l2 st fun x y r => some (pc + 1, lv, .long (x ||| y) :: r, h)
  | .lshl => am_li st fun x y r => some (pc + 1, lv, .long (x <<< (y.toInt64 &&& 63)) :: r, h)
  | .lshr => am_li st fun x y r => some (pc + 1, lv, .long (x >>> (y.toInt64 &&& 63)) :: r, h)
  | .lushr => am_li st fun x y r => some (pc + 1, lv, .long (x.toUInt64 >>> (y.toInt64.toUInt64 &&& Int64.toUInt64 63)).toInt64 :: r, h)
  | .i2l => am_i1 st fun x r => some (pc + 1, lv, .long x.toInt64 :: r, h)
  | .l2i => am_l1 st fun x r => some (pc + 1, lv, .int x.toInt32 :: r, h)
  | .i2c => am_i1 st fun x r => some (pc + 1, lv, .int (x.toUInt32 % 65536).toInt32 :: r, h)
  | .i2b => am_i1 st fun x r => some (pc + 1, lv, .int x.toInt8.toInt32 :: r, h)
  | .lcmp => am_l2 st fun x y r => some (pc + 1, lv, .int (lg_cmp x y) :: r, h)
  | .dup => match st with
    | v :: r => if decide (v.category = 1) = true then some (pc + 1, lv, v :: v :: r, h) else none
    | _ => none
  | .dup2 => match st with
    | v :: w :: r => if (decide (v.category = 1) && decide (w.category = 1)) = true then some (pc + 1, lv, v :: w :: v :: w :: r, h) else none
    | _ => none
  | .goto off => (am_to pc off).bind fun t => some (t, lv, st, h)
  | .ifCond c off => am_i1 st fun x r => (am_to pc off).bind fun t => some (if am_c c x 0 = true then t else pc + 3, lv, r, h)
  | .if_icmp c off => am_i2 st fun x y r => (am_to pc off).bind fun t => some (if am_c c x y = true then t else pc + 3, lv, r, h)
  | .tableswitch d lo hi offs => am_i1 st fun x r => (am_to pc (if (decide (x.toInt < lo) || decide (hi < x.toInt)) = true then d else (offs[(x.toInt - lo).toNat]?).getD d)).bind fun t => if ((decide (x.toInt < lo) || decide (hi < x.toInt)) || (offs[(x.toInt - lo).toNat]?).isSome) = true then some (t, lv, r, h) else none
  | .lookupswitch d ps => am_i1 st fun x r => if ((ps.toList.zip (ps.toList.drop 1)).all (fun (a, next) => a.1 < next.1)) = true then (am_to pc (Op.lookupswitch.offset ps.toList d x.toInt)).bind fun t => some (t, lv, r, h) else none
  | .ldc k => (kc k).bind fun v => some (pc + 2, lv, v :: st, h)
  | .ldc2_w k => (kl k).bind fun v => some (pc + 3, lv, .long v :: st, h)
  | .getfield k => am_r1 st fun a r => (fl k).bind fun q => am_obj h a fun c fs => if decide (c = q.1) = true then (fs[q.2.1]?).bind fun v => some (pc + 3, lv, v :: r, h) else none
  | .putfield k => match st with
    | v :: .ref a :: r => (fl k).bind fun q => am_obj h a fun c fs => if (decide (c = q.1) && (decide (q.2.1 < fs.length) && ((!q.2.2.2 || ini) && (decide (narrow q.2.2.1 v = v) && fits q.2.2.1 v)))) = true then some (pc + 3, lv, r, h.set a (.inr (c, fs.set q.2.1 v))) else none
    | _ => none
  | .getstatic k => (gs k).bind fun v => some (pc + 3, lv, v :: st, h)
  | .iaload => am_ri st fun a j r => match ro a with
    | some q => if am_ok j q.1 = true then some (pc + 1, lv, .int (q.2 j.toNatClampNeg) :: r, h) else none
    | none => am_row h a fun t n g => if (t == 0 && am_ok j n) = true then some (pc + 1, lv, .int (g j.toNatClampNeg) :: r, h) else none
  | .caload => am_ri st fun a j r => am_row h a fun t n g => if (t == 1 && am_ok j n) = true then some (pc + 1, lv, .int (g j.toNatClampNeg) :: r, h) else none
  | .baload => am_ri st fun a j r => am_row h a fun t n g => if ((t == 2 || t == 3) && am_ok j n) = true then some (pc + 1, lv, .int (g j.toNatClampNeg) :: r, h) else none
  | .laload => am_ri st fun a j r => am_rowl h a fun t n g => if (t == 4 && am_ok j n) = true then some (pc + 1, lv, .long (g j.toNatClampNeg) :: r, h) else none
  | .iastore => am_rii st fun a j x r => am_row h a fun t n g => if (t == 0 && am_ok j n) = true then some (pc + 1, lv, r, h.set a (.inl (t, n, .inl (upd g j.toNatClampNeg x)))) else none
  | .castore => am_rii st fun a j x r => am_row h a fun t n g => if (t == 1 && am_ok j n) = true then some (pc + 1, lv, r, h.set a (.inl (t, n, .inl (upd g j.toNatClampNeg (vp_nar .char x))))) else none
  | .bastore => am_rii st fun a j x r => am_row h a fun t n g => if ((t == 2 || t == 3) && am_ok j n) = true then some (pc + 1, lv, r, h.set a (.inl (t, n, .inl (upd g j.toNatClampNeg (vp_nar (am_aty t) x))))) else none
  | .lastore => am_ril st fun a j x r => am_rowl h a fun t n g => if (t == 4 && am_ok j n) = true then some (pc + 1, lv, r, h.set a (.inl (t, n, .inr (.inl (vp_updL g j.toNatClampNeg x))))) else none
  | .arraylength => am_r1 st fun a r => match ro a with
    | some q => some (pc + 1, lv, .int (Int32.ofNat q.1) :: r, h)
    | none => match h[a]? with
      | some (.inl (t, x)) => if decide (t < 5) = true then some (pc + 1, lv, .int (Int32.ofNat x.1) :: r, h) else none
      | _ => none
  | _ => none
/-- an instruction's length; 0: it is what it is -/
def am_len (i : Instr) : Nat := match i with
  | .bipush _ | .iload _ | .aload _ | .istore _ | .astore _ | .ldc _ | .newarray _ => 2
  | .sipush _ | .iinc _ _ | .goto _ | .ifCond _ _ | .if_icmp _ _ | .ldc2_w _ | .getfield _ | .putfield _ | .getstatic _ | .new _ | .invokevirtual _ | .invokespecial _ | .invokestatic _ => 3
  | .tableswitch _ _ _ _ | .lookupswitch _ _ => 0
  | _ => 1
/-- what a method's links are, by the words Ts -/
def am_FL (fl : Nat → Option (Nat × Nat × FieldType × Bool)) (own : String) (cl : List vw_C) (Ts : List Jvm.Cond) : Prop := ∀ idx q, fl idx = some q → ∃ (C : String) (T : u_T) (N : Nat) (ty0 : Nat → FieldType), (∀ w ∈ u_ws C T N, w ∈ Ts) ∧ cl[q.1]? = some (C, T, N) ∧ q.2.1 < N ∧ Jvm.Cond.fieldLink own idx (T q.2.1).1 (T q.2.1).2.1 (T q.2.1).2.2.1 ∈ Ts ∧ (∀ k, k < N → parseFieldDescriptor (T k).2.2.1 = some (ty0 k)) ∧ ty0 q.2.1 = q.2.2.1 ∧ (∀ a, a < N → ∀ b, b < N → a ≠ b → (T a).2.1 ≠ (T b).2.1) ∧ (T q.2.1).2.2.2 = q.2.2.2 ∧ (q.2.2.2 = true → (T q.2.1).1 = own)
def am_KC (kc : Nat → Option Value) (own : String) (ad : Nat → Nat) (Ts : List Jvm.Cond) (s : State) : Prop := ∀ idx v, kc idx = some v → (∃ x, v = .int x ∧ Jvm.Cond.constant own idx x ∈ Ts) ∨ ∃ a tx, v = .ref a ∧ vk_R own idx tx (ad a) s
def am_KL (kl : Nat → Option Int64) (own : String) (Ts : List Jvm.Cond) : Prop := ∀ idx v, kl idx = some v → Jvm.Cond.constantLong own idx v ∈ Ts
def am_GS (gs : Nat → Option Value) (own : String) (ad : Nat → Nat) (A : Nat → Prop) (Ts : List Jvm.Cond) (s : State) : Prop := ∀ idx v, gs idx = some v → ∃ C n d, va_Z C n d (am_tv ad v) A s s.heap ∧ Jvm.Cond.fieldLink own idx C n d ∈ Ts
def am_RO (ro : Nat → Option (Nat × (Nat → Int32))) (ad : Nat → Nat) (A : Nat → Prop) (s : State) : Prop := ∀ a n f, ro a = some (n, f) → va_T .int (ad a) n (fun j => .int (f j)) A s s.heap
def am_TY (tys : List (ClassId × FieldType)) (ct : Nat → Nat) : Prop := ∀ t, t < 5 → tys[t]? = some (ct t, am_aty t)
