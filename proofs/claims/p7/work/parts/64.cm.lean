/-! ===== A SECOND MACHINE: numbers are Int, a state is two functions (fields by slot 100 * place + field, rows by place), branches stand open ===== -/
abbrev cm_V : Type := Int ⊕ (Nat ⊕ Int)
abbrev cm_S : Type := (Nat → Int) × (Nat → Int → Int)
abbrev cm_R : Type := (Option cm_V ⊕ Nat) × cm_S
abbrev cm_L : Type := List (Option cm_V)
def cm_w (z : Int) : Int := (Int32.ofInt z).toInt
def cm_p (s : cm_S) (k : Nat) (z : Int) : cm_S := (fun i => if i = k then z else s.1 i, s.2)
def cm_q (s : cm_S) (a : Nat) (j z : Int) : cm_S := (s.1, fun b => if b = a then (fun i => if i = j then z else s.2 a i) else s.2 b)
def cm_and (x y : Int) : Int := (Int32.ofInt x &&& Int32.ofInt y).toInt
def cm_or (x y : Int) : Int := (Int32.ofInt x ||| Int32.ofInt y).toInt
def cm_shl (x y : Int) : Int := (Int32.ofInt x <<< (Int32.ofInt y &&& 31)).toInt
def cm_shr (x y : Int) : Int := (Int32.ofInt x >>> (Int32.ofInt y &&& 31)).toInt
def cm_wl (z : Int) : Int := (Int64.ofInt z).toInt
def cm_land (x y : Int) : Int := (Int64.ofInt x &&& Int64.ofInt y).toInt
def cm_lshr (x y : Int) : Int := (Int64.ofInt x >>> ((Int32.ofInt y).toInt64 &&& 63)).toInt
/-- a branch -/
def cm_br {α : Type} (c : ClassFile.Cond) (x y : Int) (a b : α) : α := match c with
  | .eq => if x = y then a else b
  | .ne => if x = y then b else a
  | .lt => if x < y then a else b
  | .ge => if x < y then b else a
  | .gt => if y < x then a else b
  | .le => if y < x then b else a
def cm_sw {α : Type} (x : Int) (f : Int → α) (d : Int) : List (Int × Int) → α
  | [] => f d
  | q :: r => if x = q.1 then f q.2 else cm_sw x f d r
/-- behind a call that answers an int, behind one that answers nothing -/
def cm_bi (x : Option cm_R) (f : Int → cm_S → Option cm_R) : Option cm_R := match x with
  | some (.inl (some (.inl z)), s) => f z s
  | some (.inr e, s) => some (.inr e, s)
  | _ => none
def cm_bv (x : Option cm_R) (f : cm_S → Option cm_R) : Option cm_R := match x with
  | some (.inl none, s) => f s
  | some (.inr e, s) => some (.inr e, s)
  | _ => none
def cm_ct (v : cm_V) : Nat := match v with
  | .inr (.inr _) => 2
  | _ => 1
def cm_cts (st : List cm_V) : Nat := (st.map cm_ct).sum
def cm_li {α : Type} (lv : cm_L) (k : Nat) (f : Int → Option α) : Option α := match lv[k]? with
  | some (some (.inl z)) => f z
  | _ => none
def cm_lr {α : Type} (lv : cm_L) (k : Nat) (f : Nat → Option α) : Option α := match lv[k]? with
  | some (some (.inr (.inl z))) => f z
  | _ => none
def cm_ll {α : Type} (lv : cm_L) (k : Nat) (f : Int → Option α) : Option α := match lv[k]? with
  | some (some (.inr (.inr z))) => f z
  | _ => none
def cm_i1 {α : Type} (st : List cm_V) (f : Int → List cm_V → Option α) : Option α := match st with
  | .inl x :: r => f x r
  | _ => none
def cm_i2 {α : Type} (st : List cm_V) (f : Int → Int → List cm_V → Option α) : Option α := match st with
  | .inl y :: .inl x :: r => f x y r
  | _ => none
def cm_l1 {α : Type} (st : List cm_V) (f : Int → List cm_V → Option α) : Option α := match st with
  | .inr (.inr x) :: r => f x r
  | _ => none
def cm_l2 {α : Type} (st : List cm_V) (f : Int → Int → List cm_V → Option α) : Option α := match st with
  | .inr (.inr y) :: .inr (.inr x) :: r => f x y r
  | _ => none
def cm_r1 {α : Type} (st : List cm_V) (f : Nat → List cm_V → Option α) : Option α := match st with
  | .inr (.inl a) :: r => f a r
  | _ => none
def cm_ri {α : Type} (st : List cm_V) (f : Nat → Int → List cm_V → Option α) : Option α := match st with
  | .inl j :: .inr (.inl a) :: r => f a j r
  | _ => none
def cm_rii {α : Type} (st : List cm_V) (f : Nat → Int → Int → List cm_V → Option α) : Option α := match st with
  | .inl z :: .inl j :: .inr (.inl a) :: r => f a j z r
  | _ => none
def cm_zr {α : Type} (st : List cm_V) (f : Nat → Int → List cm_V → Option α) : Option α := match st with
  | .inl z :: .inr (.inl a) :: r => f a z r
  | _ => none
def cm_rr {α : Type} (st : List cm_V) (f : Nat → Nat → List cm_V → Option α) : Option α := match st with
  | .inr (.inl p) :: .inr (.inl a) :: r => f a p r
  | _ => none
def cm_il {α : Type} (st : List cm_V) (f : Int → Int → List cm_V → Option α) : Option α := match st with
  | .inl y :: .inr (.inr x) :: r => f x y r
  | _ => none
def cm_dp {α : Type} (st : List cm_V) (f : cm_V → List cm_V → Option α) : Option α := match st with
  | .inl z :: r => f (.inl z) r
  | .inr (.inl a) :: r => f (.inr (.inl a)) r
  | _ => none
def cm_e1 {α : Type} (st : List cm_V) (f : Int → Option α) : Option α := match st with
  | [.inl z] => f z
  | _ => none
def cm_e0 {α : Type} (st : List cm_V) (f : Option α) : Option α := match st with
  | [] => f
  | _ => none
/-- a call's arguments, and what is left: n of them, and, where r is true, an object below -/
def cm_pop (r : Bool) (n : Nat) (st : List cm_V) : Option (List cm_V × List cm_V) := match n, st with
  | 0, st => match r, st with
    | false, st => some ([], st)
    | true, .inr (.inl a) :: r => some ([.inr (.inl a)], r)
    | true, _ => none
  | n + 1, v :: st => match cm_pop r n st with
    | some (as, st) => some (as ++ [v], st)
    | none => none
  | _ + 1, [] => none
def cm_po {α : Type} (r : Bool) (n : Nat) (st : List cm_V) (f : List cm_V → List cm_V → Option α) : Option α := match cm_pop r n st with
  | some q => f q.1 q.2
  | none => none
def cm_rcv (as : List cm_V) (f : Nat → Option cm_R) : Option cm_R := match as with
  | .inr (.inl a) :: _ => f a
  | _ => none
def cm_clT : List Nat := [0, 1, 99, 2, 3, 99, 99, 99, 99, 99, 99, 99, 99, 99, 4, 5, 99, 99, 6, 99, 99, 99, 99, 99, 99, 99, 99, 6, 99, 99, 99, 99, 99, 99, 99, 99, 7, 8, 99, 99, 99, 9, 99, 99, 99, 99, 99, 99, 99, 99, 99, 99, 99, 99, 99, 99, 99, 99, 99, 99, 99, 99, 99, 99, 99, 99, 99, 99, 99, 99, 99, 99]
def cm_ptT : List (List Nat) := [[1, 3, 4, 14, 36, 37, 18, 27], [2, 9999, 9999], [], [9999, 9999, 9999], [3, 5, 6, 7, 8, 9, 10, 11, 12, 13, 9999], [], [], [], [], [], [], [], [], [], [15, 4, 3, 16, 17, 9999, 9999, 9999], [1, 3, 9999, 9999, 9999, 9999, 9999, 9999], [], [], [19, 20, 21, 22, 23, 24, 25, 26, 9999], [], [], [], [], [], [], [], [], [28, 29, 30, 31, 32, 33, 34, 35, 9999], [], [], [], [], [], [], [], [], [1, 3, 27], [1, 38, 39, 40, 18, 9999, 9999], [], [], [], [42, 43, 44, 9999, 45, 46, 9999, 9999, 9999, 9999, 9999, 9999, 9999, 9999, 9999, 9999, 9999, 9999, 9999, 47, 48, 49, 50, 51, 52, 53, 54, 55, 9999, 56, 57, 58, 59, 60, 9999, 61, 9999, 62, 63, 64, 9999, 9999, 9999, 9999, 65, 66, 67, 68, 9999, 9999, 69, 70, 71, 9999, 9999], [], [], [], [], [], [], [], [], [], [], [], [], [], [], [], [], [], [], [], [], [], [], [], [], [], [], [], [], [], []]
def cm_rT : List (Nat × Nat) := [(99, 0), (99, 0), (1, 480), (99, 0), (99, 0), (0, 512), (0, 512), (0, 512), (0, 512), (0, 512), (0, 512), (0, 512), (0, 512), (0, 512), (99, 0), (99, 0), (0, 256), (0, 256), (99, 0), (0, 512), (0, 512), (0, 512), (0, 512), (0, 512), (0, 512), (0, 512), (2, 512), (99, 0), (0, 512), (0, 512), (0, 512), (0, 512), (0, 512), (0, 512), (0, 512), (2, 512), (99, 0), (99, 0), (1, 1024), (2, 512), (2, 512), (99, 0), (14, 27), (10, 24), (10, 24), (3, 480), (3, 480), (0, 500), (0, 500), (0, 500), (0, 500), (0, 500), (0, 500), (0, 500), (2, 500), (2, 500), (0, 900), (0, 900), (0, 900), (0, 900), (0, 900), (0, 500), (0, 300), (0, 300), (0, 300), (0, 500), (0, 500), (0, 3000), (3, 1500), (0, 1000), (0, 1000), (0, 1000)]
def cm_kT : List (List Int) := [[116, 104, 101, 32, 116, 101, 120, 116, 32, 104, 97, 115, 32, 97, 32, 102, 97, 117, 108, 116], [98, 114, 101, 97, 107, 32, 99, 97, 115, 101, 32, 99, 97, 116, 99, 104, 32, 99, 111, 110, 116, 105, 110, 117, 101, 32, 100, 101, 102, 97, 117, 108, 116, 32, 100, 101, 108, 101, 116, 101, 32, 100, 111, 32, 101, 108, 115, 101, 32, 102, 97, 108, 115, 101, 32, 102, 105, 110, 97, 108, 108, 121, 32, 102, 111, 114, 32, 102, 117, 110, 99, 116, 105, 111, 110, 32, 105, 102, 32, 105, 110, 32, 105, 110, 115, 116, 97, 110, 99, 101, 111, 102, 32, 110, 101, 119, 32, 110, 117, 108, 108, 32, 114, 101, 116, 117, 114, 110, 32, 115, 119, 105, 116, 99, 104, 32, 116, 104, 105, 115, 32, 116, 104, 114, 111, 119, 32, 116, 114, 117, 101, 32, 116, 114, 121, 32, 116, 121, 112, 101, 111, 102, 32, 118, 97, 114, 32, 118, 111, 105, 100, 32, 119, 104, 105, 108, 101, 32], [117, 115, 101, 32, 115, 116, 114, 105, 99, 116], [101, 118, 97, 108], [97, 114, 103, 117, 109, 101, 110, 116, 115], [44], [93], [125], [46], [40], [41], [123], [58], [59], [61], [102, 105, 110, 97, 108, 108, 121], [91], [63], [101, 108, 115, 101], [119, 104, 105, 108, 101], [105, 110], [116, 104, 105, 115], [102, 117, 110, 99, 116, 105, 111, 110], [110, 101, 119], [118, 97, 114], [99, 111, 110, 116, 105, 110, 117, 101], [98, 114, 101, 97, 107], [114, 101, 116, 117, 114, 110], [100, 101, 102, 97, 117, 108, 116], [99, 97, 115, 101], [116, 104, 114, 111, 119], [116, 114, 121], [105, 102], [100, 111], [102, 111, 114], [115, 119, 105, 116, 99, 104], [99, 97, 116, 99, 104], [110, 111, 32, 115, 117, 99, 104, 32, 110, 111, 100, 101], [110, 111, 116, 104, 105, 110, 103, 32, 111, 102, 32, 116, 104, 97, 116, 32, 110, 117, 109, 98, 101, 114, 32, 105, 115, 32, 116, 111, 108, 100, 32, 111, 102, 32, 97, 32, 110, 111, 100, 101], [123, 125, 40, 41, 91, 93, 46, 59, 44, 60, 62, 15421, 15933, 15677, 8509, 4013373, 2178365, 43, 45, 42, 37, 11051, 11565, 15420, 15934, 4079166, 38, 124, 94, 33, 126, 9766, 31868, 63, 58, 61, 11069, 11581, 10813, 9533, 3947581, 4079165, 1044266557, 9789, 31805, 24125, 47, 12093]]
def cm_krT : List (List Int) := [[2692139, 99941, 3199080, 119676385957, 4469085588, 139859589, 143, 176741, 6337125, 6759166361, 6642, 229180581358, 294, 302, 332726869792230, 14519, 480652, 609900110, 661966952, 663859, 21252599, 674469, 21081, 697832934, 22578, 736548, 24388997], [15421, 15933, 15677, 8509, 11051, 11565, 15420, 15934, 9766, 31868, 11069, 11581, 10813, 9533, 9789, 31805, 24125, 12093, 4013373, 2178365, 4079166, 3947581, 4079165, 1044266557], [123, 125, 40, 41, 91, 93, 46, 59, 44, 60, 62, 43, 45, 42, 37, 38, 124, 94, 33, 126, 63, 58, 61, 47]]
/-- tables: the class of an object, where a field points to, a row's kind (0 int, 1 char, 2 boolean, 3 byte; 10 more: it never changes), its length -/
def cm_cl (a : Nat) : Nat := cm_clT.getD a 99
def cm_pt (a j : Nat) : Nat := (cm_ptT.getD a []).getD j 9999
def cm_rk (a : Nat) : Nat := (cm_rT.getD a (99, 0)).1
def cm_rn (a : Nat) : Int := ((cm_rT.getD a (99, 0)).2 : Nat)
/-- constants from place 1000 on: texts and the row of signs; how long, and what lies there -/
def cm_kn (p : Nat) : Int := ((cm_kT.getD (p - 1000) []).length : Nat)
def cm_ka (p : Nat) (j : Int) : Int := (cm_kT.getD (p - 1000) []).getD j.toNat 0
/-- rows of the second object that never change -/
def cm_kr (a : Nat) (j : Int) : Int := (cm_krT.getD (a - 42) []).getD j.toNat 0
abbrev cm_RN : Type := Nat → List cm_V → cm_S → Option cm_R
/-- what lies behind a cut: index, locals, stack, state -/
abbrev cm_X : Type := Nat → cm_L → List cm_V → cm_S → Option cm_R
/-- up to a cut: m steps at most -/
def cm_blk (run : cm_RN) (X : cm_X) (code : List Instr) : Nat → List Instr → cm_L → List cm_V → cm_S → Option cm_R
  | 0, _, _, _, _ => none
  | _ + 1, [], _, _, _ => none
  | kk + 1, i :: r, lv, st, s => match i with
    | .iconst z => cm_blk run X code kk r lv (.inl z :: st) s
    | .sipush z => cm_blk run X code kk r lv (.inr (.inr z) :: st) s
    | .ldc a => cm_blk run X code kk r lv (.inr (.inl a) :: st) s
    | .iload k => cm_li lv k fun z => cm_blk run X code kk r lv (.inl z :: st) s
    | .aload k => cm_lr lv k fun a => cm_blk run X code kk r lv (.inr (.inl a) :: st) s
    | .lload k => cm_ll lv k fun z => cm_blk run X code kk r lv (.inr (.inr z) :: st) s
    | .istore k => cm_i1 st fun z st' => cm_blk run X code kk r (lv.set k (some (.inl z))) st' s
    | .astore k => cm_r1 st fun a st' => cm_blk run X code kk r (lv.set k (some (.inr (.inl a)))) st' s
    | .lstore k => cm_l1 st fun z st' => cm_blk run X code kk r ((lv.set k (some (.inr (.inr z)))).set (k + 1) none) st' s
    | .iinc k c => cm_li lv k fun z => cm_blk run X code kk r (lv.set k (some (.inl (cm_w (z + c))))) st s
    | .iadd => cm_i2 st fun x y st' => cm_blk run X code kk r lv (.inl (cm_w (x + y)) :: st') s
    | .isub => cm_i2 st fun x y st' => cm_blk run X code kk r lv (.inl (cm_w (x - y)) :: st') s
    | .imul => cm_i2 st fun x y st' => cm_blk run X code kk r lv (.inl (cm_w (x * y)) :: st') s
    | .iand => cm_i2 st fun x y st' => cm_blk run X code kk r lv (.inl (cm_and x y) :: st') s
    | .ior => cm_i2 st fun x y st' => cm_blk run X code kk r lv (.inl (cm_or x y) :: st') s
    | .ishl => cm_i2 st fun x y st' => cm_blk run X code kk r lv (.inl (cm_shl x y) :: st') s
    | .ishr => cm_i2 st fun x y st' => cm_blk run X code kk r lv (.inl (cm_shr x y) :: st') s
    | .ladd => cm_l2 st fun x y st' => cm_blk run X code kk r lv (.inr (.inr (cm_wl (x + y))) :: st') s
    | .lsub => cm_l2 st fun x y st' => cm_blk run X code kk r lv (.inr (.inr (cm_wl (x - y))) :: st') s
    | .lmul => cm_l2 st fun x y st' => cm_blk run X code kk r lv (.inr (.inr (cm_wl (x * y))) :: st') s
    | .land => cm_l2 st fun x y st' => cm_blk run X code kk r lv (.inr (.inr (cm_land x y)) :: st') s
    | .lshr => cm_il st fun x y st' => cm_blk run X code kk r lv (.inr (.inr (cm_lshr x y)) :: st') s
    | .i2l => cm_i1 st fun x st' => cm_blk run X code kk r lv (.inr (.inr x) :: st') s
    | .l2i => cm_l1 st fun x st' => cm_blk run X code kk r lv (.inl (cm_w x) :: st') s
    | .i2c => cm_i1 st fun x st' => if 0 ≤ x ∧ x < 65536 then cm_blk run X code kk r lv (.inl x :: st') s else none
    | .i2b => cm_i1 st fun x st' => if -128 ≤ x ∧ x < 128 then cm_blk run X code kk r lv (.inl x :: st') s else none
    | .lcmp => cm_l2 st fun x y st' => cm_blk run X code kk r lv (.inl (if x < y then -1 else if x = y then 0 else 1) :: st') s
    | .dup => cm_dp st fun v st' => cm_blk run X code kk r lv (v :: v :: st') s
    | .dup2 => cm_zr st fun a j st' => cm_blk run X code kk r lv (.inl j :: .inr (.inl a) :: .inl j :: .inr (.inl a) :: st') s
    | .goto t => cm_blk run X code kk (code.drop t.toNat) lv st s
    | .ifCond c t => cm_i1 st fun x st' => cm_br c x 0 (cm_blk run X code kk (code.drop t.toNat) lv st' s) (cm_blk run X code kk r lv st' s)
    | .if_icmp c t => cm_i2 st fun x y st' => cm_br c x y (cm_blk run X code kk (code.drop t.toNat) lv st' s) (cm_blk run X code kk r lv st' s)
    | .lookupswitch d ps => cm_i1 st fun x st' => cm_sw x (fun t => cm_blk run X code kk (code.drop t.toNat) lv st' s) d ps.toList
    | .getfield k => cm_r1 st fun a st' => if cm_cl a = k / 100 then cm_blk run X code kk r lv (.inl (s.1 (100 * a + k % 100)) :: st') s else none
    | .getstatic k => cm_r1 st fun a st' => if cm_cl a = k / 100 then cm_blk run X code kk r lv (.inr (.inl (cm_pt a (k % 100))) :: st') s else none
    | .checkcast k => cm_r1 st fun a st' => if cm_cl a = k / 100 then cm_blk run X code kk r lv (.inr (.inl (s.1 (100 * a + k % 100)).toNat) :: st') s else none
    | .putfield k => cm_zr st fun a z st' => if cm_cl a = k / 100 then cm_blk run X code kk r lv st' (cm_p s (100 * a + k % 100) z) else none
    | .instanceof k => cm_zr st fun a z st' => if cm_cl a = k / 100 then (if 0 ≤ z ∧ z < 2 then cm_blk run X code kk r lv st' (cm_p s (100 * a + k % 100) z) else none) else none
    | .putstatic k => cm_rr st fun a p st' => if cm_cl a = k / 100 then cm_blk run X code kk r lv st' (cm_p s (100 * a + k % 100) p) else none
    | .iaload => cm_ri st fun a j st' => if cm_rk a = 0 then (if 0 ≤ j ∧ j < cm_rn a then cm_blk run X code kk r lv (.inl (s.2 a j) :: st') s else none) else if cm_rk a = 10 then (if 0 ≤ j ∧ j < cm_rn a then cm_blk run X code kk r lv (.inl (cm_kr a j) :: st') s else none) else none
    | .caload => cm_ri st fun a j st' => if cm_rk a = 1 then (if 0 ≤ j ∧ j < cm_rn a then cm_blk run X code kk r lv (.inl (s.2 a j) :: st') s else none) else none
    | .baload => cm_ri st fun a j st' => if (cm_rk a = 2 ∨ cm_rk a = 3) then (if 0 ≤ j ∧ j < cm_rn a then cm_blk run X code kk r lv (.inl (s.2 a j) :: st') s else none) else none
    | .laload => cm_ri st fun a j st' => if cm_rk a = 14 then (if 0 ≤ j ∧ j < cm_rn a then cm_blk run X code kk r lv (.inr (.inr (cm_kr a j)) :: st') s else none) else none
    | .saload => cm_ri st fun a j st' => if 0 ≤ j ∧ j < cm_kn a then cm_blk run X code kk r lv (.inl (cm_ka a j) :: st') s else none
    | .arraylength => cm_r1 st fun a st' => cm_blk run X code kk r lv (.inl (cm_kn a) :: st') s
    | .i2s => cm_r1 st fun a st' => cm_blk run X code kk r lv (.inl (if cm_kn a = 0 then 1 else 0) :: st') s
    | .iastore => cm_rii st fun a j z st' => if cm_rk a = 0 then (if 0 ≤ j ∧ j < cm_rn a then cm_blk run X code kk r lv st' (cm_q s a j z) else none) else none
    | .castore => cm_rii st fun a j z st' => if cm_rk a = 1 then (if 0 ≤ j ∧ j < cm_rn a then (if 0 ≤ z ∧ z < 65536 then cm_blk run X code kk r lv st' (cm_q s a j z) else none) else none) else none
    | .bastore => cm_rii st fun a j z st' => if cm_rk a = 2 then (if 0 ≤ j ∧ j < cm_rn a then (if 0 ≤ z ∧ z < 2 then cm_blk run X code kk r lv st' (cm_q s a j z) else none) else none) else none
    | .sastore => cm_rii st fun a j z st' => if cm_rk a = 3 then (if 0 ≤ j ∧ j < cm_rn a then (if -128 ≤ z ∧ z < 128 then cm_blk run X code kk r lv st' (cm_q s a j z) else none) else none) else none
    | .invokevirtual q => cm_po true (q / 100 % 10) st fun as st' => cm_rcv as fun a => if cm_cl a = q % 100 then (if cm_cts st' ≤ 8 then cm_bi (run (q / 1000) as s) fun z s' => cm_blk run X code kk r lv (.inl z :: st') s' else none) else none
    | .invokespecial q => cm_po true (q / 100 % 10) st fun as st' => cm_rcv as fun a => if cm_cl a = q % 100 then (if cm_cts st' ≤ 8 then cm_bv (run (q / 1000) as s) fun s' => cm_blk run X code kk r lv st' s' else none) else none
    | .invokestatic q => cm_po false (q / 100 % 10) st fun as st' => if cm_cts st' ≤ 8 then cm_bi (run (q / 1000) as s) fun z s' => cm_blk run X code kk r lv (.inl z :: st') s' else none
    | .ret t => X t lv st s
    | .ireturn => cm_e1 st fun z => some (.inl (some (.inl z)), s)
    | .lreturn => cm_e1 st fun z => if 0 ≤ z ∧ z < 2 then some (.inl (some (.inl z)), s) else none
    | .return_ => cm_e0 st (some (.inl none, s))
    | .new e => if cm_cts st ≤ 8 then some (.inr e, s) else none
    | _ => none
/-- from cut to cut -/
def cm_go (run : cm_RN) (code : List Instr) : Nat → cm_X
  | 0, _, _, _, _ => none
  | kk + 1, t, lv, st, s => cm_blk run (cm_go run code kk) code 700 (code.drop t) lv st s
