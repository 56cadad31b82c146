/-! ===== methods as expressions, printed by wip/gen/cm/pr.py ===== -/
/-- ScriptFront$Tape.isTypable, from 0 on -/
def cF_10_0 (run : cm_RN) (X : cm_X) (x0 : Int) (s : cm_S) : Option cm_R :=
  if x0 < 32 then
    if x0 = 9 then
      some (.inl (some (.inl 1)), s)
    else
      cm_bi (run 11 [.inl x0] s) fun z1 s1 =>
        if z1 = 0 then
          some (.inl (some (.inl 0)), s1)
        else
          some (.inl (some (.inl 1)), s1)
  else
    if 126 < x0 then
      if x0 = 9 then
        some (.inl (some (.inl 1)), s)
      else
        cm_bi (run 11 [.inl x0] s) fun z2 s2 =>
          if z2 = 0 then
            some (.inl (some (.inl 0)), s2)
          else
            some (.inl (some (.inl 1)), s2)
    else
      some (.inl (some (.inl 1)), s)
set_option maxRecDepth 100000 in
theorem cE_10_0 (run : cm_RN) (x0 : Int) (s : cm_S) : cm_lp run cm_k10 0 [some (.inl x0)] [] s = cF_10_0 run (cm_lp run cm_k10) x0 s := (cm_lp_eq run cm_k10 0 _ _ s).trans rfl
/-- ScriptFront$Tape.isLineEnd, from 0 on -/
def cF_11_0 (run : cm_RN) (X : cm_X) (x0 : Int) (s : cm_S) : Option cm_R :=
  if x0 = 10 then
    some (.inl (some (.inl 1)), s)
  else
    if x0 = 13 then
      some (.inl (some (.inl 1)), s)
    else
      some (.inl (some (.inl 0)), s)
set_option maxRecDepth 100000 in
theorem cE_11_0 (run : cm_RN) (x0 : Int) (s : cm_S) : cm_lp run cm_k11 0 [some (.inl x0)] [] s = cF_11_0 run (cm_lp run cm_k11) x0 s := (cm_lp_eq run cm_k11 0 _ _ s).trans rfl
/-- ScriptFront$Tape.put, from 0 on -/
def cF_12_0 (run : cm_RN) (X : cm_X) (x1 : Int) (s : cm_S) : Option cm_R :=
  if (s.1 101) < 0 then
    some (.inl none, s)
  else
    if (s.1 101) < 480 then
      if 0 ≤ x1 ∧ x1 < 65536 then
        if (0 : Int) ≤ (s.1 101) ∧ (s.1 101) < 480 then
          (if 0 ≤ x1 ∧ x1 < 65536 then
            some (.inl none, (cm_p (cm_q s 2 (s.1 101) x1) 101 (cm_w ((s.1 101) + 1))))
          else none)
        else none
      else none
    else
      some (.inl none, s)
set_option maxRecDepth 100000 in
theorem cE_12_0 (run : cm_RN) (x1 : Int) (s : cm_S) : cm_lp run cm_k12 0 [some (.inr (.inl 1)), some (.inl x1)] [] s = cF_12_0 run (cm_lp run cm_k12) x1 s := (cm_lp_eq run cm_k12 0 _ _ s).trans rfl
/-- ScriptFront.fault, from 0 on -/
def cF_13_0 (run : cm_RN) (X : cm_X) (x1 : Int) (s : cm_S) : Option cm_R :=
  if x1 = 0 then
    some (.inl (some (.inl (s.1 300))), s)
  else if x1 = 1 then
    some (.inl (some (.inl (s.1 301))), s)
  else if x1 = 2 then
    some (.inl (some (.inl (s.1 302))), s)
  else 
    some (.inl (some (.inl (-1))), s)
set_option maxRecDepth 100000 in
theorem cE_13_0 (run : cm_RN) (x1 : Int) (s : cm_S) : cm_lp run cm_k13 0 [some (.inr (.inl 0)), some (.inl x1)] [] s = cF_13_0 run (cm_lp run cm_k13) x1 s := (cm_lp_eq run cm_k13 0 _ _ s).trans rfl
/-- ScriptFront.many, from 0 on -/
def cF_14_0 (run : cm_RN) (X : cm_X) (x1 : Int) (s : cm_S) : Option cm_R :=
  X 5 [some (.inr (.inl 0)), some (.inl x1), some (.inl 0), some (.inl 0)] [] s
set_option maxRecDepth 100000 in
theorem cE_14_0 (run : cm_RN) (x1 : Int) (s : cm_S) : cm_lp run cm_k14 0 [some (.inr (.inl 0)), some (.inl x1), none, none] [] s = cF_14_0 run (cm_lp run cm_k14) x1 s := (cm_lp_eq run cm_k14 0 _ _ s).trans rfl
/-- ScriptFront.many, from 4 on -/
def cF_14_5 (run : cm_RN) (X : cm_X) (x1 : Int) (x2 : Int) (x3 : Int) (s : cm_S) : Option cm_R :=
  if cm_cl ((s.1 6).toNat) = 6 then
    if x3 < (s.1 (100 * ((s.1 6).toNat) + 8)) then
      if cm_cl ((s.1 6).toNat) = 6 then
        (cm_bi (run 15 [.inr (.inl ((s.1 6).toNat)), .inl x3] s) fun z1 s1 =>
          if z1 = x1 then
            X 5 [some (.inr (.inl 0)), some (.inl x1), some (.inl (cm_w (x2 + 1))), some (.inl (cm_w (x3 + 1)))] [] s1
          else
            X 5 [some (.inr (.inl 0)), some (.inl x1), some (.inl x2), some (.inl (cm_w (x3 + 1)))] [] s1)
      else none
    else
      some (.inl (some (.inl x2)), s)
  else none
set_option maxRecDepth 100000 in
theorem cE_14_5 (run : cm_RN) (x1 : Int) (x2 : Int) (x3 : Int) (s : cm_S) : cm_lp run cm_k14 5 [some (.inr (.inl 0)), some (.inl x1), some (.inl x2), some (.inl x3)] [] s = cF_14_5 run (cm_lp run cm_k14) x1 x2 x3 s := (cm_lp_eq run cm_k14 5 _ _ s).trans rfl
/-- ScriptFront$Tree.kindOf, from 0 on -/
def cF_15_0 (run : cm_RN) (X : cm_X) (t : Nat) (x1 : Int) (s : cm_S) : Option cm_R :=
  if cm_cl t = 6 then
    (cm_bi (run 16 [.inr (.inl t), .inl x1] s) fun z1 s1 =>
      if z1 = 0 then
        some (.inl (some (.inl (-1))), s1)
      else
        if cm_cl t = 6 then
          if cm_rk (cm_pt t 0) = 0 then
            (if (0 : Int) ≤ x1 ∧ x1 < cm_rn (cm_pt t 0) then
              some (.inl (some (.inl (s1.2 (cm_pt t 0) x1))), s1)
            else none)
          else if cm_rk (cm_pt t 0) = 10 then
            (if (0 : Int) ≤ x1 ∧ x1 < cm_rn (cm_pt t 0) then
              some (.inl (some (.inl (cm_kr (cm_pt t 0) x1))), s1)
            else none)
          else none
        else none)
  else none
set_option maxRecDepth 100000 in
theorem cE_15_0 (run : cm_RN) (t : Nat) (x1 : Int) (s : cm_S) : cm_lp run cm_k15 0 [some (.inr (.inl t)), some (.inl x1)] [] s = cF_15_0 run (cm_lp run cm_k15) t x1 s := (cm_lp_eq run cm_k15 0 _ _ s).trans rfl
/-- ScriptFront$Tree.has, from 0 on -/
def cF_16_0 (run : cm_RN) (X : cm_X) (t : Nat) (x1 : Int) (s : cm_S) : Option cm_R :=
  if x1 < 0 then
    some (.inl (some (.inl 0)), s)
  else
    if cm_cl t = 6 then
      if x1 < (s.1 (100 * t + 8)) then
        if x1 < 512 then
          some (.inl (some (.inl 1)), s)
        else
          some (.inl (some (.inl 0)), s)
      else
        some (.inl (some (.inl 0)), s)
    else none
set_option maxRecDepth 100000 in
theorem cE_16_0 (run : cm_RN) (t : Nat) (x1 : Int) (s : cm_S) : cm_lp run cm_k16 0 [some (.inr (.inl t)), some (.inl x1)] [] s = cF_16_0 run (cm_lp run cm_k16) t x1 s := (cm_lp_eq run cm_k16 0 _ _ s).trans rfl
/-- ScriptFront.printed, from 0 on -/
def cF_17_0 (run : cm_RN) (X : cm_X) (x1 : Int) (s : cm_S) : Option cm_R :=
  if x1 = (-1) then
    some (.inl (some (.inl (s.1 3706))), s)
  else
    cm_bi (run 18 [.inr (.inl 37), .inl x1] s) fun z1 s1 =>
      some (.inl (some (.inl z1)), s1)
set_option maxRecDepth 100000 in
theorem cE_17_0 (run : cm_RN) (x1 : Int) (s : cm_S) : cm_lp run cm_k17 0 [some (.inr (.inl 0)), some (.inl x1)] [] s = cF_17_0 run (cm_lp run cm_k17) x1 s := (cm_lp_eq run cm_k17 0 _ _ s).trans rfl
/-- ScriptFront$Printer.at, from 0 on -/
def cF_18_0 (run : cm_RN) (X : cm_X) (x1 : Int) (s : cm_S) : Option cm_R :=
  if x1 < 0 then
    some (.inl (some (.inl (-1))), s)
  else
    if x1 < (s.1 3706) then
      if x1 < 1024 then
        if (0 : Int) ≤ x1 ∧ x1 < 1024 then
          some (.inl (some (.inl (s.2 38 x1))), s)
        else none
      else
        some (.inl (some (.inl (-1))), s)
    else
      some (.inl (some (.inl (-1))), s)
set_option maxRecDepth 100000 in
theorem cE_18_0 (run : cm_RN) (x1 : Int) (s : cm_S) : cm_lp run cm_k18 0 [some (.inr (.inl 37)), some (.inl x1)] [] s = cF_18_0 run (cm_lp run cm_k18) x1 s := (cm_lp_eq run cm_k18 0 _ _ s).trans rfl
/-- ScriptFront.again, from 0 on -/
def cF_19_0 (run : cm_RN) (X : cm_X) (s : cm_S) : Option cm_R :=
  if cm_cl ((s.1 6).toNat) = 6 then
    if (s.1 (100 * ((s.1 6).toNat) + 8)) = 0 then
      some (.inl (some (.inl 0)), s)
    else
      if 480 < (s.1 3706) then
        some (.inl (some (.inl 0)), s)
      else
        X 18 [some (.inr (.inl 0)), some (.inl 0)] [] (cm_p s 101 0)
  else none
set_option maxRecDepth 100000 in
theorem cE_19_0 (run : cm_RN) (s : cm_S) : cm_lp run cm_k19 0 [some (.inr (.inl 0)), none] [] s = cF_19_0 run (cm_lp run cm_k19) s := (cm_lp_eq run cm_k19 0 _ _ s).trans rfl
/-- ScriptFront.again, from 17 on -/
def cF_19_18 (run : cm_RN) (X : cm_X) (x1 : Int) (s : cm_S) : Option cm_R :=
  if x1 < (s.1 3706) then
    cm_bi (run 18 [.inr (.inl 37), .inl x1] s) fun z1 s1 =>
      cm_bv (run 12 [.inr (.inl 1), .inl z1] s1) fun s2 =>
        X 18 [some (.inr (.inl 0)), some (.inl (cm_w (x1 + 1)))] [] s2
  else
    some (.inl (some (.inl 1)), s)
set_option maxRecDepth 100000 in
theorem cE_19_18 (run : cm_RN) (x1 : Int) (s : cm_S) : cm_lp run cm_k19 18 [some (.inr (.inl 0)), some (.inl x1)] [] s = cF_19_18 run (cm_lp run cm_k19) x1 s := (cm_lp_eq run cm_k19 18 _ _ s).trans rfl
/-- ScriptFront.parse, from 0 on -/
def cF_20_0 (run : cm_RN) (X : cm_X) (s : cm_S) : Option cm_R :=
  cm_bv (run 21 [.inr (.inl 1)] s) fun s1 =>
    cm_bv (run 22 [.inr (.inl 3)] s1) fun s2 =>
      cm_bi (run 23 [.inr (.inl 14)] s2) fun z3 s3 =>
        cm_bv (run 111 [.inr (.inl 4), .inr (.inl ((s3.1 7).toNat)), .inl z3] (cm_p s3 302 (s3.1 1407))) fun s4 =>
          cm_bv (run 115 [.inr (.inl 36), .inr (.inl ((s4.1 7).toNat))] s4) fun s5 =>
            cm_bv (run 143 [.inr (.inl 37), .inr (.inl ((((s5.1 7).toNat) : Int).toNat))] (cm_p (cm_p s5 6 (((s5.1 7).toNat) : Int)) 7 (((s5.1 6).toNat) : Int))) fun s6 =>
              if cm_cl ((s6.1 6).toNat) = 6 then
                some (.inl (some (.inl (s6.1 (100 * ((s6.1 6).toNat) + 8)))), s6)
              else none
set_option maxRecDepth 100000 in
theorem cE_20_0 (run : cm_RN) (s : cm_S) : cm_lp run cm_k20 0 [some (.inr (.inl 0)), none, none] [] s = cF_20_0 run (cm_lp run cm_k20) s := (cm_lp_eq run cm_k20 0 _ _ s).trans rfl
/-- ScriptFront$Tape.becomeText, from 0 on -/
def cF_21_0 (run : cm_RN) (X : cm_X) (s : cm_S) : Option cm_R :=
  some (.inl none, (cm_p (cm_p s 102 (s.1 101)) 101 0))
set_option maxRecDepth 100000 in
theorem cE_21_0 (run : cm_RN) (s : cm_S) : cm_lp run cm_k21 0 [some (.inr (.inl 1))] [] s = cF_21_0 run (cm_lp run cm_k21) s := (cm_lp_eq run cm_k21 0 _ _ s).trans rfl
/-- ScriptFront$Flaw.clear, from 0 on -/
def cF_22_0 (run : cm_RN) (X : cm_X) (s : cm_S) : Option cm_R :=
  some (.inl none, (cm_p (cm_p (cm_p s 300 0) 301 (-1)) 302 0))
set_option maxRecDepth 100000 in
theorem cE_22_0 (run : cm_RN) (s : cm_S) : cm_lp run cm_k22 0 [some (.inr (.inl 3))] [] s = cF_22_0 run (cm_lp run cm_k22) s := (cm_lp_eq run cm_k22 0 _ _ s).trans rfl
/-- ScriptFront$Parser.read, from 0 on -/
def cF_23_0 (run : cm_RN) (X : cm_X) (s : cm_S) : Option cm_R :=
  cm_bv (run 24 [.inr (.inl 4)] (cm_p (cm_p s 1407 0) 1405 0)) fun s1 =>
    cm_bv (run 25 [.inr (.inl 15)] s1) fun s2 =>
      cm_bi (run 45 [.inr (.inl 4), .inl 0, .inl 0, .inl 0, .inl 0] s2) fun z3 s3 =>
        X 23 [some (.inr (.inl 14)), some (.inl z3), some (.inl 0)] [] s3
set_option maxRecDepth 100000 in
theorem cE_23_0 (run : cm_RN) (s : cm_S) : cm_lp run cm_k23 0 [some (.inr (.inl 14)), none, none] [] s = cF_23_0 run (cm_lp run cm_k23) s := (cm_lp_eq run cm_k23 0 _ _ s).trans rfl
/-- ScriptFront$Parser.read, from 22 on -/
def cF_23_23 (run : cm_RN) (X : cm_X) (x1 : Int) (x2 : Int) (s : cm_S) : Option cm_R :=
  if 480 < x2 then
    some (.inl (some (.inl x1)), s)
  else
    if (s.1 1503) = 0 then
      some (.inl (some (.inl x1)), s)
    else
      cm_bi (run 46 [.inr (.inl 14), .inl 0] s) fun z1 s1 =>
        cm_bv (run 58 [.inr (.inl 4), .inl x1, .inl z1] s1) fun s2 =>
          X 23 [some (.inr (.inl 14)), some (.inl x1), some (.inl (cm_w (x2 + 1)))] [] s2
set_option maxRecDepth 100000 in
theorem cE_23_23 (run : cm_RN) (x1 : Int) (x2 : Int) (s : cm_S) : cm_lp run cm_k23 23 [some (.inr (.inl 14)), some (.inl x1), some (.inl x2)] [] s = cF_23_23 run (cm_lp run cm_k23) x1 x2 s := (cm_lp_eq run cm_k23 23 _ _ s).trans rfl
/-- ScriptFront$Draft.clear, from 0 on -/
def cF_24_0 (run : cm_RN) (X : cm_X) (s : cm_S) : Option cm_R :=
  some (.inl none, (cm_p s 410 0))
set_option maxRecDepth 100000 in
theorem cE_24_0 (run : cm_RN) (s : cm_S) : cm_lp run cm_k24 0 [some (.inr (.inl 4))] [] s = cF_24_0 run (cm_lp run cm_k24) s := (cm_lp_eq run cm_k24 0 _ _ s).trans rfl
/-- ScriptFront$Scanner.begin, from 0 on -/
def cF_25_0 (run : cm_RN) (X : cm_X) (s : cm_S) : Option cm_R :=
  cm_bv (run 26 [.inr (.inl 15)] (cm_p s 1506 0)) fun s1 =>
    some (.inl none, s1)
set_option maxRecDepth 100000 in
theorem cE_25_0 (run : cm_RN) (s : cm_S) : cm_lp run cm_k25 0 [some (.inr (.inl 15))] [] s = cF_25_0 run (cm_lp run cm_k25) s := (cm_lp_eq run cm_k25 0 _ _ s).trans rfl
/-- ScriptFront$Scanner.next, from 0 on -/
def cF_26_0 (run : cm_RN) (X : cm_X) (s : cm_S) : Option cm_R :=
  cm_bi (run 27 [.inr (.inl 15), .inl (s.1 1506)] s) fun z1 s1 =>
    if (0 : Int) ≤ (s1.1 1502) ∧ (s1.1 1502) < 2 then
      cm_bi (run 28 [.inr (.inl 1), .inl z1] (cm_p (cm_p (cm_p s1 1505 z1) 1507 (s1.1 1502)) 1504 0)) fun z2 s2 =>
        if z2 = (-1) then
          some (.inl none, (cm_p (cm_p s2 1503 0) 1506 (s2.1 1505)))
        else
          cm_bi (run 31 [.inl z2] s2) fun z3 s3 =>
            if z3 = 0 then
              if z2 = 46 then
                cm_bi (run 28 [.inr (.inl 1), .inl (cm_w ((s3.1 1505) + 1))] s3) fun z4 s4 =>
                  cm_bi (run 31 [.inl z4] s4) fun z5 s5 =>
                    if z5 = 0 then
                      cm_bi (run 37 [.inl z2] s5) fun z6 s6 =>
                        if z6 = 0 then
                          if z2 = 39 then
                            cm_bv (run 42 [.inr (.inl 15), .inl z2] s6) fun s7 =>
                              some (.inl none, s7)
                          else
                            if z2 = 34 then
                              cm_bv (run 42 [.inr (.inl 15), .inl z2] s6) fun s8 =>
                                some (.inl none, s8)
                            else
                              cm_bv (run 43 [.inr (.inl 15)] s6) fun s9 =>
                                some (.inl none, s9)
                        else
                          cm_bv (run 38 [.inr (.inl 15)] s6) fun s10 =>
                            some (.inl none, s10)
                    else
                      cm_bv (run 32 [.inr (.inl 15)] s5) fun s11 =>
                        some (.inl none, s11)
              else
                cm_bi (run 37 [.inl z2] s3) fun z12 s12 =>
                  if z12 = 0 then
                    if z2 = 39 then
                      cm_bv (run 42 [.inr (.inl 15), .inl z2] s12) fun s13 =>
                        some (.inl none, s13)
                    else
                      if z2 = 34 then
                        cm_bv (run 42 [.inr (.inl 15), .inl z2] s12) fun s14 =>
                          some (.inl none, s14)
                      else
                        cm_bv (run 43 [.inr (.inl 15)] s12) fun s15 =>
                          some (.inl none, s15)
                  else
                    cm_bv (run 38 [.inr (.inl 15)] s12) fun s16 =>
                      some (.inl none, s16)
            else
              cm_bv (run 32 [.inr (.inl 15)] s3) fun s17 =>
                some (.inl none, s17)
    else none
set_option maxRecDepth 100000 in
theorem cE_26_0 (run : cm_RN) (s : cm_S) : cm_lp run cm_k26 0 [some (.inr (.inl 15)), none] [] s = cF_26_0 run (cm_lp run cm_k26) s := (cm_lp_eq run cm_k26 0 _ _ s).trans rfl
/-- ScriptFront$Scanner.behindBlanks, from 0 on -/
def cF_27_0 (run : cm_RN) (X : cm_X) (x1 : Int) (s : cm_S) : Option cm_R :=
  X 8 [some (.inr (.inl 15)), some (.inl x1), some (.inl x1), some (.inl 0), none, none] [] (cm_p s 1502 0)
set_option maxRecDepth 100000 in
theorem cE_27_0 (run : cm_RN) (x1 : Int) (s : cm_S) : cm_lp run cm_k27 0 [some (.inr (.inl 15)), some (.inl x1), none, none, none, none] [] s = cF_27_0 run (cm_lp run cm_k27) x1 s := (cm_lp_eq run cm_k27 0 _ _ s).trans rfl
/-- ScriptFront$Scanner.behindBlanks, from 7 on -/
def cF_27_8 (run : cm_RN) (X : cm_X) (o1 : Option cm_V) (x2 : Int) (x3 : Int) (o4 : Option cm_V) (o5 : Option cm_V) (s : cm_S) : Option cm_R :=
  if 480 < x3 then
    some (.inl (some (.inl x2)), s)
  else
    cm_bi (run 28 [.inr (.inl 1), .inl x2] s) fun z1 s1 =>
      cm_bi (run 11 [.inl z1] s1) fun z2 s2 =>
        if z2 = 0 then
          if z1 = 32 then
            X 8 [some (.inr (.inl 15)), o1, some (.inl (cm_w (x2 + 1))), some (.inl (cm_w (x3 + 1))), some (.inl z1), o5] [] s2
          else
            if z1 = 9 then
              X 8 [some (.inr (.inl 15)), o1, some (.inl (cm_w (x2 + 1))), some (.inl (cm_w (x3 + 1))), some (.inl z1), o5] [] s2
            else
              if z1 = 47 then
                cm_bi (run 28 [.inr (.inl 1), .inl (cm_w (x2 + 1))] s2) fun z3 s3 =>
                  if z3 = 47 then
                    cm_bi (run 29 [.inr (.inl 15), .inl x2] s3) fun z4 s4 =>
                      X 8 [some (.inr (.inl 15)), o1, some (.inl z4), some (.inl (cm_w (x3 + 1))), some (.inl z1), o5] [] s4
                  else
                    if z1 = 47 then
                      cm_bi (run 28 [.inr (.inl 1), .inl (cm_w (x2 + 1))] s3) fun z5 s5 =>
                        if z5 = 42 then
                          cm_bi (run 30 [.inr (.inl 15), .inl x2] s5) fun z6 s6 =>
                            if z6 = (-1) then
                              some (.inl (some (.inl x2)), s6)
                            else
                              X 8 [some (.inr (.inl 15)), o1, some (.inl z6), some (.inl (cm_w (x3 + 1))), some (.inl z1), some (.inl z6)] [] s6
                        else
                          some (.inl (some (.inl x2)), s5)
                    else
                      some (.inl (some (.inl x2)), s3)
              else
                if z1 = 47 then
                  cm_bi (run 28 [.inr (.inl 1), .inl (cm_w (x2 + 1))] s2) fun z7 s7 =>
                    if z7 = 42 then
                      cm_bi (run 30 [.inr (.inl 15), .inl x2] s7) fun z8 s8 =>
                        if z8 = (-1) then
                          some (.inl (some (.inl x2)), s8)
                        else
                          X 8 [some (.inr (.inl 15)), o1, some (.inl z8), some (.inl (cm_w (x3 + 1))), some (.inl z1), some (.inl z8)] [] s8
                    else
                      some (.inl (some (.inl x2)), s7)
                else
                  some (.inl (some (.inl x2)), s2)
        else
          X 8 [some (.inr (.inl 15)), o1, some (.inl (cm_w (x2 + 1))), some (.inl (cm_w (x3 + 1))), some (.inl z1), o5] [] (cm_p s2 1502 1)
set_option maxRecDepth 100000 in
theorem cE_27_8 (run : cm_RN) (o1 : Option cm_V) (x2 : Int) (x3 : Int) (o4 : Option cm_V) (o5 : Option cm_V) (s : cm_S) : cm_lp run cm_k27 8 [some (.inr (.inl 15)), o1, some (.inl x2), some (.inl x3), o4, o5] [] s = cF_27_8 run (cm_lp run cm_k27) o1 x2 x3 o4 o5 s := (cm_lp_eq run cm_k27 8 _ _ s).trans rfl
/-- ScriptFront$Tape.at, from 0 on -/
def cF_28_0 (run : cm_RN) (X : cm_X) (x1 : Int) (s : cm_S) : Option cm_R :=
  if x1 < 0 then
    some (.inl (some (.inl (-1))), s)
  else
    if x1 < (s.1 102) then
      if x1 < 480 then
        if (0 : Int) ≤ x1 ∧ x1 < 480 then
          some (.inl (some (.inl (s.2 2 x1))), s)
        else none
      else
        some (.inl (some (.inl (-1))), s)
    else
      some (.inl (some (.inl (-1))), s)
set_option maxRecDepth 100000 in
theorem cE_28_0 (run : cm_RN) (x1 : Int) (s : cm_S) : cm_lp run cm_k28 0 [some (.inr (.inl 1)), some (.inl x1)] [] s = cF_28_0 run (cm_lp run cm_k28) x1 s := (cm_lp_eq run cm_k28 0 _ _ s).trans rfl
/-- ScriptFront$Scanner.behindLine, from 0 on -/
def cF_29_0 (run : cm_RN) (X : cm_X) (x1 : Int) (s : cm_S) : Option cm_R :=
  X 3 [some (.inr (.inl 15)), some (.inl x1), some (.inl x1)] [] s
set_option maxRecDepth 100000 in
theorem cE_29_0 (run : cm_RN) (x1 : Int) (s : cm_S) : cm_lp run cm_k29 0 [some (.inr (.inl 15)), some (.inl x1), none] [] s = cF_29_0 run (cm_lp run cm_k29) x1 s := (cm_lp_eq run cm_k29 0 _ _ s).trans rfl
/-- ScriptFront$Scanner.behindLine, from 2 on -/
def cF_29_3 (run : cm_RN) (X : cm_X) (o1 : Option cm_V) (x2 : Int) (s : cm_S) : Option cm_R :=
  if x2 < (s.1 102) then
    cm_bi (run 28 [.inr (.inl 1), .inl x2] s) fun z1 s1 =>
      cm_bi (run 11 [.inl z1] s1) fun z2 s2 =>
        if z2 = 0 then
          X 3 [some (.inr (.inl 15)), o1, some (.inl (cm_w (x2 + 1)))] [] s2
        else
          some (.inl (some (.inl x2)), s2)
  else
    some (.inl (some (.inl (s.1 102))), s)
set_option maxRecDepth 100000 in
theorem cE_29_3 (run : cm_RN) (o1 : Option cm_V) (x2 : Int) (s : cm_S) : cm_lp run cm_k29 3 [some (.inr (.inl 15)), o1, some (.inl x2)] [] s = cF_29_3 run (cm_lp run cm_k29) o1 x2 s := (cm_lp_eq run cm_k29 3 _ _ s).trans rfl
/-- ScriptFront$Scanner.behindComment, from 0 on -/
def cF_30_0 (run : cm_RN) (X : cm_X) (x1 : Int) (s : cm_S) : Option cm_R :=
  X 7 [some (.inr (.inl 15)), some (.inl x1), some (.inl 0), some (.inl (cm_w (x1 + 2))), none] [] s
set_option maxRecDepth 100000 in
theorem cE_30_0 (run : cm_RN) (x1 : Int) (s : cm_S) : cm_lp run cm_k30 0 [some (.inr (.inl 15)), some (.inl x1), none, none, none] [] s = cF_30_0 run (cm_lp run cm_k30) x1 s := (cm_lp_eq run cm_k30 0 _ _ s).trans rfl
/-- ScriptFront$Scanner.behindComment, from 6 on -/
def cF_30_7 (run : cm_RN) (X : cm_X) (o1 : Option cm_V) (x2 : Int) (x3 : Int) (o4 : Option cm_V) (s : cm_S) : Option cm_R :=
  if x3 < (s.1 102) then
    cm_bi (run 28 [.inr (.inl 1), .inl x3] s) fun z1 s1 =>
      if z1 = 42 then
        cm_bi (run 28 [.inr (.inl 1), .inl (cm_w (x3 + 1))] s1) fun z2 s2 =>
          if z2 = 47 then
            if (s2.1 1502) = 0 then
              if x2 = 0 then
                some (.inl (some (.inl (cm_w (x3 + 2)))), (cm_p s2 1502 0))
              else
                some (.inl (some (.inl (cm_w (x3 + 2)))), (cm_p s2 1502 1))
            else
              some (.inl (some (.inl (cm_w (x3 + 2)))), (cm_p s2 1502 1))
          else
            if x2 = 0 then
              cm_bi (run 11 [.inl z1] s2) fun z3 s3 =>
                if z3 = 0 then
                  X 7 [some (.inr (.inl 15)), o1, some (.inl 0), some (.inl (cm_w (x3 + 1))), some (.inl z1)] [] s3
                else
                  X 7 [some (.inr (.inl 15)), o1, some (.inl 1), some (.inl (cm_w (x3 + 1))), some (.inl z1)] [] s3
            else
              X 7 [some (.inr (.inl 15)), o1, some (.inl 1), some (.inl (cm_w (x3 + 1))), some (.inl z1)] [] s2
      else
        if x2 = 0 then
          cm_bi (run 11 [.inl z1] s1) fun z4 s4 =>
            if z4 = 0 then
              X 7 [some (.inr (.inl 15)), o1, some (.inl 0), some (.inl (cm_w (x3 + 1))), some (.inl z1)] [] s4
            else
              X 7 [some (.inr (.inl 15)), o1, some (.inl 1), some (.inl (cm_w (x3 + 1))), some (.inl z1)] [] s4
        else
          X 7 [some (.inr (.inl 15)), o1, some (.inl 1), some (.inl (cm_w (x3 + 1))), some (.inl z1)] [] s1
  else
    some (.inl (some (.inl (-1))), s)
set_option maxRecDepth 100000 in
theorem cE_30_7 (run : cm_RN) (o1 : Option cm_V) (x2 : Int) (x3 : Int) (o4 : Option cm_V) (s : cm_S) : cm_lp run cm_k30 7 [some (.inr (.inl 15)), o1, some (.inl x2), some (.inl x3), o4] [] s = cF_30_7 run (cm_lp run cm_k30) o1 x2 x3 o4 s := (cm_lp_eq run cm_k30 7 _ _ s).trans rfl
/-- ScriptFront$Tape.isDigit, from 0 on -/
def cF_31_0 (run : cm_RN) (X : cm_X) (x0 : Int) (s : cm_S) : Option cm_R :=
  if x0 < 48 then
    some (.inl (some (.inl 0)), s)
  else
    if 57 < x0 then
      some (.inl (some (.inl 0)), s)
    else
      some (.inl (some (.inl 1)), s)
set_option maxRecDepth 100000 in
theorem cE_31_0 (run : cm_RN) (x0 : Int) (s : cm_S) : cm_lp run cm_k31 0 [some (.inl x0)] [] s = cF_31_0 run (cm_lp run cm_k31) x0 s := (cm_lp_eq run cm_k31 0 _ _ s).trans rfl
/-- ScriptFront$Scanner.readNumber, from 0 on -/
def cF_32_0 (run : cm_RN) (X : cm_X) (s : cm_S) : Option cm_R :=
  cm_bi (run 28 [.inr (.inl 1), .inl (s.1 1505)] s) fun z1 s1 =>
    if z1 = 48 then
      X 11 [some (.inr (.inl 15)), none, none, none] [.inl 1] s1
    else
      X 11 [some (.inr (.inl 15)), none, none, none] [.inl 0] s1
set_option maxRecDepth 100000 in
theorem cE_32_0 (run : cm_RN) (s : cm_S) : cm_lp run cm_k32 0 [some (.inr (.inl 15)), none, none, none] [] s = cF_32_0 run (cm_lp run cm_k32) s := (cm_lp_eq run cm_k32 0 _ _ s).trans rfl
/-- ScriptFront$Scanner.readNumber, from 10 on -/
def cF_32_11 (run : cm_RN) (X : cm_X) (o1 : Option cm_V) (o2 : Option cm_V) (o3 : Option cm_V) (y0 : Int) (s : cm_S) : Option cm_R :=
  cm_bi (run 28 [.inr (.inl 1), .inl (cm_w ((s.1 1505) + 1))] s) fun z1 s1 =>
    if y0 = 0 then
      X 29 [some (.inr (.inl 15)), some (.inl y0), some (.inl z1), o3] [.inr (.inl 15)] s1
    else
      cm_bi (run 31 [.inl z1] s1) fun z2 s2 =>
        if z2 = 0 then
          X 29 [some (.inr (.inl 15)), some (.inl y0), some (.inl z1), o3] [.inr (.inl 15)] s2
        else
          X 31 [some (.inr (.inl 15)), some (.inl y0), some (.inl z1), o3] [.inl 1, .inr (.inl 15)] s2
set_option maxRecDepth 100000 in
theorem cE_32_11 (run : cm_RN) (o1 : Option cm_V) (o2 : Option cm_V) (o3 : Option cm_V) (y0 : Int) (s : cm_S) : cm_lp run cm_k32 11 [some (.inr (.inl 15)), o1, o2, o3] [.inl y0] s = cF_32_11 run (cm_lp run cm_k32) o1 o2 o3 y0 s := (cm_lp_eq run cm_k32 11 _ _ s).trans rfl
/-- ScriptFront$Scanner.readNumber, from 27 on -/
def cF_32_29 (run : cm_RN) (X : cm_X) (x1 : Int) (x2 : Int) (o3 : Option cm_V) (s : cm_S) : Option cm_R :=
  X 31 [some (.inr (.inl 15)), some (.inl x1), some (.inl x2), o3] [.inl 0, .inr (.inl 15)] s
set_option maxRecDepth 100000 in
theorem cE_32_29 (run : cm_RN) (x1 : Int) (x2 : Int) (o3 : Option cm_V) (s : cm_S) : cm_lp run cm_k32 29 [some (.inr (.inl 15)), some (.inl x1), some (.inl x2), o3] [.inr (.inl 15)] s = cF_32_29 run (cm_lp run cm_k32) x1 x2 o3 s := (cm_lp_eq run cm_k32 29 _ _ s).trans rfl
/-- ScriptFront$Scanner.readNumber, from 28 on -/
def cF_32_31 (run : cm_RN) (X : cm_X) (x1 : Int) (x2 : Int) (o3 : Option cm_V) (y0 : Int) (s : cm_S) : Option cm_R :=
  cm_bv (run 33 [.inr (.inl 15), .inl y0] s) fun s1 =>
    if x1 = 0 then
      X 63 [some (.inr (.inl 15)), some (.inl x1), some (.inl x2), o3] [] s1
    else
      if x2 = 120 then
        cm_bi (run 35 [.inr (.inl 15), .inl (cm_w ((s1.1 1505) + 2)), .inl 1] s1) fun z2 s2 =>
          if z2 = (cm_w ((s2.1 1505) + 2)) then
            cm_bv (run 33 [.inr (.inl 15), .inl 1] (cm_p s2 1506 z2)) fun s3 =>
              cm_bi (run 28 [.inr (.inl 1), .inl (s3.1 1506)] s3) fun z4 s4 =>
                cm_bi (run 37 [.inl z4] s4) fun z5 s5 =>
                  cm_bv (run 33 [.inr (.inl 15), .inl z5] s5) fun s6 =>
                    some (.inl none, (cm_p s6 1503 3))
          else
            cm_bv (run 33 [.inr (.inl 15), .inl 0] (cm_p s2 1506 z2)) fun s7 =>
              cm_bi (run 28 [.inr (.inl 1), .inl (s7.1 1506)] s7) fun z8 s8 =>
                cm_bi (run 37 [.inl z8] s8) fun z9 s9 =>
                  cm_bv (run 33 [.inr (.inl 15), .inl z9] s9) fun s10 =>
                    some (.inl none, (cm_p s10 1503 3))
      else
        if x2 = 88 then
          cm_bi (run 35 [.inr (.inl 15), .inl (cm_w ((s1.1 1505) + 2)), .inl 1] s1) fun z11 s11 =>
            if z11 = (cm_w ((s11.1 1505) + 2)) then
              cm_bv (run 33 [.inr (.inl 15), .inl 1] (cm_p s11 1506 z11)) fun s12 =>
                cm_bi (run 28 [.inr (.inl 1), .inl (s12.1 1506)] s12) fun z13 s13 =>
                  cm_bi (run 37 [.inl z13] s13) fun z14 s14 =>
                    cm_bv (run 33 [.inr (.inl 15), .inl z14] s14) fun s15 =>
                      some (.inl none, (cm_p s15 1503 3))
            else
              cm_bv (run 33 [.inr (.inl 15), .inl 0] (cm_p s11 1506 z11)) fun s16 =>
                cm_bi (run 28 [.inr (.inl 1), .inl (s16.1 1506)] s16) fun z17 s17 =>
                  cm_bi (run 37 [.inl z17] s17) fun z18 s18 =>
                    cm_bv (run 33 [.inr (.inl 15), .inl z18] s18) fun s19 =>
                      some (.inl none, (cm_p s19 1503 3))
        else
          X 63 [some (.inr (.inl 15)), some (.inl x1), some (.inl x2), o3] [] s1
set_option maxRecDepth 100000 in
theorem cE_32_31 (run : cm_RN) (x1 : Int) (x2 : Int) (o3 : Option cm_V) (y0 : Int) (s : cm_S) : cm_lp run cm_k32 31 [some (.inr (.inl 15)), some (.inl x1), some (.inl x2), o3] [.inl y0, .inr (.inl 15)] s = cF_32_31 run (cm_lp run cm_k32) x1 x2 o3 y0 s := (cm_lp_eq run cm_k32 31 _ _ s).trans rfl
/-- ScriptFront$Scanner.readNumber, from 59 on -/
def cF_32_63 (run : cm_RN) (X : cm_X) (o1 : Option cm_V) (o2 : Option cm_V) (o3 : Option cm_V) (s : cm_S) : Option cm_R :=
  cm_bi (run 35 [.inr (.inl 15), .inl (s.1 1505), .inl 0] s) fun z1 s1 =>
    cm_bi (run 28 [.inr (.inl 1), .inl z1] (cm_p s1 1506 z1)) fun z2 s2 =>
      if z2 = 46 then
        cm_bi (run 35 [.inr (.inl 15), .inl (cm_w ((s2.1 1506) + 1)), .inl 0] s2) fun z3 s3 =>
          cm_bi (run 36 [.inr (.inl 15), .inl z3] (cm_p s3 1506 z3)) fun z4 s4 =>
            if z4 = (-1) then
              cm_bi (run 28 [.inr (.inl 1), .inl (s4.1 1506)] s4) fun z5 s5 =>
                cm_bi (run 37 [.inl z5] s5) fun z6 s6 =>
                  cm_bv (run 33 [.inr (.inl 15), .inl z6] s6) fun s7 =>
                    some (.inl none, (cm_p s7 1503 3))
            else
              cm_bi (run 35 [.inr (.inl 15), .inl z4, .inl 0] s4) fun z8 s8 =>
                if z8 = z4 then
                  cm_bv (run 33 [.inr (.inl 15), .inl 1] (cm_p s8 1506 z8)) fun s9 =>
                    cm_bi (run 28 [.inr (.inl 1), .inl (s9.1 1506)] s9) fun z10 s10 =>
                      cm_bi (run 37 [.inl z10] s10) fun z11 s11 =>
                        cm_bv (run 33 [.inr (.inl 15), .inl z11] s11) fun s12 =>
                          some (.inl none, (cm_p s12 1503 3))
                else
                  cm_bv (run 33 [.inr (.inl 15), .inl 0] (cm_p s8 1506 z8)) fun s13 =>
                    cm_bi (run 28 [.inr (.inl 1), .inl (s13.1 1506)] s13) fun z14 s14 =>
                      cm_bi (run 37 [.inl z14] s14) fun z15 s15 =>
                        cm_bv (run 33 [.inr (.inl 15), .inl z15] s15) fun s16 =>
                          some (.inl none, (cm_p s16 1503 3))
      else
        cm_bi (run 36 [.inr (.inl 15), .inl (s2.1 1506)] s2) fun z17 s17 =>
          if z17 = (-1) then
            cm_bi (run 28 [.inr (.inl 1), .inl (s17.1 1506)] s17) fun z18 s18 =>
              cm_bi (run 37 [.inl z18] s18) fun z19 s19 =>
                cm_bv (run 33 [.inr (.inl 15), .inl z19] s19) fun s20 =>
                  some (.inl none, (cm_p s20 1503 3))
          else
            cm_bi (run 35 [.inr (.inl 15), .inl z17, .inl 0] s17) fun z21 s21 =>
              if z21 = z17 then
                cm_bv (run 33 [.inr (.inl 15), .inl 1] (cm_p s21 1506 z21)) fun s22 =>
                  cm_bi (run 28 [.inr (.inl 1), .inl (s22.1 1506)] s22) fun z23 s23 =>
                    cm_bi (run 37 [.inl z23] s23) fun z24 s24 =>
                      cm_bv (run 33 [.inr (.inl 15), .inl z24] s24) fun s25 =>
                        some (.inl none, (cm_p s25 1503 3))
              else
                cm_bv (run 33 [.inr (.inl 15), .inl 0] (cm_p s21 1506 z21)) fun s26 =>
                  cm_bi (run 28 [.inr (.inl 1), .inl (s26.1 1506)] s26) fun z27 s27 =>
                    cm_bi (run 37 [.inl z27] s27) fun z28 s28 =>
                      cm_bv (run 33 [.inr (.inl 15), .inl z28] s28) fun s29 =>
                        some (.inl none, (cm_p s29 1503 3))
set_option maxRecDepth 100000 in
theorem cE_32_63 (run : cm_RN) (o1 : Option cm_V) (o2 : Option cm_V) (o3 : Option cm_V) (s : cm_S) : cm_lp run cm_k32 63 [some (.inr (.inl 15)), o1, o2, o3] [] s = cF_32_63 run (cm_lp run cm_k32) o1 o2 o3 s := (cm_lp_eq run cm_k32 63 _ _ s).trans rfl
/-- ScriptFront$Scanner.refuseIf, from 0 on -/
def cF_33_0 (run : cm_RN) (X : cm_X) (x1 : Int) (s : cm_S) : Option cm_R :=
  if x1 = 0 then
    some (.inl none, s)
  else
    cm_bv (run 34 [.inr (.inl 3), .inl 1, .inl (s.1 1505)] s) fun s1 =>
      some (.inl none, s1)
set_option maxRecDepth 100000 in
theorem cE_33_0 (run : cm_RN) (x1 : Int) (s : cm_S) : cm_lp run cm_k33 0 [some (.inr (.inl 15)), some (.inl x1)] [] s = cF_33_0 run (cm_lp run cm_k33) x1 s := (cm_lp_eq run cm_k33 0 _ _ s).trans rfl
/-- ScriptFront$Flaw.raise, from 0 on -/
def cF_34_0 (run : cm_RN) (X : cm_X) (x1 : Int) (x2 : Int) (s : cm_S) : Option cm_R :=
  some (.inr 0, (cm_p (cm_p s 300 x1) 301 x2))
set_option maxRecDepth 100000 in
theorem cE_34_0 (run : cm_RN) (x1 : Int) (x2 : Int) (s : cm_S) : cm_lp run cm_k34 0 [some (.inr (.inl 3)), some (.inl x1), some (.inl x2)] [] s = cF_34_0 run (cm_lp run cm_k34) x1 x2 s := (cm_lp_eq run cm_k34 0 _ _ s).trans rfl
/-- ScriptFront$Scanner.behindDigits, from 0 on -/
def cF_35_0 (run : cm_RN) (X : cm_X) (x1 : Int) (x2 : Int) (s : cm_S) : Option cm_R :=
  X 5 [some (.inr (.inl 15)), some (.inl x1), some (.inl x2), some (.inl x1), some (.inl 0), none, none] [] s
set_option maxRecDepth 100000 in
theorem cE_35_0 (run : cm_RN) (x1 : Int) (x2 : Int) (s : cm_S) : cm_lp run cm_k35 0 [some (.inr (.inl 15)), some (.inl x1), some (.inl x2), none, none, none, none] [] s = cF_35_0 run (cm_lp run cm_k35) x1 x2 s := (cm_lp_eq run cm_k35 0 _ _ s).trans rfl
/-- ScriptFront$Scanner.behindDigits, from 4 on -/
def cF_35_5 (run : cm_RN) (X : cm_X) (o1 : Option cm_V) (x2 : Int) (x3 : Int) (x4 : Int) (o5 : Option cm_V) (o6 : Option cm_V) (s : cm_S) : Option cm_R :=
  if x4 < 480 then
    cm_bi (run 28 [.inr (.inl 1), .inl x3] s) fun z1 s1 =>
      if z1 < 97 then
        if z1 < 65 then
          cm_bi (run 31 [.inl z1] s1) fun z2 s2 =>
            if z2 = 0 then
              if x2 = 0 then
                some (.inl (some (.inl x3)), s2)
              else
                some (.inl (some (.inl x3)), s2)
            else
              X 5 [some (.inr (.inl 15)), o1, some (.inl x2), some (.inl (cm_w (x3 + 1))), some (.inl (cm_w (x4 + 1))), some (.inl z1), some (.inl 0)] [] s2
        else
          if 70 < z1 then
            cm_bi (run 31 [.inl z1] s1) fun z3 s3 =>
              if z3 = 0 then
                if x2 = 0 then
                  some (.inl (some (.inl x3)), s3)
                else
                  some (.inl (some (.inl x3)), s3)
              else
                X 5 [some (.inr (.inl 15)), o1, some (.inl x2), some (.inl (cm_w (x3 + 1))), some (.inl (cm_w (x4 + 1))), some (.inl z1), some (.inl 0)] [] s3
          else
            cm_bi (run 31 [.inl z1] s1) fun z4 s4 =>
              if z4 = 0 then
                if x2 = 0 then
                  some (.inl (some (.inl x3)), s4)
                else
                  X 5 [some (.inr (.inl 15)), o1, some (.inl x2), some (.inl (cm_w (x3 + 1))), some (.inl (cm_w (x4 + 1))), some (.inl z1), some (.inl 1)] [] s4
              else
                X 5 [some (.inr (.inl 15)), o1, some (.inl x2), some (.inl (cm_w (x3 + 1))), some (.inl (cm_w (x4 + 1))), some (.inl z1), some (.inl 1)] [] s4
      else
        if 102 < z1 then
          if z1 < 65 then
            cm_bi (run 31 [.inl z1] s1) fun z5 s5 =>
              if z5 = 0 then
                if x2 = 0 then
                  some (.inl (some (.inl x3)), s5)
                else
                  some (.inl (some (.inl x3)), s5)
              else
                X 5 [some (.inr (.inl 15)), o1, some (.inl x2), some (.inl (cm_w (x3 + 1))), some (.inl (cm_w (x4 + 1))), some (.inl z1), some (.inl 0)] [] s5
          else
            if 70 < z1 then
              cm_bi (run 31 [.inl z1] s1) fun z6 s6 =>
                if z6 = 0 then
                  if x2 = 0 then
                    some (.inl (some (.inl x3)), s6)
                  else
                    some (.inl (some (.inl x3)), s6)
                else
                  X 5 [some (.inr (.inl 15)), o1, some (.inl x2), some (.inl (cm_w (x3 + 1))), some (.inl (cm_w (x4 + 1))), some (.inl z1), some (.inl 0)] [] s6
            else
              cm_bi (run 31 [.inl z1] s1) fun z7 s7 =>
                if z7 = 0 then
                  if x2 = 0 then
                    some (.inl (some (.inl x3)), s7)
                  else
                    X 5 [some (.inr (.inl 15)), o1, some (.inl x2), some (.inl (cm_w (x3 + 1))), some (.inl (cm_w (x4 + 1))), some (.inl z1), some (.inl 1)] [] s7
                else
                  X 5 [some (.inr (.inl 15)), o1, some (.inl x2), some (.inl (cm_w (x3 + 1))), some (.inl (cm_w (x4 + 1))), some (.inl z1), some (.inl 1)] [] s7
        else
          cm_bi (run 31 [.inl z1] s1) fun z8 s8 =>
            if z8 = 0 then
              if x2 = 0 then
                some (.inl (some (.inl x3)), s8)
              else
                X 5 [some (.inr (.inl 15)), o1, some (.inl x2), some (.inl (cm_w (x3 + 1))), some (.inl (cm_w (x4 + 1))), some (.inl z1), some (.inl 1)] [] s8
            else
              X 5 [some (.inr (.inl 15)), o1, some (.inl x2), some (.inl (cm_w (x3 + 1))), some (.inl (cm_w (x4 + 1))), some (.inl z1), some (.inl 1)] [] s8
  else
    some (.inl (some (.inl x3)), s)
set_option maxRecDepth 100000 in
theorem cE_35_5 (run : cm_RN) (o1 : Option cm_V) (x2 : Int) (x3 : Int) (x4 : Int) (o5 : Option cm_V) (o6 : Option cm_V) (s : cm_S) : cm_lp run cm_k35 5 [some (.inr (.inl 15)), o1, some (.inl x2), some (.inl x3), some (.inl x4), o5, o6] [] s = cF_35_5 run (cm_lp run cm_k35) o1 x2 x3 x4 o5 o6 s := (cm_lp_eq run cm_k35 5 _ _ s).trans rfl
/-- ScriptFront$Scanner.exponentPlace, from 0 on -/
def cF_36_0 (run : cm_RN) (X : cm_X) (x1 : Int) (s : cm_S) : Option cm_R :=
  cm_bi (run 28 [.inr (.inl 1), .inl x1] s) fun z1 s1 =>
    if z1 = 101 then
      cm_bi (run 28 [.inr (.inl 1), .inl (cm_w (x1 + 1))] s1) fun z2 s2 =>
        if z2 = 43 then
          some (.inl (some (.inl (cm_w (x1 + 2)))), s2)
        else
          if z2 = 45 then
            some (.inl (some (.inl (cm_w (x1 + 2)))), s2)
          else
            some (.inl (some (.inl (cm_w (x1 + 1)))), s2)
    else
      if z1 = 69 then
        cm_bi (run 28 [.inr (.inl 1), .inl (cm_w (x1 + 1))] s1) fun z3 s3 =>
          if z3 = 43 then
            some (.inl (some (.inl (cm_w (x1 + 2)))), s3)
          else
            if z3 = 45 then
              some (.inl (some (.inl (cm_w (x1 + 2)))), s3)
            else
              some (.inl (some (.inl (cm_w (x1 + 1)))), s3)
      else
        some (.inl (some (.inl (-1))), s1)
set_option maxRecDepth 100000 in
theorem cE_36_0 (run : cm_RN) (x1 : Int) (s : cm_S) : cm_lp run cm_k36 0 [some (.inr (.inl 15)), some (.inl x1), none, none] [] s = cF_36_0 run (cm_lp run cm_k36) x1 s := (cm_lp_eq run cm_k36 0 _ _ s).trans rfl
/-- ScriptFront$Tape.isNameChar, from 0 on -/
def cF_37_0 (run : cm_RN) (X : cm_X) (x0 : Int) (s : cm_S) : Option cm_R :=
  if x0 < 97 then
    if x0 < 65 then
      if x0 < 48 then
        if x0 = 36 then
          some (.inl (some (.inl 1)), s)
        else
          if x0 = 95 then
            some (.inl (some (.inl 1)), s)
          else
            some (.inl (some (.inl 0)), s)
      else
        if 57 < x0 then
          if x0 = 36 then
            some (.inl (some (.inl 1)), s)
          else
            if x0 = 95 then
              some (.inl (some (.inl 1)), s)
            else
              some (.inl (some (.inl 0)), s)
        else
          some (.inl (some (.inl 1)), s)
    else
      if 90 < x0 then
        if x0 < 48 then
          if x0 = 36 then
            some (.inl (some (.inl 1)), s)
          else
            if x0 = 95 then
              some (.inl (some (.inl 1)), s)
            else
              some (.inl (some (.inl 0)), s)
        else
          if 57 < x0 then
            if x0 = 36 then
              some (.inl (some (.inl 1)), s)
            else
              if x0 = 95 then
                some (.inl (some (.inl 1)), s)
              else
                some (.inl (some (.inl 0)), s)
          else
            some (.inl (some (.inl 1)), s)
      else
        some (.inl (some (.inl 1)), s)
  else
    if 122 < x0 then
      if x0 < 65 then
        if x0 < 48 then
          if x0 = 36 then
            some (.inl (some (.inl 1)), s)
          else
            if x0 = 95 then
              some (.inl (some (.inl 1)), s)
            else
              some (.inl (some (.inl 0)), s)
        else
          if 57 < x0 then
            if x0 = 36 then
              some (.inl (some (.inl 1)), s)
            else
              if x0 = 95 then
                some (.inl (some (.inl 1)), s)
              else
                some (.inl (some (.inl 0)), s)
          else
            some (.inl (some (.inl 1)), s)
      else
        if 90 < x0 then
          if x0 < 48 then
            if x0 = 36 then
              some (.inl (some (.inl 1)), s)
            else
              if x0 = 95 then
                some (.inl (some (.inl 1)), s)
              else
                some (.inl (some (.inl 0)), s)
          else
            if 57 < x0 then
              if x0 = 36 then
                some (.inl (some (.inl 1)), s)
              else
                if x0 = 95 then
                  some (.inl (some (.inl 1)), s)
                else
                  some (.inl (some (.inl 0)), s)
            else
              some (.inl (some (.inl 1)), s)
        else
          some (.inl (some (.inl 1)), s)
    else
      some (.inl (some (.inl 1)), s)
set_option maxRecDepth 100000 in
theorem cE_37_0 (run : cm_RN) (x0 : Int) (s : cm_S) : cm_lp run cm_k37 0 [some (.inl x0), none] [] s = cF_37_0 run (cm_lp run cm_k37) x0 s := (cm_lp_eq run cm_k37 0 _ _ s).trans rfl
/-- ScriptFront$Scanner.readName, from 0 on -/
def cF_38_0 (run : cm_RN) (X : cm_X) (s : cm_S) : Option cm_R :=
  X 7 [some (.inr (.inl 15)), some (.inl 0)] [] (cm_p s 1506 (s.1 1505))
set_option maxRecDepth 100000 in
theorem cE_38_0 (run : cm_RN) (s : cm_S) : cm_lp run cm_k38 0 [some (.inr (.inl 15)), none] [] s = cF_38_0 run (cm_lp run cm_k38) s := (cm_lp_eq run cm_k38 0 _ _ s).trans rfl
/-- ScriptFront$Scanner.readName, from 6 on -/
def cF_38_7 (run : cm_RN) (X : cm_X) (x1 : Int) (s : cm_S) : Option cm_R :=
  if x1 < 480 then
    cm_bi (run 28 [.inr (.inl 1), .inl (s.1 1506)] s) fun z1 s1 =>
      cm_bi (run 37 [.inl z1] s1) fun z2 s2 =>
        if z2 = 0 then
          cm_bi (run 39 [.inr (.inl 15)] s2) fun z3 s3 =>
            if z3 = 0 then
              some (.inl none, (cm_p (cm_p s3 1504 z3) 1503 1))
            else
              some (.inl none, (cm_p (cm_p s3 1504 z3) 1503 2))
        else
          X 7 [some (.inr (.inl 15)), some (.inl (cm_w (x1 + 1)))] [] (cm_p s2 1506 (cm_w ((s2.1 1506) + 1)))
  else
    cm_bi (run 39 [.inr (.inl 15)] s) fun z4 s4 =>
      if z4 = 0 then
        some (.inl none, (cm_p (cm_p s4 1504 z4) 1503 1))
      else
        some (.inl none, (cm_p (cm_p s4 1504 z4) 1503 2))
set_option maxRecDepth 100000 in
theorem cE_38_7 (run : cm_RN) (x1 : Int) (s : cm_S) : cm_lp run cm_k38 7 [some (.inr (.inl 15)), some (.inl x1)] [] s = cF_38_7 run (cm_lp run cm_k38) x1 s := (cm_lp_eq run cm_k38 7 _ _ s).trans rfl
/-- ScriptFront$Scanner.wordCode, from 0 on -/
def cF_39_0 (run : cm_RN) (X : cm_X) (s : cm_S) : Option cm_R :=
  cm_bi (run 40 [.inr (.inl 15)] s) fun z1 s1 =>
    if z1 < 2 then
      some (.inl (some (.inl 0)), s1)
    else
      cm_bi (run 40 [.inr (.inl 15)] s1) fun z2 s2 =>
        if 10 < z2 then
          some (.inl (some (.inl 0)), s2)
        else
          X 17 [some (.inr (.inl 15)), some (.inl 1), some (.inl 0), some (.inl 0), none] [] s2
set_option maxRecDepth 100000 in
theorem cE_39_0 (run : cm_RN) (s : cm_S) : cm_lp run cm_k39 0 [some (.inr (.inl 15)), none, none, none, none] [] s = cF_39_0 run (cm_lp run cm_k39) s := (cm_lp_eq run cm_k39 0 _ _ s).trans rfl
/-- ScriptFront$Scanner.wordCode, from 16 on -/
def cF_39_17 (run : cm_RN) (X : cm_X) (x1 : Int) (x2 : Int) (x3 : Int) (o4 : Option cm_V) (s : cm_S) : Option cm_R :=
  if x3 < (cm_kn 1001) then
    if (0 : Int) ≤ x3 ∧ x3 < cm_kn 1001 then
      if (cm_ka 1001 x3) = 32 then
        cm_bi (run 40 [.inr (.inl 15)] s) fun z1 s1 =>
          if x2 = z1 then
            some (.inl (some (.inl x1)), s1)
          else
            X 17 [some (.inr (.inl 15)), some (.inl (cm_w (x1 + 1))), some (.inl 0), some (.inl (cm_w (x3 + 1))), some (.inl (cm_ka 1001 x3))] [] s1
      else
        if x2 = (-1) then
          X 17 [some (.inr (.inl 15)), some (.inl x1), some (.inl (-1)), some (.inl (cm_w (x3 + 1))), some (.inl (cm_ka 1001 x3))] [] s
        else
          cm_bi (run 28 [.inr (.inl 1), .inl (cm_w ((s.1 1505) + x2))] s) fun z2 s2 =>
            if z2 = (cm_ka 1001 x3) then
              X 17 [some (.inr (.inl 15)), some (.inl x1), some (.inl (cm_w (x2 + 1))), some (.inl (cm_w (x3 + 1))), some (.inl (cm_ka 1001 x3))] [] s2
            else
              X 17 [some (.inr (.inl 15)), some (.inl x1), some (.inl (-1)), some (.inl (cm_w (x3 + 1))), some (.inl (cm_ka 1001 x3))] [] s2
    else none
  else
    some (.inl (some (.inl 0)), s)
set_option maxRecDepth 100000 in
theorem cE_39_17 (run : cm_RN) (x1 : Int) (x2 : Int) (x3 : Int) (o4 : Option cm_V) (s : cm_S) : cm_lp run cm_k39 17 [some (.inr (.inl 15)), some (.inl x1), some (.inl x2), some (.inl x3), o4] [] s = cF_39_17 run (cm_lp run cm_k39) x1 x2 x3 o4 s := (cm_lp_eq run cm_k39 17 _ _ s).trans rfl
/-- ScriptFront$Scanner.length, from 0 on -/
def cF_40_0 (run : cm_RN) (X : cm_X) (s : cm_S) : Option cm_R :=
  some (.inl (some (.inl (cm_w ((s.1 1506) - (s.1 1505))))), s)
set_option maxRecDepth 100000 in
theorem cE_40_0 (run : cm_RN) (s : cm_S) : cm_lp run cm_k40 0 [some (.inr (.inl 15))] [] s = cF_40_0 run (cm_lp run cm_k40) s := (cm_lp_eq run cm_k40 0 _ _ s).trans rfl
/-- ScriptFront$Scanner.readString, from 0 on -/
def cF_42_0 (run : cm_RN) (X : cm_X) (x1 : Int) (s : cm_S) : Option cm_R :=
  X 8 [some (.inr (.inl 15)), some (.inl x1), some (.inl (cm_w ((s.1 1505) + 1))), some (.inl 0), none] [] s
set_option maxRecDepth 100000 in
theorem cE_42_0 (run : cm_RN) (x1 : Int) (s : cm_S) : cm_lp run cm_k42 0 [some (.inr (.inl 15)), some (.inl x1), none, none, none] [] s = cF_42_0 run (cm_lp run cm_k42) x1 s := (cm_lp_eq run cm_k42 0 _ _ s).trans rfl
/-- ScriptFront$Scanner.readString, from 7 on -/
def cF_42_8 (run : cm_RN) (X : cm_X) (x1 : Int) (x2 : Int) (x3 : Int) (o4 : Option cm_V) (s : cm_S) : Option cm_R :=
  if x3 < 480 then
    cm_bi (run 28 [.inr (.inl 1), .inl x2] s) fun z1 s1 =>
      if z1 = x1 then
        some (.inl none, (cm_p (cm_p s1 1506 (cm_w (x2 + 1))) 1503 4))
      else
        cm_bi (run 28 [.inr (.inl 1), .inl x2] s1) fun z2 s2 =>
          if z2 = (-1) then
            X 30 [some (.inr (.inl 15)), some (.inl x1), some (.inl x2), some (.inl x3), some (.inl z2)] [.inr (.inl 15)] s2
          else
            cm_bi (run 11 [.inl z2] s2) fun z3 s3 =>
              if z3 = 0 then
                cm_bv (run 33 [.inr (.inl 15), .inl 0] s3) fun s4 =>
                  if z2 = 92 then
                    cm_bi (run 28 [.inr (.inl 1), .inl (cm_w (x2 + 1))] s4) fun z5 s5 =>
                      if z5 = (-1) then
                        cm_bv (run 33 [.inr (.inl 15), .inl 1] s5) fun s6 =>
                          cm_bi (run 28 [.inr (.inl 1), .inl (cm_w (x2 + 1))] s6) fun z7 s7 =>
                            if z7 = 13 then
                              cm_bi (run 28 [.inr (.inl 1), .inl (cm_w ((cm_w (x2 + 1)) + 1))] s7) fun z8 s8 =>
                                if z8 = 10 then
                                  X 8 [some (.inr (.inl 15)), some (.inl x1), some (.inl (cm_w ((cm_w (x2 + 1)) + 2))), some (.inl (cm_w (x3 + 1))), some (.inl z2)] [] s8
                                else
                                  X 8 [some (.inr (.inl 15)), some (.inl x1), some (.inl (cm_w ((cm_w (x2 + 1)) + 1))), some (.inl (cm_w (x3 + 1))), some (.inl z2)] [] s8
                            else
                              X 8 [some (.inr (.inl 15)), some (.inl x1), some (.inl (cm_w ((cm_w (x2 + 1)) + 1))), some (.inl (cm_w (x3 + 1))), some (.inl z2)] [] s7
                      else
                        cm_bv (run 33 [.inr (.inl 15), .inl 0] s5) fun s9 =>
                          cm_bi (run 28 [.inr (.inl 1), .inl (cm_w (x2 + 1))] s9) fun z10 s10 =>
                            if z10 = 13 then
                              cm_bi (run 28 [.inr (.inl 1), .inl (cm_w ((cm_w (x2 + 1)) + 1))] s10) fun z11 s11 =>
                                if z11 = 10 then
                                  X 8 [some (.inr (.inl 15)), some (.inl x1), some (.inl (cm_w ((cm_w (x2 + 1)) + 2))), some (.inl (cm_w (x3 + 1))), some (.inl z2)] [] s11
                                else
                                  X 8 [some (.inr (.inl 15)), some (.inl x1), some (.inl (cm_w ((cm_w (x2 + 1)) + 1))), some (.inl (cm_w (x3 + 1))), some (.inl z2)] [] s11
                            else
                              X 8 [some (.inr (.inl 15)), some (.inl x1), some (.inl (cm_w ((cm_w (x2 + 1)) + 1))), some (.inl (cm_w (x3 + 1))), some (.inl z2)] [] s10
                  else
                    X 8 [some (.inr (.inl 15)), some (.inl x1), some (.inl (cm_w (x2 + 1))), some (.inl (cm_w (x3 + 1))), some (.inl z2)] [] s4
              else
                X 30 [some (.inr (.inl 15)), some (.inl x1), some (.inl x2), some (.inl x3), some (.inl z2)] [.inr (.inl 15)] s3
  else
    some (.inl none, (cm_p (cm_p s 1506 (cm_w (x2 + 1))) 1503 4))
set_option maxRecDepth 100000 in
theorem cE_42_8 (run : cm_RN) (x1 : Int) (x2 : Int) (x3 : Int) (o4 : Option cm_V) (s : cm_S) : cm_lp run cm_k42 8 [some (.inr (.inl 15)), some (.inl x1), some (.inl x2), some (.inl x3), o4] [] s = cF_42_8 run (cm_lp run cm_k42) x1 x2 x3 o4 s := (cm_lp_eq run cm_k42 8 _ _ s).trans rfl
/-- ScriptFront$Scanner.readString, from 28 on -/
def cF_42_30 (run : cm_RN) (X : cm_X) (x1 : Int) (x2 : Int) (x3 : Int) (x4 : Int) (s : cm_S) : Option cm_R :=
  cm_bv (run 33 [.inr (.inl 15), .inl 1] s) fun s1 =>
    if x4 = 92 then
      cm_bi (run 28 [.inr (.inl 1), .inl (cm_w (x2 + 1))] s1) fun z2 s2 =>
        if z2 = (-1) then
          cm_bv (run 33 [.inr (.inl 15), .inl 1] s2) fun s3 =>
            cm_bi (run 28 [.inr (.inl 1), .inl (cm_w (x2 + 1))] s3) fun z4 s4 =>
              if z4 = 13 then
                cm_bi (run 28 [.inr (.inl 1), .inl (cm_w ((cm_w (x2 + 1)) + 1))] s4) fun z5 s5 =>
                  if z5 = 10 then
                    X 8 [some (.inr (.inl 15)), some (.inl x1), some (.inl (cm_w ((cm_w (x2 + 1)) + 2))), some (.inl (cm_w (x3 + 1))), some (.inl x4)] [] s5
                  else
                    X 8 [some (.inr (.inl 15)), some (.inl x1), some (.inl (cm_w ((cm_w (x2 + 1)) + 1))), some (.inl (cm_w (x3 + 1))), some (.inl x4)] [] s5
              else
                X 8 [some (.inr (.inl 15)), some (.inl x1), some (.inl (cm_w ((cm_w (x2 + 1)) + 1))), some (.inl (cm_w (x3 + 1))), some (.inl x4)] [] s4
        else
          cm_bv (run 33 [.inr (.inl 15), .inl 0] s2) fun s6 =>
            cm_bi (run 28 [.inr (.inl 1), .inl (cm_w (x2 + 1))] s6) fun z7 s7 =>
              if z7 = 13 then
                cm_bi (run 28 [.inr (.inl 1), .inl (cm_w ((cm_w (x2 + 1)) + 1))] s7) fun z8 s8 =>
                  if z8 = 10 then
                    X 8 [some (.inr (.inl 15)), some (.inl x1), some (.inl (cm_w ((cm_w (x2 + 1)) + 2))), some (.inl (cm_w (x3 + 1))), some (.inl x4)] [] s8
                  else
                    X 8 [some (.inr (.inl 15)), some (.inl x1), some (.inl (cm_w ((cm_w (x2 + 1)) + 1))), some (.inl (cm_w (x3 + 1))), some (.inl x4)] [] s8
              else
                X 8 [some (.inr (.inl 15)), some (.inl x1), some (.inl (cm_w ((cm_w (x2 + 1)) + 1))), some (.inl (cm_w (x3 + 1))), some (.inl x4)] [] s7
    else
      X 8 [some (.inr (.inl 15)), some (.inl x1), some (.inl (cm_w (x2 + 1))), some (.inl (cm_w (x3 + 1))), some (.inl x4)] [] s1
set_option maxRecDepth 100000 in
theorem cE_42_30 (run : cm_RN) (x1 : Int) (x2 : Int) (x3 : Int) (x4 : Int) (s : cm_S) : cm_lp run cm_k42 30 [some (.inr (.inl 15)), some (.inl x1), some (.inl x2), some (.inl x3), some (.inl x4)] [.inr (.inl 15)] s = cF_42_30 run (cm_lp run cm_k42) x1 x2 x3 x4 s := (cm_lp_eq run cm_k42 30 _ _ s).trans rfl
/-- ScriptFront$Scanner.readSign, from 0 on -/
def cF_43_0 (run : cm_RN) (X : cm_X) (s : cm_S) : Option cm_R :=
  cm_bi (run 28 [.inr (.inl 1), .inl (s.1 1505)] s) fun z1 s1 =>
    if z1 = 47 then
      cm_bi (run 28 [.inr (.inl 1), .inl (cm_w ((s1.1 1505) + 1))] s1) fun z2 s2 =>
        if z2 = 42 then
          cm_bv (run 33 [.inr (.inl 15), .inl 1] s2) fun s3 =>
            X 41 [some (.inr (.inl 15)), some (.inl z1), some (.inl 1), some (.inl 0)] [] (cm_p s3 1506 (cm_w ((s3.1 1505) + 1)))
        else
          cm_bi (run 44 [.inl z1] s2) fun z4 s4 =>
            if z4 = 0 then
              cm_bv (run 33 [.inr (.inl 15), .inl 1] s4) fun s5 =>
                X 41 [some (.inr (.inl 15)), some (.inl z1), some (.inl 0), some (.inl 0)] [] (cm_p s5 1506 (cm_w ((s5.1 1505) + 1)))
            else
              cm_bv (run 33 [.inr (.inl 15), .inl 0] s4) fun s6 =>
                X 41 [some (.inr (.inl 15)), some (.inl z1), some (.inl 0), some (.inl 0)] [] (cm_p s6 1506 (cm_w ((s6.1 1505) + 1)))
    else
      cm_bi (run 44 [.inl z1] s1) fun z7 s7 =>
        if z7 = 0 then
          cm_bv (run 33 [.inr (.inl 15), .inl 1] s7) fun s8 =>
            X 41 [some (.inr (.inl 15)), some (.inl z1), some (.inl 0), some (.inl 0)] [] (cm_p s8 1506 (cm_w ((s8.1 1505) + 1)))
        else
          cm_bv (run 33 [.inr (.inl 15), .inl 0] s7) fun s9 =>
            X 41 [some (.inr (.inl 15)), some (.inl z1), some (.inl 0), some (.inl 0)] [] (cm_p s9 1506 (cm_w ((s9.1 1505) + 1)))
set_option maxRecDepth 100000 in
theorem cE_43_0 (run : cm_RN) (s : cm_S) : cm_lp run cm_k43 0 [some (.inr (.inl 15)), none, none, none] [] s = cF_43_0 run (cm_lp run cm_k43) s := (cm_lp_eq run cm_k43 0 _ _ s).trans rfl
/-- ScriptFront$Scanner.readSign, from 40 on -/
def cF_43_41 (run : cm_RN) (X : cm_X) (x1 : Int) (o2 : Option cm_V) (x3 : Int) (s : cm_S) : Option cm_R :=
  if x3 < 3 then
    cm_bi (run 28 [.inr (.inl 1), .inl (s.1 1506)] s) fun z1 s1 =>
      if z1 = (-1) then
        some (.inl none, (cm_p (cm_p s1 1504 x1) 1503 6))
      else
        cm_bi (run 28 [.inr (.inl 1), .inl (s1.1 1506)] s1) fun z2 s2 =>
          cm_bi (run 44 [.inl (cm_or (cm_shl x1 8) z2)] s2) fun z3 s3 =>
            if z3 = 0 then
              some (.inl none, (cm_p (cm_p s3 1504 x1) 1503 6))
            else
              cm_bi (run 28 [.inr (.inl 1), .inl (s3.1 1506)] s3) fun z4 s4 =>
                X 41 [some (.inr (.inl 15)), some (.inl (cm_or (cm_shl x1 8) z4)), o2, some (.inl (cm_w (x3 + 1)))] [] (cm_p s4 1506 (cm_w ((s4.1 1506) + 1)))
  else
    some (.inl none, (cm_p (cm_p s 1504 x1) 1503 6))
set_option maxRecDepth 100000 in
theorem cE_43_41 (run : cm_RN) (x1 : Int) (o2 : Option cm_V) (x3 : Int) (s : cm_S) : cm_lp run cm_k43 41 [some (.inr (.inl 15)), some (.inl x1), o2, some (.inl x3)] [] s = cF_43_41 run (cm_lp run cm_k43) x1 o2 x3 s := (cm_lp_eq run cm_k43 41 _ _ s).trans rfl
/-- ScriptFront$Token.isSign, from 0 on -/
def cF_44_0 (run : cm_RN) (X : cm_X) (x0 : Int) (s : cm_S) : Option cm_R :=
  X 3 [some (.inl x0), some (.inl 0)] [] s
set_option maxRecDepth 100000 in
theorem cE_44_0 (run : cm_RN) (x0 : Int) (s : cm_S) : cm_lp run cm_k44 0 [some (.inl x0), none] [] s = cF_44_0 run (cm_lp run cm_k44) x0 s := (cm_lp_eq run cm_k44 0 _ _ s).trans rfl
/-- ScriptFront$Token.isSign, from 2 on -/
def cF_44_3 (run : cm_RN) (X : cm_X) (x0 : Int) (x1 : Int) (s : cm_S) : Option cm_R :=
  if x1 < (cm_kn 1039) then
    if (0 : Int) ≤ x1 ∧ x1 < cm_kn 1039 then
      if (cm_ka 1039 x1) = x0 then
        some (.inl (some (.inl 1)), s)
      else
        X 3 [some (.inl x0), some (.inl (cm_w (x1 + 1)))] [] s
    else none
  else
    some (.inl (some (.inl 0)), s)
set_option maxRecDepth 100000 in
theorem cE_44_3 (run : cm_RN) (x0 : Int) (x1 : Int) (s : cm_S) : cm_lp run cm_k44 3 [some (.inl x0), some (.inl x1)] [] s = cF_44_3 run (cm_lp run cm_k44) x0 x1 s := (cm_lp_eq run cm_k44 3 _ _ s).trans rfl
/-- ScriptFront$Draft.make, from 0 on -/
def cF_45_0 (run : cm_RN) (X : cm_X) (x1 : Int) (x2 : Int) (x3 : Int) (x4 : Int) (s : cm_S) : Option cm_R :=
  if (s.1 410) < 0 then
    cm_bv (run 34 [.inr (.inl 3), .inl 3, .inl x2] s) fun s1 =>
      some (.inl (some (.inl 0)), s1)
  else
    if (s.1 410) < 512 then
      if (0 : Int) ≤ (s.1 410) ∧ (s.1 410) < 512 then
        (if (0 : Int) ≤ (s.1 410) ∧ (s.1 410) < 512 then
          (if (0 : Int) ≤ (s.1 410) ∧ (s.1 410) < 512 then
            (if (0 : Int) ≤ (s.1 410) ∧ (s.1 410) < 512 then
              (if (0 : Int) ≤ (s.1 410) ∧ (s.1 410) < 512 then
                (if (0 : Int) ≤ (s.1 410) ∧ (s.1 410) < 512 then
                  (if (0 : Int) ≤ (s.1 410) ∧ (s.1 410) < 512 then
                    (if (0 : Int) ≤ (s.1 410) ∧ (s.1 410) < 512 then
                      (some (.inl (some (.inl (s.1 410))), (cm_p (cm_q (cm_q (cm_q (cm_q (cm_q (cm_q (cm_q (cm_q s 5 (s.1 410) x1) 6 (s.1 410) x2) 7 (s.1 410) x3) 8 (s.1 410) x4) 9 (s.1 410) (-1)) 10 (s.1 410) (-1)) 11 (s.1 410) (-1)) 12 (s.1 410) (-1)) 410 (cm_w ((s.1 410) + 1)))))
                    else none)
                  else none)
                else none)
              else none)
            else none)
          else none)
        else none)
      else none
    else
      cm_bv (run 34 [.inr (.inl 3), .inl 3, .inl x2] s) fun s2 =>
        some (.inl (some (.inl 0)), s2)
set_option maxRecDepth 100000 in
theorem cE_45_0 (run : cm_RN) (x1 : Int) (x2 : Int) (x3 : Int) (x4 : Int) (s : cm_S) : cm_lp run cm_k45 0 [some (.inr (.inl 4)), some (.inl x1), some (.inl x2), some (.inl x3), some (.inl x4), none] [] s = cF_45_0 run (cm_lp run cm_k45) x1 x2 x3 x4 s := (cm_lp_eq run cm_k45 0 _ _ s).trans rfl
/-- ScriptFront$Parser.element, from 0 on -/
def cF_46_0 (run : cm_RN) (X : cm_X) (x1 : Int) (s : cm_S) : Option cm_R :=
  if (s.1 1504) = 12 then
    cm_bv (run 48 [.inr (.inl 14), .inl x1] s) fun s1 =>
      cm_bi (run 80 [.inr (.inl 14), .inl 20, .inl (cm_w (x1 + 1))] s1) fun z2 s2 =>
        some (.inl (some (.inl z2)), s2)
  else
    cm_bi (run 47 [.inr (.inl 14), .inl x1] s) fun z3 s3 =>
      some (.inl (some (.inl z3)), s3)
set_option maxRecDepth 100000 in
theorem cE_46_0 (run : cm_RN) (x1 : Int) (s : cm_S) : cm_lp run cm_k46 0 [some (.inr (.inl 14)), some (.inl x1)] [] s = cF_46_0 run (cm_lp run cm_k46) x1 s := (cm_lp_eq run cm_k46 0 _ _ s).trans rfl
/-- ScriptFront$Parser.statement, from 0 on -/
def cF_47_0 (run : cm_RN) (X : cm_X) (x1 : Int) (s : cm_S) : Option cm_R :=
  cm_bv (run 48 [.inr (.inl 14), .inl x1] s) fun s1 =>
    cm_bi (run 53 [.inr (.inl 14), .inl (cm_w (x1 + 1))] s1) fun z2 s2 =>
      cm_bi (run 108 [.inr (.inl 4), .inl z2] s2) fun z3 s3 =>
        cm_bi (run 109 [.inl z3] s3) fun z4 s4 =>
          if z4 = 0 then
            some (.inl (some (.inl z2)), s4)
          else
            cm_bv (run 110 [.inr (.inl 14)] s4) fun s5 =>
              some (.inl (some (.inl z2)), s5)
set_option maxRecDepth 100000 in
theorem cE_47_0 (run : cm_RN) (x1 : Int) (s : cm_S) : cm_lp run cm_k47 0 [some (.inr (.inl 14)), some (.inl x1), none] [] s = cF_47_0 run (cm_lp run cm_k47) x1 s := (cm_lp_eq run cm_k47 0 _ _ s).trans rfl
/-- ScriptFront$Parser.beginWithin, from 0 on -/
def cF_48_0 (run : cm_RN) (X : cm_X) (x1 : Int) (s : cm_S) : Option cm_R :=
  cm_bv (run 49 [.inr (.inl 15)] s) fun s1 =>
    if (s1.1 1503) = 0 then
      cm_bv (run 52 [.inr (.inl 14)] s1) fun s2 =>
        if x1 < 20 then
          some (.inl none, s2)
        else
          cm_bv (run 34 [.inr (.inl 3), .inl 3, .inl (s2.1 1505)] s2) fun s3 =>
            some (.inl none, s3)
    else
      if x1 < 20 then
        some (.inl none, s1)
      else
        cm_bv (run 34 [.inr (.inl 3), .inl 3, .inl (s1.1 1505)] s1) fun s4 =>
          some (.inl none, s4)
set_option maxRecDepth 100000 in
theorem cE_48_0 (run : cm_RN) (x1 : Int) (s : cm_S) : cm_lp run cm_k48 0 [some (.inr (.inl 14)), some (.inl x1)] [] s = cF_48_0 run (cm_lp run cm_k48) x1 s := (cm_lp_eq run cm_k48 0 _ _ s).trans rfl
/-- ScriptFront$Scanner.operandDue, from 0 on -/
def cF_49_0 (run : cm_RN) (X : cm_X) (s : cm_S) : Option cm_R :=
  if (s.1 1504) = 47 then
    cm_bv (run 50 [.inr (.inl 15)] s) fun s1 =>
      some (.inl none, s1)
  else
    if (s.1 1504) = 12093 then
      cm_bv (run 50 [.inr (.inl 15)] s) fun s2 =>
        some (.inl none, s2)
    else
      some (.inl none, s)
set_option maxRecDepth 100000 in
theorem cE_49_0 (run : cm_RN) (s : cm_S) : cm_lp run cm_k49 0 [some (.inr (.inl 15))] [] s = cF_49_0 run (cm_lp run cm_k49) s := (cm_lp_eq run cm_k49 0 _ _ s).trans rfl
/-- ScriptFront$Scanner.readPattern, from 0 on -/
def cF_50_0 (run : cm_RN) (X : cm_X) (s : cm_S) : Option cm_R :=
  X 10 [some (.inr (.inl 15)), some (.inl (cm_w ((s.1 1505) + 1))), some (.inl 0), some (.inl 0), none] [] s
set_option maxRecDepth 100000 in
theorem cE_50_0 (run : cm_RN) (s : cm_S) : cm_lp run cm_k50 0 [some (.inr (.inl 15)), none, none, none, none] [] s = cF_50_0 run (cm_lp run cm_k50) s := (cm_lp_eq run cm_k50 0 _ _ s).trans rfl
/-- ScriptFront$Scanner.readPattern, from 9 on -/
def cF_50_10 (run : cm_RN) (X : cm_X) (x1 : Int) (x2 : Int) (x3 : Int) (o4 : Option cm_V) (s : cm_S) : Option cm_R :=
  if x3 < 480 then
    if x2 = 0 then
      cm_bi (run 28 [.inr (.inl 1), .inl x1] s) fun z1 s1 =>
        if z1 = 47 then
          cm_bi (run 51 [.inr (.inl 15), .inl (cm_w (x1 + 1))] s1) fun z2 s2 =>
            cm_bi (run 28 [.inr (.inl 1), .inl z2] (cm_p s2 1506 z2)) fun z3 s3 =>
              cm_bi (run 37 [.inl z3] s3) fun z4 s4 =>
                cm_bv (run 33 [.inr (.inl 15), .inl z4] s4) fun s5 =>
                  some (.inl none, (cm_p (cm_p s5 1503 5) 1504 0))
        else
          X 22 [some (.inr (.inl 15)), some (.inl x1), some (.inl x2), some (.inl x3), o4] [] s1
    else
      X 22 [some (.inr (.inl 15)), some (.inl x1), some (.inl x2), some (.inl x3), o4] [] s
  else
    cm_bi (run 51 [.inr (.inl 15), .inl (cm_w (x1 + 1))] s) fun z6 s6 =>
      cm_bi (run 28 [.inr (.inl 1), .inl z6] (cm_p s6 1506 z6)) fun z7 s7 =>
        cm_bi (run 37 [.inl z7] s7) fun z8 s8 =>
          cm_bv (run 33 [.inr (.inl 15), .inl z8] s8) fun s9 =>
            some (.inl none, (cm_p (cm_p s9 1503 5) 1504 0))
set_option maxRecDepth 100000 in
theorem cE_50_10 (run : cm_RN) (x1 : Int) (x2 : Int) (x3 : Int) (o4 : Option cm_V) (s : cm_S) : cm_lp run cm_k50 10 [some (.inr (.inl 15)), some (.inl x1), some (.inl x2), some (.inl x3), o4] [] s = cF_50_10 run (cm_lp run cm_k50) x1 x2 x3 o4 s := (cm_lp_eq run cm_k50 10 _ _ s).trans rfl
/-- ScriptFront$Scanner.readPattern, from 20 on -/
def cF_50_22 (run : cm_RN) (X : cm_X) (x1 : Int) (x2 : Int) (x3 : Int) (o4 : Option cm_V) (s : cm_S) : Option cm_R :=
  cm_bi (run 28 [.inr (.inl 1), .inl x1] s) fun z1 s1 =>
    if z1 = 92 then
      cm_bi (run 28 [.inr (.inl 1), .inl (cm_w (x1 + 1))] s1) fun z2 s2 =>
        if z2 = (-1) then
          cm_bv (run 33 [.inr (.inl 15), .inl 1] s2) fun s3 =>
            X 10 [some (.inr (.inl 15)), some (.inl (cm_w ((cm_w (x1 + 1)) + 1))), some (.inl x2), some (.inl (cm_w (x3 + 1))), some (.inl z1)] [] s3
        else
          cm_bi (run 28 [.inr (.inl 1), .inl (cm_w (x1 + 1))] s2) fun z4 s4 =>
            cm_bi (run 11 [.inl z4] s4) fun z5 s5 =>
              if z5 = 0 then
                cm_bv (run 33 [.inr (.inl 15), .inl 0] s5) fun s6 =>
                  X 10 [some (.inr (.inl 15)), some (.inl (cm_w ((cm_w (x1 + 1)) + 1))), some (.inl x2), some (.inl (cm_w (x3 + 1))), some (.inl z1)] [] s6
              else
                cm_bv (run 33 [.inr (.inl 15), .inl 1] s5) fun s7 =>
                  X 10 [some (.inr (.inl 15)), some (.inl (cm_w ((cm_w (x1 + 1)) + 1))), some (.inl x2), some (.inl (cm_w (x3 + 1))), some (.inl z1)] [] s7
    else
      if z1 = 91 then
        X 39 [some (.inr (.inl 15)), some (.inl x1), some (.inl x2), some (.inl x3), some (.inl z1)] [] s1
      else
        if z1 = 93 then
          X 39 [some (.inr (.inl 15)), some (.inl x1), some (.inl x2), some (.inl x3), some (.inl z1)] [] s1
        else
          cm_bi (run 28 [.inr (.inl 1), .inl x1] s1) fun z8 s8 =>
            if z8 = (-1) then
              cm_bv (run 33 [.inr (.inl 15), .inl 1] s8) fun s9 =>
                X 10 [some (.inr (.inl 15)), some (.inl (cm_w (x1 + 1))), some (.inl x2), some (.inl (cm_w (x3 + 1))), some (.inl z1)] [] s9
            else
              cm_bi (run 28 [.inr (.inl 1), .inl x1] s8) fun z10 s10 =>
                cm_bi (run 11 [.inl z10] s10) fun z11 s11 =>
                  if z11 = 0 then
                    cm_bv (run 33 [.inr (.inl 15), .inl 0] s11) fun s12 =>
                      X 10 [some (.inr (.inl 15)), some (.inl (cm_w (x1 + 1))), some (.inl x2), some (.inl (cm_w (x3 + 1))), some (.inl z1)] [] s12
                  else
                    cm_bv (run 33 [.inr (.inl 15), .inl 1] s11) fun s13 =>
                      X 10 [some (.inr (.inl 15)), some (.inl (cm_w (x1 + 1))), some (.inl x2), some (.inl (cm_w (x3 + 1))), some (.inl z1)] [] s13
set_option maxRecDepth 100000 in
theorem cE_50_22 (run : cm_RN) (x1 : Int) (x2 : Int) (x3 : Int) (o4 : Option cm_V) (s : cm_S) : cm_lp run cm_k50 22 [some (.inr (.inl 15)), some (.inl x1), some (.inl x2), some (.inl x3), o4] [] s = cF_50_22 run (cm_lp run cm_k50) x1 x2 x3 o4 s := (cm_lp_eq run cm_k50 22 _ _ s).trans rfl
/-- ScriptFront$Scanner.readPattern, from 36 on -/
def cF_50_39 (run : cm_RN) (X : cm_X) (x1 : Int) (o2 : Option cm_V) (x3 : Int) (x4 : Int) (s : cm_S) : Option cm_R :=
  if x4 = 91 then
    cm_bi (run 28 [.inr (.inl 1), .inl x1] s) fun z1 s1 =>
      if z1 = (-1) then
        cm_bv (run 33 [.inr (.inl 15), .inl 1] s1) fun s2 =>
          X 10 [some (.inr (.inl 15)), some (.inl (cm_w (x1 + 1))), some (.inl 1), some (.inl (cm_w (x3 + 1))), some (.inl x4)] [] s2
      else
        cm_bi (run 28 [.inr (.inl 1), .inl x1] s1) fun z3 s3 =>
          cm_bi (run 11 [.inl z3] s3) fun z4 s4 =>
            if z4 = 0 then
              cm_bv (run 33 [.inr (.inl 15), .inl 0] s4) fun s5 =>
                X 10 [some (.inr (.inl 15)), some (.inl (cm_w (x1 + 1))), some (.inl 1), some (.inl (cm_w (x3 + 1))), some (.inl x4)] [] s5
            else
              cm_bv (run 33 [.inr (.inl 15), .inl 1] s4) fun s6 =>
                X 10 [some (.inr (.inl 15)), some (.inl (cm_w (x1 + 1))), some (.inl 1), some (.inl (cm_w (x3 + 1))), some (.inl x4)] [] s6
  else
    cm_bi (run 28 [.inr (.inl 1), .inl x1] s) fun z7 s7 =>
      if z7 = (-1) then
        cm_bv (run 33 [.inr (.inl 15), .inl 1] s7) fun s8 =>
          X 10 [some (.inr (.inl 15)), some (.inl (cm_w (x1 + 1))), some (.inl 0), some (.inl (cm_w (x3 + 1))), some (.inl x4)] [] s8
      else
        cm_bi (run 28 [.inr (.inl 1), .inl x1] s7) fun z9 s9 =>
          cm_bi (run 11 [.inl z9] s9) fun z10 s10 =>
            if z10 = 0 then
              cm_bv (run 33 [.inr (.inl 15), .inl 0] s10) fun s11 =>
                X 10 [some (.inr (.inl 15)), some (.inl (cm_w (x1 + 1))), some (.inl 0), some (.inl (cm_w (x3 + 1))), some (.inl x4)] [] s11
            else
              cm_bv (run 33 [.inr (.inl 15), .inl 1] s10) fun s12 =>
                X 10 [some (.inr (.inl 15)), some (.inl (cm_w (x1 + 1))), some (.inl 0), some (.inl (cm_w (x3 + 1))), some (.inl x4)] [] s12
set_option maxRecDepth 100000 in
theorem cE_50_39 (run : cm_RN) (x1 : Int) (o2 : Option cm_V) (x3 : Int) (x4 : Int) (s : cm_S) : cm_lp run cm_k50 39 [some (.inr (.inl 15)), some (.inl x1), o2, some (.inl x3), some (.inl x4)] [] s = cF_50_39 run (cm_lp run cm_k50) x1 o2 x3 x4 s := (cm_lp_eq run cm_k50 39 _ _ s).trans rfl
/-- ScriptFront$Scanner.behindFlags, from 0 on -/
def cF_51_0 (run : cm_RN) (X : cm_X) (x1 : Int) (s : cm_S) : Option cm_R :=
  X 9 [some (.inr (.inl 15)), some (.inl x1), some (.inl 0), some (.inl 0), some (.inl 0), some (.inl x1), none] [] s
set_option maxRecDepth 100000 in
theorem cE_51_0 (run : cm_RN) (x1 : Int) (s : cm_S) : cm_lp run cm_k51 0 [some (.inr (.inl 15)), some (.inl x1), none, none, none, none, none] [] s = cF_51_0 run (cm_lp run cm_k51) x1 s := (cm_lp_eq run cm_k51 0 _ _ s).trans rfl
/-- ScriptFront$Scanner.behindFlags, from 8 on -/
def cF_51_9 (run : cm_RN) (X : cm_X) (o1 : Option cm_V) (x2 : Int) (x3 : Int) (x4 : Int) (x5 : Int) (o6 : Option cm_V) (s : cm_S) : Option cm_R :=
  if (s.1 102) < x5 then
    some (.inl (some (.inl (s.1 102))), s)
  else
    cm_bi (run 28 [.inr (.inl 1), .inl x5] s) fun z1 s1 =>
      if z1 = 103 then
        if x2 = 0 then
          X 9 [some (.inr (.inl 15)), o1, some (.inl 1), some (.inl x3), some (.inl x4), some (.inl (cm_w (x5 + 1))), some (.inl z1)] [] s1
        else
          if z1 = 105 then
            if x3 = 0 then
              X 9 [some (.inr (.inl 15)), o1, some (.inl x2), some (.inl 1), some (.inl x4), some (.inl (cm_w (x5 + 1))), some (.inl z1)] [] s1
            else
              if z1 = 109 then
                if x4 = 0 then
                  X 9 [some (.inr (.inl 15)), o1, some (.inl x2), some (.inl x3), some (.inl 1), some (.inl (cm_w (x5 + 1))), some (.inl z1)] [] s1
                else
                  some (.inl (some (.inl x5)), s1)
              else
                some (.inl (some (.inl x5)), s1)
          else
            if z1 = 109 then
              if x4 = 0 then
                X 9 [some (.inr (.inl 15)), o1, some (.inl x2), some (.inl x3), some (.inl 1), some (.inl (cm_w (x5 + 1))), some (.inl z1)] [] s1
              else
                some (.inl (some (.inl x5)), s1)
            else
              some (.inl (some (.inl x5)), s1)
      else
        if z1 = 105 then
          if x3 = 0 then
            X 9 [some (.inr (.inl 15)), o1, some (.inl x2), some (.inl 1), some (.inl x4), some (.inl (cm_w (x5 + 1))), some (.inl z1)] [] s1
          else
            if z1 = 109 then
              if x4 = 0 then
                X 9 [some (.inr (.inl 15)), o1, some (.inl x2), some (.inl x3), some (.inl 1), some (.inl (cm_w (x5 + 1))), some (.inl z1)] [] s1
              else
                some (.inl (some (.inl x5)), s1)
            else
              some (.inl (some (.inl x5)), s1)
        else
          if z1 = 109 then
            if x4 = 0 then
              X 9 [some (.inr (.inl 15)), o1, some (.inl x2), some (.inl x3), some (.inl 1), some (.inl (cm_w (x5 + 1))), some (.inl z1)] [] s1
            else
              some (.inl (some (.inl x5)), s1)
          else
            some (.inl (some (.inl x5)), s1)
set_option maxRecDepth 100000 in
theorem cE_51_9 (run : cm_RN) (o1 : Option cm_V) (x2 : Int) (x3 : Int) (x4 : Int) (x5 : Int) (o6 : Option cm_V) (s : cm_S) : cm_lp run cm_k51 9 [some (.inr (.inl 15)), o1, some (.inl x2), some (.inl x3), some (.inl x4), some (.inl x5), o6] [] s = cF_51_9 run (cm_lp run cm_k51) o1 x2 x3 x4 x5 o6 s := (cm_lp_eq run cm_k51 9 _ _ s).trans rfl
/-- ScriptFront$Parser.refuse, from 0 on -/
def cF_52_0 (run : cm_RN) (X : cm_X) (s : cm_S) : Option cm_R :=
  cm_bv (run 34 [.inr (.inl 3), .inl 2, .inl (s.1 1505)] s) fun s1 =>
    some (.inl none, s1)
set_option maxRecDepth 100000 in
theorem cE_52_0 (run : cm_RN) (s : cm_S) : cm_lp run cm_k52 0 [some (.inr (.inl 14))] [] s = cF_52_0 run (cm_lp run cm_k52) s := (cm_lp_eq run cm_k52 0 _ _ s).trans rfl
/-- ScriptFront$Parser.unended, from 0 on -/
def cF_53_0 (run : cm_RN) (X : cm_X) (x1 : Int) (s : cm_S) : Option cm_R :=
  if (s.1 1504) = 1 then
    cm_bi (run 99 [.inr (.inl 14), .inl 12] s) fun z1 s1 =>
      some (.inl (some (.inl z1)), s1)
  else if (s.1 1504) = 4 then
    cm_bi (run 99 [.inr (.inl 14), .inl 11] s) fun z2 s2 =>
      some (.inl (some (.inl z2)), s2)
  else if (s.1 1504) = 7 then
    cm_bi (run 93 [.inr (.inl 14), .inl x1] s) fun z3 s3 =>
      some (.inl (some (.inl z3)), s3)
  else if (s.1 1504) = 11 then
    cm_bi (run 95 [.inr (.inl 14), .inl x1] s) fun z4 s4 =>
      some (.inl (some (.inl z4)), s4)
  else if (s.1 1504) = 12 then
    cm_bv (run 52 [.inr (.inl 14)] s) fun s5 =>
      some (.inl (some (.inl (-1))), s5)
  else if (s.1 1504) = 13 then
    cm_bi (run 91 [.inr (.inl 14), .inl x1] s) fun z6 s6 =>
      some (.inl (some (.inl z6)), s6)
  else if (s.1 1504) = 18 then
    cm_bi (run 100 [.inr (.inl 14), .inl x1] s) fun z7 s7 =>
      some (.inl (some (.inl z7)), s7)
  else if (s.1 1504) = 19 then
    cm_bi (run 101 [.inr (.inl 14), .inl x1] s) fun z8 s8 =>
      some (.inl (some (.inl z8)), s8)
  else if (s.1 1504) = 21 then
    cm_bi (run 103 [.inr (.inl 14), .inl x1] s) fun z9 s9 =>
      some (.inl (some (.inl z9)), s9)
  else if (s.1 1504) = 23 then
    cm_bi (run 104 [.inr (.inl 14), .inl x1] s) fun z10 s10 =>
      some (.inl (some (.inl z10)), s10)
  else if (s.1 1504) = 25 then
    cm_bi (run 61 [.inr (.inl 14), .inl x1, .inl 0] s) fun z11 s11 =>
      some (.inl (some (.inl z11)), s11)
  else if (s.1 1504) = 27 then
    cm_bi (run 94 [.inr (.inl 14), .inl x1] s) fun z12 s12 =>
      some (.inl (some (.inl z12)), s12)
  else if (s.1 1504) = 59 then
    cm_bi (run 56 [.inr (.inl 14), .inl 4] s) fun z13 s13 =>
      some (.inl (some (.inl z13)), s13)
  else if (s.1 1504) = 123 then
    cm_bi (run 54 [.inr (.inl 14), .inl x1] s) fun z14 s14 =>
      some (.inl (some (.inl z14)), s14)
  else 
    cm_bi (run 106 [.inr (.inl 14), .inl x1] s) fun z15 s15 =>
      some (.inl (some (.inl z15)), s15)
set_option maxRecDepth 100000 in
theorem cE_53_0 (run : cm_RN) (x1 : Int) (s : cm_S) : cm_lp run cm_k53 0 [some (.inr (.inl 14)), some (.inl x1)] [] s = cF_53_0 run (cm_lp run cm_k53) x1 s := (cm_lp_eq run cm_k53 0 _ _ s).trans rfl
/-- ScriptFront$Parser.block, from 0 on -/
def cF_54_0 (run : cm_RN) (X : cm_X) (x1 : Int) (s : cm_S) : Option cm_R :=
  cm_bv (run 55 [.inr (.inl 14), .inl 123] s) fun s1 =>
    cm_bi (run 56 [.inr (.inl 14), .inl 1] s1) fun z2 s2 =>
      X 10 [some (.inr (.inl 14)), some (.inl x1), some (.inl z2), some (.inl 0)] [] s2
set_option maxRecDepth 100000 in
theorem cE_54_0 (run : cm_RN) (x1 : Int) (s : cm_S) : cm_lp run cm_k54 0 [some (.inr (.inl 14)), some (.inl x1), none, none] [] s = cF_54_0 run (cm_lp run cm_k54) x1 s := (cm_lp_eq run cm_k54 0 _ _ s).trans rfl
/-- ScriptFront$Parser.block, from 9 on -/
def cF_54_10 (run : cm_RN) (X : cm_X) (x1 : Int) (x2 : Int) (x3 : Int) (s : cm_S) : Option cm_R :=
  if 480 < x3 then
    cm_bv (run 60 [.inr (.inl 14), .inl 125] s) fun s1 =>
      some (.inl (some (.inl x2)), s1)
  else
    cm_bi (run 57 [.inr (.inl 14)] s) fun z2 s2 =>
      if z2 = 0 then
        cm_bv (run 60 [.inr (.inl 14), .inl 125] s2) fun s3 =>
          some (.inl (some (.inl x2)), s3)
      else
        cm_bi (run 47 [.inr (.inl 14), .inl x1] s2) fun z4 s4 =>
          cm_bv (run 58 [.inr (.inl 4), .inl x2, .inl z4] s4) fun s5 =>
            X 10 [some (.inr (.inl 14)), some (.inl x1), some (.inl x2), some (.inl (cm_w (x3 + 1)))] [] s5
set_option maxRecDepth 100000 in
theorem cE_54_10 (run : cm_RN) (x1 : Int) (x2 : Int) (x3 : Int) (s : cm_S) : cm_lp run cm_k54 10 [some (.inr (.inl 14)), some (.inl x1), some (.inl x2), some (.inl x3)] [] s = cF_54_10 run (cm_lp run cm_k54) x1 x2 x3 s := (cm_lp_eq run cm_k54 10 _ _ s).trans rfl
/-- ScriptFront$Parser.demand, from 0 on -/
def cF_55_0 (run : cm_RN) (X : cm_X) (x1 : Int) (s : cm_S) : Option cm_R :=
  if (s.1 1504) = x1 then
    some (.inl none, s)
  else
    cm_bv (run 52 [.inr (.inl 14)] s) fun s1 =>
      some (.inl none, s1)
set_option maxRecDepth 100000 in
theorem cE_55_0 (run : cm_RN) (x1 : Int) (s : cm_S) : cm_lp run cm_k55 0 [some (.inr (.inl 14)), some (.inl x1)] [] s = cF_55_0 run (cm_lp run cm_k55) x1 s := (cm_lp_eq run cm_k55 0 _ _ s).trans rfl
/-- ScriptFront$Parser.makeFirst, from 0 on -/
def cF_56_0 (run : cm_RN) (X : cm_X) (x1 : Int) (s : cm_S) : Option cm_R :=
  cm_bi (run 45 [.inr (.inl 4), .inl x1, .inl (s.1 1505), .inl 0, .inl 0] s) fun z1 s1 =>
    cm_bv (run 26 [.inr (.inl 15)] s1) fun s2 =>
      some (.inl (some (.inl z1)), s2)
set_option maxRecDepth 100000 in
theorem cE_56_0 (run : cm_RN) (x1 : Int) (s : cm_S) : cm_lp run cm_k56 0 [some (.inr (.inl 14)), some (.inl x1), none] [] s = cF_56_0 run (cm_lp run cm_k56) x1 s := (cm_lp_eq run cm_k56 0 _ _ s).trans rfl
/-- ScriptFront$Parser.listGoesOn, from 0 on -/
def cF_57_0 (run : cm_RN) (X : cm_X) (s : cm_S) : Option cm_R :=
  if (s.1 1504) = 125 then
    some (.inl (some (.inl 0)), s)
  else
    if (s.1 1503) = 0 then
      some (.inl (some (.inl 0)), s)
    else
      some (.inl (some (.inl 1)), s)
set_option maxRecDepth 100000 in
theorem cE_57_0 (run : cm_RN) (s : cm_S) : cm_lp run cm_k57 0 [some (.inr (.inl 14))] [] s = cF_57_0 run (cm_lp run cm_k57) s := (cm_lp_eq run cm_k57 0 _ _ s).trans rfl
/-- ScriptFront$Draft.add, from 0 on -/
def cF_58_0 (run : cm_RN) (X : cm_X) (x1 : Int) (x2 : Int) (s : cm_S) : Option cm_R :=
  cm_bi (run 59 [.inr (.inl 4), .inl x1] s) fun z1 s1 =>
    if z1 = 0 then
      some (.inl none, s1)
    else
      cm_bi (run 59 [.inr (.inl 4), .inl x2] s1) fun z2 s2 =>
        if z2 = 0 then
          some (.inl none, s2)
        else
          if (0 : Int) ≤ x1 ∧ x1 < 512 then
            cm_bi (run 59 [.inr (.inl 4), .inl (s2.2 10 x1)] s2) fun z3 s3 =>
              if z3 = 0 then
                if (0 : Int) ≤ x1 ∧ x1 < 512 then
                  (if (0 : Int) ≤ x1 ∧ x1 < 512 then
                    (if (0 : Int) ≤ x2 ∧ x2 < 512 then
                      (some (.inl none, (cm_q (cm_q (cm_q s3 9 x1 x2) 10 x1 x2) 12 x2 x1)))
                    else none)
                  else none)
                else none
              else
                if (0 : Int) ≤ (s2.2 10 x1) ∧ (s2.2 10 x1) < 512 then
                  (if (0 : Int) ≤ x1 ∧ x1 < 512 then
                    (if (0 : Int) ≤ x2 ∧ x2 < 512 then
                      (some (.inl none, (cm_q (cm_q (cm_q s3 11 (s2.2 10 x1) x2) 10 x1 x2) 12 x2 x1)))
                    else none)
                  else none)
                else none
          else none
set_option maxRecDepth 100000 in
theorem cE_58_0 (run : cm_RN) (x1 : Int) (x2 : Int) (s : cm_S) : cm_lp run cm_k58 0 [some (.inr (.inl 4)), some (.inl x1), some (.inl x2), none] [] s = cF_58_0 run (cm_lp run cm_k58) x1 x2 s := (cm_lp_eq run cm_k58 0 _ _ s).trans rfl
/-- ScriptFront$Draft.has, from 0 on -/
def cF_59_0 (run : cm_RN) (X : cm_X) (x1 : Int) (s : cm_S) : Option cm_R :=
  if x1 < 0 then
    some (.inl (some (.inl 0)), s)
  else
    if x1 < (s.1 410) then
      if x1 < 512 then
        some (.inl (some (.inl 1)), s)
      else
        some (.inl (some (.inl 0)), s)
    else
      some (.inl (some (.inl 0)), s)
set_option maxRecDepth 100000 in
theorem cE_59_0 (run : cm_RN) (x1 : Int) (s : cm_S) : cm_lp run cm_k59 0 [some (.inr (.inl 4)), some (.inl x1)] [] s = cF_59_0 run (cm_lp run cm_k59) x1 s := (cm_lp_eq run cm_k59 0 _ _ s).trans rfl
