/-! ===== methods as expressions, printed by wip/gen/cm/pr.py ===== -/
/-- ScriptFront$Parser.pass, from 0 on -/
def cF_60_0 (run : cm_RN) (X : cm_X) (x1 : Int) (s : cm_S) : Option cm_R :=
  cm_bv (run 55 [.inr (.inl 14), .inl x1] s) fun s1 =>
    cm_bv (run 26 [.inr (.inl 15)] s1) fun s2 =>
      some (.inl none, s2)
set_option maxRecDepth 100000 in
theorem cE_60_0 (run : cm_RN) (x1 : Int) (s : cm_S) : cm_lp run cm_k60 0 [some (.inr (.inl 14)), some (.inl x1)] [] s = cF_60_0 run (cm_lp run cm_k60) x1 s := (cm_lp_eq run cm_k60 0 _ _ s).trans rfl
/-- ScriptFront$Parser.declarators, from 0 on -/
def cF_61_0 (run : cm_RN) (X : cm_X) (x1 : Int) (x2 : Int) (s : cm_S) : Option cm_R :=
  cm_bi (run 56 [.inr (.inl 14), .inl 2] s) fun z1 s1 =>
    cm_bi (run 62 [.inr (.inl 14), .inl x1, .inl x2] s1) fun z2 s2 =>
      cm_bv (run 58 [.inr (.inl 4), .inl z1, .inl z2] s2) fun s3 =>
        X 15 [some (.inr (.inl 14)), some (.inl x1), some (.inl x2), some (.inl z1), some (.inl 0)] [] s3
set_option maxRecDepth 100000 in
theorem cE_61_0 (run : cm_RN) (x1 : Int) (x2 : Int) (s : cm_S) : cm_lp run cm_k61 0 [some (.inr (.inl 14)), some (.inl x1), some (.inl x2), none, none] [] s = cF_61_0 run (cm_lp run cm_k61) x1 x2 s := (cm_lp_eq run cm_k61 0 _ _ s).trans rfl
/-- ScriptFront$Parser.declarators, from 14 on -/
def cF_61_15 (run : cm_RN) (X : cm_X) (x1 : Int) (x2 : Int) (x3 : Int) (x4 : Int) (s : cm_S) : Option cm_R :=
  if 480 < x4 then
    some (.inl (some (.inl x3)), s)
  else
    if (s.1 1504) = 44 then
      cm_bv (run 26 [.inr (.inl 15)] s) fun s1 =>
        cm_bi (run 62 [.inr (.inl 14), .inl x1, .inl x2] s1) fun z2 s2 =>
          cm_bv (run 58 [.inr (.inl 4), .inl x3, .inl z2] s2) fun s3 =>
            X 15 [some (.inr (.inl 14)), some (.inl x1), some (.inl x2), some (.inl x3), some (.inl (cm_w (x4 + 1)))] [] s3
    else
      some (.inl (some (.inl x3)), s)
set_option maxRecDepth 100000 in
theorem cE_61_15 (run : cm_RN) (x1 : Int) (x2 : Int) (x3 : Int) (x4 : Int) (s : cm_S) : cm_lp run cm_k61 15 [some (.inr (.inl 14)), some (.inl x1), some (.inl x2), some (.inl x3), some (.inl x4)] [] s = cF_61_15 run (cm_lp run cm_k61) x1 x2 x3 x4 s := (cm_lp_eq run cm_k61 15 _ _ s).trans rfl
/-- ScriptFront$Parser.declarator, from 0 on -/
def cF_62_0 (run : cm_RN) (X : cm_X) (x1 : Int) (x2 : Int) (s : cm_S) : Option cm_R :=
  cm_bv (run 63 [.inr (.inl 14)] s) fun s1 =>
    cm_bi (run 64 [.inr (.inl 14), .inl 3] s1) fun z2 s2 =>
      if (s2.1 1504) = 61 then
        cm_bv (run 26 [.inr (.inl 15)] s2) fun s3 =>
          cm_bi (run 65 [.inr (.inl 14), .inl x1, .inl x2] s3) fun z4 s4 =>
            cm_bv (run 58 [.inr (.inl 4), .inl z2, .inl z4] s4) fun s5 =>
              some (.inl (some (.inl z2)), s5)
      else
        some (.inl (some (.inl z2)), s2)
set_option maxRecDepth 100000 in
theorem cE_62_0 (run : cm_RN) (x1 : Int) (x2 : Int) (s : cm_S) : cm_lp run cm_k62 0 [some (.inr (.inl 14)), some (.inl x1), some (.inl x2), none] [] s = cF_62_0 run (cm_lp run cm_k62) x1 x2 s := (cm_lp_eq run cm_k62 0 _ _ s).trans rfl
/-- ScriptFront$Parser.demandName, from 0 on -/
def cF_63_0 (run : cm_RN) (X : cm_X) (s : cm_S) : Option cm_R :=
  if (s.1 1503) = 1 then
    some (.inl none, s)
  else
    cm_bv (run 52 [.inr (.inl 14)] s) fun s1 =>
      some (.inl none, s1)
set_option maxRecDepth 100000 in
theorem cE_63_0 (run : cm_RN) (s : cm_S) : cm_lp run cm_k63 0 [some (.inr (.inl 14))] [] s = cF_63_0 run (cm_lp run cm_k63) s := (cm_lp_eq run cm_k63 0 _ _ s).trans rfl
/-- ScriptFront$Parser.makeOf, from 0 on -/
def cF_64_0 (run : cm_RN) (X : cm_X) (x1 : Int) (s : cm_S) : Option cm_R :=
  cm_bi (run 40 [.inr (.inl 15)] s) fun z1 s1 =>
    cm_bi (run 45 [.inr (.inl 4), .inl x1, .inl (s.1 1505), .inl z1, .inl (s1.1 1504)] s1) fun z2 s2 =>
      cm_bv (run 26 [.inr (.inl 15)] s2) fun s3 =>
        some (.inl (some (.inl z2)), s3)
set_option maxRecDepth 100000 in
theorem cE_64_0 (run : cm_RN) (x1 : Int) (s : cm_S) : cm_lp run cm_k64 0 [some (.inr (.inl 14)), some (.inl x1), none] [] s = cF_64_0 run (cm_lp run cm_k64) x1 s := (cm_lp_eq run cm_k64 0 _ _ s).trans rfl
/-- ScriptFront$Parser.x, from 0 on -/
def cF_65_0 (run : cm_RN) (X : cm_X) (x1 : Int) (x2 : Int) (s : cm_S) : Option cm_R :=
  cm_bv (run 48 [.inr (.inl 14), .inl x1] s) fun s1 =>
    cm_bi (run 66 [.inr (.inl 14), .inl (cm_w (x1 + 1)), .inl x2] s1) fun z2 s2 =>
      cm_bi (run 90 [.inl (s2.1 1504)] s2) fun z3 s3 =>
        if z3 = 0 then
          some (.inl (some (.inl z2)), s3)
        else
          if (s3.1 1406) = 0 then
            cm_bv (run 52 [.inr (.inl 14)] s3) fun s4 =>
              cm_bi (run 64 [.inr (.inl 14), .inl 48] s4) fun z5 s5 =>
                cm_bv (run 58 [.inr (.inl 4), .inl z5, .inl z2] s5) fun s6 =>
                  cm_bi (run 65 [.inr (.inl 14), .inl (cm_w (x1 + 1)), .inl x2] s6) fun z7 s7 =>
                    cm_bv (run 58 [.inr (.inl 4), .inl z5, .inl z7] s7) fun s8 =>
                      some (.inl (some (.inl z5)), (cm_p s8 1406 0))
          else
            cm_bi (run 64 [.inr (.inl 14), .inl 48] s3) fun z9 s9 =>
              cm_bv (run 58 [.inr (.inl 4), .inl z9, .inl z2] s9) fun s10 =>
                cm_bi (run 65 [.inr (.inl 14), .inl (cm_w (x1 + 1)), .inl x2] s10) fun z11 s11 =>
                  cm_bv (run 58 [.inr (.inl 4), .inl z9, .inl z11] s11) fun s12 =>
                    some (.inl (some (.inl z9)), (cm_p s12 1406 0))
set_option maxRecDepth 100000 in
theorem cE_65_0 (run : cm_RN) (x1 : Int) (x2 : Int) (s : cm_S) : cm_lp run cm_k65 0 [some (.inr (.inl 14)), some (.inl x1), some (.inl x2), none, none] [] s = cF_65_0 run (cm_lp run cm_k65) x1 x2 s := (cm_lp_eq run cm_k65 0 _ _ s).trans rfl
/-- ScriptFront$Parser.choice, from 0 on -/
def cF_66_0 (run : cm_RN) (X : cm_X) (x1 : Int) (x2 : Int) (s : cm_S) : Option cm_R :=
  cm_bi (run 67 [.inr (.inl 14), .inl x1, .inl x2] s) fun z1 s1 =>
    if (s1.1 1504) = 63 then
      cm_bi (run 75 [.inr (.inl 14), .inl 47] s1) fun z2 s2 =>
        cm_bv (run 58 [.inr (.inl 4), .inl z2, .inl z1] s2) fun s3 =>
          cm_bv (run 26 [.inr (.inl 15)] s3) fun s4 =>
            cm_bi (run 65 [.inr (.inl 14), .inl x1, .inl x2] s4) fun z5 s5 =>
              cm_bv (run 58 [.inr (.inl 4), .inl z2, .inl z5] s5) fun s6 =>
                cm_bv (run 60 [.inr (.inl 14), .inl 58] s6) fun s7 =>
                  cm_bi (run 65 [.inr (.inl 14), .inl x1, .inl x2] s7) fun z8 s8 =>
                    cm_bv (run 58 [.inr (.inl 4), .inl z2, .inl z8] s8) fun s9 =>
                      some (.inl (some (.inl z2)), (cm_p s9 1406 0))
    else
      some (.inl (some (.inl z1)), s1)
set_option maxRecDepth 100000 in
theorem cE_66_0 (run : cm_RN) (x1 : Int) (x2 : Int) (s : cm_S) : cm_lp run cm_k66 0 [some (.inr (.inl 14)), some (.inl x1), some (.inl x2), none, none] [] s = cF_66_0 run (cm_lp run cm_k66) x1 x2 s := (cm_lp_eq run cm_k66 0 _ _ s).trans rfl
/-- ScriptFront$Parser.binary, from 0 on -/
def cF_67_0 (run : cm_RN) (X : cm_X) (x1 : Int) (x2 : Int) (s : cm_S) : Option cm_R :=
  cm_bi (run 68 [.inr (.inl 14), .inl x1] s) fun z1 s1 =>
    X 10 [some (.inr (.inl 14)), some (.inl x1), some (.inl x2), some (.inl (s.1 1405)), some (.inl z1), some (.inl 0), none, none] [] s1
set_option maxRecDepth 100000 in
theorem cE_67_0 (run : cm_RN) (x1 : Int) (x2 : Int) (s : cm_S) : cm_lp run cm_k67 0 [some (.inr (.inl 14)), some (.inl x1), some (.inl x2), none, none, none, none, none] [] s = cF_67_0 run (cm_lp run cm_k67) x1 x2 s := (cm_lp_eq run cm_k67 0 _ _ s).trans rfl
/-- ScriptFront$Parser.binary, from 9 on -/
def cF_67_10 (run : cm_RN) (X : cm_X) (x1 : Int) (x2 : Int) (x3 : Int) (x4 : Int) (x5 : Int) (o6 : Option cm_V) (o7 : Option cm_V) (s : cm_S) : Option cm_R :=
  if 480 < x5 then
    some (.inl (some (.inl x4)), s)
  else
    if x2 = 0 then
      cm_bi (run 87 [.inl (s.1 1504)] s) fun z1 s1 =>
        cm_bi (run 88 [.inr (.inl 14), .inl x4, .inl z1, .inl x3] s1) fun z2 s2 =>
          if z1 = 0 then
            some (.inl (some (.inl z2)), s2)
          else
            cm_bi (run 64 [.inr (.inl 14), .inl 46] s2) fun z3 s3 =>
              cm_bv (run 58 [.inr (.inl 4), .inl z3, .inl z2] s3) fun s4 =>
                cm_bv (run 89 [.inr (.inl 14), .inl z3, .inl z1] s4) fun s5 =>
                  cm_bi (run 68 [.inr (.inl 14), .inl x1] s5) fun z6 s6 =>
                    X 10 [some (.inr (.inl 14)), some (.inl x1), some (.inl x2), some (.inl x3), some (.inl z6), some (.inl (cm_w (x5 + 1))), some (.inl z1), some (.inl z3)] [] (cm_p s6 1406 0)
    else
      if (s.1 1504) = 14 then
        cm_bi (run 88 [.inr (.inl 14), .inl x4, .inl 0, .inl x3] s) fun z7 s7 =>
          some (.inl (some (.inl z7)), s7)
      else
        cm_bi (run 87 [.inl (s.1 1504)] s) fun z8 s8 =>
          cm_bi (run 88 [.inr (.inl 14), .inl x4, .inl z8, .inl x3] s8) fun z9 s9 =>
            if z8 = 0 then
              some (.inl (some (.inl z9)), s9)
            else
              cm_bi (run 64 [.inr (.inl 14), .inl 46] s9) fun z10 s10 =>
                cm_bv (run 58 [.inr (.inl 4), .inl z10, .inl z9] s10) fun s11 =>
                  cm_bv (run 89 [.inr (.inl 14), .inl z10, .inl z8] s11) fun s12 =>
                    cm_bi (run 68 [.inr (.inl 14), .inl x1] s12) fun z13 s13 =>
                      X 10 [some (.inr (.inl 14)), some (.inl x1), some (.inl x2), some (.inl x3), some (.inl z13), some (.inl (cm_w (x5 + 1))), some (.inl z8), some (.inl z10)] [] (cm_p s13 1406 0)
set_option maxRecDepth 100000 in
theorem cE_67_10 (run : cm_RN) (x1 : Int) (x2 : Int) (x3 : Int) (x4 : Int) (x5 : Int) (o6 : Option cm_V) (o7 : Option cm_V) (s : cm_S) : cm_lp run cm_k67 10 [some (.inr (.inl 14)), some (.inl x1), some (.inl x2), some (.inl x3), some (.inl x4), some (.inl x5), o6, o7] [] s = cF_67_10 run (cm_lp run cm_k67) x1 x2 x3 x4 x5 o6 o7 s := (cm_lp_eq run cm_k67 10 _ _ s).trans rfl
/-- ScriptFront$Parser.unary, from 0 on -/
def cF_68_0 (run : cm_RN) (X : cm_X) (x1 : Int) (s : cm_S) : Option cm_R :=
  cm_bv (run 49 [.inr (.inl 15)] s) fun s1 =>
    cm_bi (run 69 [.inl (s1.1 1504)] s1) fun z2 s2 =>
      if z2 = 0 then
        cm_bi (run 70 [.inr (.inl 14), .inl x1] s2) fun z3 s3 =>
          if (s3.1 1504) = 11051 then
            if (s3.1 1507) = 0 then
              cm_bi (run 64 [.inr (.inl 14), .inl 44] s3) fun z4 s4 =>
                cm_bv (run 58 [.inr (.inl 4), .inl z4, .inl z3] s4) fun s5 =>
                  some (.inl (some (.inl z4)), (cm_p s5 1406 0))
            else
              some (.inl (some (.inl z3)), s3)
          else
            if (s3.1 1504) = 11565 then
              if (s3.1 1507) = 0 then
                cm_bi (run 64 [.inr (.inl 14), .inl 44] s3) fun z6 s6 =>
                  cm_bv (run 58 [.inr (.inl 4), .inl z6, .inl z3] s6) fun s7 =>
                    some (.inl (some (.inl z6)), (cm_p s7 1406 0))
              else
                some (.inl (some (.inl z3)), s3)
            else
              some (.inl (some (.inl z3)), s3)
      else
        cm_bi (run 64 [.inr (.inl 14), .inl 45] s2) fun z8 s8 =>
          cm_bv (run 48 [.inr (.inl 14), .inl x1] s8) fun s9 =>
            cm_bi (run 68 [.inr (.inl 14), .inl (cm_w (x1 + 1))] s9) fun z10 s10 =>
              cm_bv (run 58 [.inr (.inl 4), .inl z8, .inl z10] s10) fun s11 =>
                some (.inl (some (.inl z8)), (cm_p s11 1406 0))
set_option maxRecDepth 100000 in
theorem cE_68_0 (run : cm_RN) (x1 : Int) (s : cm_S) : cm_lp run cm_k68 0 [some (.inr (.inl 14)), some (.inl x1), none, none, none] [] s = cF_68_0 run (cm_lp run cm_k68) x1 s := (cm_lp_eq run cm_k68 0 _ _ s).trans rfl
/-- ScriptFront$Token.isPrefix, from 0 on -/
def cF_69_0 (run : cm_RN) (X : cm_X) (x0 : Int) (s : cm_S) : Option cm_R :=
  if x0 = 6 then
    some (.inl (some (.inl 1)), s)
  else if x0 = 24 then
    some (.inl (some (.inl 1)), s)
  else if x0 = 26 then
    some (.inl (some (.inl 1)), s)
  else if x0 = 33 then
    some (.inl (some (.inl 1)), s)
  else if x0 = 43 then
    some (.inl (some (.inl 1)), s)
  else if x0 = 45 then
    some (.inl (some (.inl 1)), s)
  else if x0 = 126 then
    some (.inl (some (.inl 1)), s)
  else if x0 = 11051 then
    some (.inl (some (.inl 1)), s)
  else if x0 = 11565 then
    some (.inl (some (.inl 1)), s)
  else 
    some (.inl (some (.inl 0)), s)
set_option maxRecDepth 100000 in
theorem cE_69_0 (run : cm_RN) (x0 : Int) (s : cm_S) : cm_lp run cm_k69 0 [some (.inl x0)] [] s = cF_69_0 run (cm_lp run cm_k69) x0 s := (cm_lp_eq run cm_k69 0 _ _ s).trans rfl
/-- ScriptFront$Parser.left, from 0 on -/
def cF_70_0 (run : cm_RN) (X : cm_X) (x1 : Int) (s : cm_S) : Option cm_R :=
  cm_bi (run 71 [.inr (.inl 14), .inl x1] s) fun z1 s1 =>
    X 7 [some (.inr (.inl 14)), some (.inl x1), some (.inl z1), some (.inl 0)] [] s1
set_option maxRecDepth 100000 in
theorem cE_70_0 (run : cm_RN) (x1 : Int) (s : cm_S) : cm_lp run cm_k70 0 [some (.inr (.inl 14)), some (.inl x1), none, none] [] s = cF_70_0 run (cm_lp run cm_k70) x1 s := (cm_lp_eq run cm_k70 0 _ _ s).trans rfl
/-- ScriptFront$Parser.left, from 6 on -/
def cF_70_7 (run : cm_RN) (X : cm_X) (x1 : Int) (x2 : Int) (x3 : Int) (s : cm_S) : Option cm_R :=
  if 480 < x3 then
    some (.inl (some (.inl x2)), (cm_p s 1406 1))
  else
    if (s.1 1504) = 40 then
      cm_bi (run 86 [.inr (.inl 14), .inl x2, .inl x1] s) fun z1 s1 =>
        X 7 [some (.inr (.inl 14)), some (.inl x1), some (.inl z1), some (.inl (cm_w (x3 + 1)))] [] s1
    else
      if (s.1 1504) = 46 then
        cm_bi (run 74 [.inr (.inl 14), .inl x2, .inl x1] s) fun z2 s2 =>
          X 7 [some (.inr (.inl 14)), some (.inl x1), some (.inl z2), some (.inl (cm_w (x3 + 1)))] [] s2
      else
        if (s.1 1504) = 91 then
          cm_bi (run 74 [.inr (.inl 14), .inl x2, .inl x1] s) fun z3 s3 =>
            X 7 [some (.inr (.inl 14)), some (.inl x1), some (.inl z3), some (.inl (cm_w (x3 + 1)))] [] s3
        else
          some (.inl (some (.inl x2)), (cm_p s 1406 1))
set_option maxRecDepth 100000 in
theorem cE_70_7 (run : cm_RN) (x1 : Int) (x2 : Int) (x3 : Int) (s : cm_S) : cm_lp run cm_k70 7 [some (.inr (.inl 14)), some (.inl x1), some (.inl x2), some (.inl x3)] [] s = cF_70_7 run (cm_lp run cm_k70) x1 x2 x3 s := (cm_lp_eq run cm_k70 7 _ _ s).trans rfl
/-- ScriptFront$Parser.head, from 0 on -/
def cF_71_0 (run : cm_RN) (X : cm_X) (x1 : Int) (s : cm_S) : Option cm_R :=
  if (s.1 1504) = 16 then
    cm_bi (run 72 [.inr (.inl 14), .inl x1] s) fun z1 s1 =>
      some (.inl (some (.inl z1)), s1)
  else
    cm_bi (run 78 [.inr (.inl 14), .inl x1] s) fun z2 s2 =>
      some (.inl (some (.inl z2)), s2)
set_option maxRecDepth 100000 in
theorem cE_71_0 (run : cm_RN) (x1 : Int) (s : cm_S) : cm_lp run cm_k71 0 [some (.inr (.inl 14)), some (.inl x1)] [] s = cF_71_0 run (cm_lp run cm_k71) x1 s := (cm_lp_eq run cm_k71 0 _ _ s).trans rfl
/-- ScriptFront$Parser.creation, from 0 on -/
def cF_72_0 (run : cm_RN) (X : cm_X) (x1 : Int) (s : cm_S) : Option cm_R :=
  cm_bi (run 56 [.inr (.inl 14), .inl 42] s) fun z1 s1 =>
    cm_bv (run 48 [.inr (.inl 14), .inl x1] s1) fun s2 =>
      cm_bi (run 73 [.inr (.inl 14), .inl (cm_w (x1 + 1))] s2) fun z3 s3 =>
        cm_bv (run 58 [.inr (.inl 4), .inl z1, .inl z3] s3) fun s4 =>
          if (s4.1 1504) = 40 then
            cm_bv (run 77 [.inr (.inl 14), .inl z1, .inl x1] s4) fun s5 =>
              some (.inl (some (.inl z1)), s5)
          else
            some (.inl (some (.inl z1)), s4)
set_option maxRecDepth 100000 in
theorem cE_72_0 (run : cm_RN) (x1 : Int) (s : cm_S) : cm_lp run cm_k72 0 [some (.inr (.inl 14)), some (.inl x1), none] [] s = cF_72_0 run (cm_lp run cm_k72) x1 s := (cm_lp_eq run cm_k72 0 _ _ s).trans rfl
/-- ScriptFront$Parser.member, from 0 on -/
def cF_73_0 (run : cm_RN) (X : cm_X) (x1 : Int) (s : cm_S) : Option cm_R :=
  cm_bi (run 71 [.inr (.inl 14), .inl x1] s) fun z1 s1 =>
    X 7 [some (.inr (.inl 14)), some (.inl x1), some (.inl z1), some (.inl 0)] [] s1
set_option maxRecDepth 100000 in
theorem cE_73_0 (run : cm_RN) (x1 : Int) (s : cm_S) : cm_lp run cm_k73 0 [some (.inr (.inl 14)), some (.inl x1), none, none] [] s = cF_73_0 run (cm_lp run cm_k73) x1 s := (cm_lp_eq run cm_k73 0 _ _ s).trans rfl
/-- ScriptFront$Parser.member, from 6 on -/
def cF_73_7 (run : cm_RN) (X : cm_X) (x1 : Int) (x2 : Int) (x3 : Int) (s : cm_S) : Option cm_R :=
  if 480 < x3 then
    some (.inl (some (.inl x2)), s)
  else
    if (s.1 1504) = 46 then
      cm_bi (run 74 [.inr (.inl 14), .inl x2, .inl x1] s) fun z1 s1 =>
        X 7 [some (.inr (.inl 14)), some (.inl x1), some (.inl z1), some (.inl (cm_w (x3 + 1)))] [] s1
    else
      if (s.1 1504) = 91 then
        cm_bi (run 74 [.inr (.inl 14), .inl x2, .inl x1] s) fun z2 s2 =>
          X 7 [some (.inr (.inl 14)), some (.inl x1), some (.inl z2), some (.inl (cm_w (x3 + 1)))] [] s2
      else
        some (.inl (some (.inl x2)), s)
set_option maxRecDepth 100000 in
theorem cE_73_7 (run : cm_RN) (x1 : Int) (x2 : Int) (x3 : Int) (s : cm_S) : cm_lp run cm_k73 7 [some (.inr (.inl 14)), some (.inl x1), some (.inl x2), some (.inl x3)] [] s = cF_73_7 run (cm_lp run cm_k73) x1 x2 x3 s := (cm_lp_eq run cm_k73 7 _ _ s).trans rfl
/-- ScriptFront$Parser.access, from 0 on -/
def cF_74_0 (run : cm_RN) (X : cm_X) (x1 : Int) (x2 : Int) (s : cm_S) : Option cm_R :=
  if (s.1 1504) = 46 then
    cm_bv (run 26 [.inr (.inl 15)] s) fun s1 =>
      if (s1.1 1503) = 1 then
        cm_bi (run 64 [.inr (.inl 14), .inl 41] s1) fun z2 s2 =>
          cm_bv (run 58 [.inr (.inl 4), .inl z2, .inl x1] s2) fun s3 =>
            some (.inl (some (.inl z2)), s3)
      else
        if (s1.1 1503) = 2 then
          cm_bi (run 64 [.inr (.inl 14), .inl 41] s1) fun z4 s4 =>
            cm_bv (run 58 [.inr (.inl 4), .inl z4, .inl x1] s4) fun s5 =>
              some (.inl (some (.inl z4)), s5)
        else
          cm_bv (run 52 [.inr (.inl 14)] s1) fun s6 =>
            cm_bi (run 64 [.inr (.inl 14), .inl 41] s6) fun z7 s7 =>
              cm_bv (run 58 [.inr (.inl 4), .inl z7, .inl x1] s7) fun s8 =>
                some (.inl (some (.inl z7)), s8)
  else
    cm_bi (run 75 [.inr (.inl 14), .inl 40] s) fun z9 s9 =>
      cm_bv (run 58 [.inr (.inl 4), .inl z9, .inl x1] s9) fun s10 =>
        cm_bv (run 60 [.inr (.inl 14), .inl 91] s10) fun s11 =>
          cm_bi (run 76 [.inr (.inl 14), .inl x2, .inl 0] s11) fun z12 s12 =>
            cm_bv (run 58 [.inr (.inl 4), .inl z9, .inl z12] s12) fun s13 =>
              cm_bv (run 60 [.inr (.inl 14), .inl 93] s13) fun s14 =>
                some (.inl (some (.inl z9)), s14)
set_option maxRecDepth 100000 in
theorem cE_74_0 (run : cm_RN) (x1 : Int) (x2 : Int) (s : cm_S) : cm_lp run cm_k74 0 [some (.inr (.inl 14)), some (.inl x1), some (.inl x2), none] [] s = cF_74_0 run (cm_lp run cm_k74) x1 x2 s := (cm_lp_eq run cm_k74 0 _ _ s).trans rfl
/-- ScriptFront$Parser.makeHere, from 0 on -/
def cF_75_0 (run : cm_RN) (X : cm_X) (x1 : Int) (s : cm_S) : Option cm_R :=
  cm_bi (run 45 [.inr (.inl 4), .inl x1, .inl (s.1 1505), .inl 0, .inl 0] s) fun z1 s1 =>
    some (.inl (some (.inl z1)), s1)
set_option maxRecDepth 100000 in
theorem cE_75_0 (run : cm_RN) (x1 : Int) (s : cm_S) : cm_lp run cm_k75 0 [some (.inr (.inl 14)), some (.inl x1)] [] s = cF_75_0 run (cm_lp run cm_k75) x1 s := (cm_lp_eq run cm_k75 0 _ _ s).trans rfl
/-- ScriptFront$Parser.sequence, from 0 on -/
def cF_76_0 (run : cm_RN) (X : cm_X) (x1 : Int) (x2 : Int) (s : cm_S) : Option cm_R :=
  cm_bi (run 65 [.inr (.inl 14), .inl x1, .inl x2] s) fun z1 s1 =>
    if (s1.1 1504) = 44 then
      cm_bi (run 75 [.inr (.inl 14), .inl 49] s1) fun z2 s2 =>
        cm_bv (run 58 [.inr (.inl 4), .inl z2, .inl z1] s2) fun s3 =>
          X 24 [some (.inr (.inl 14)), some (.inl x1), some (.inl x2), some (.inl z1), some (.inl z2), some (.inl 0)] [] s3
    else
      some (.inl (some (.inl z1)), s1)
set_option maxRecDepth 100000 in
theorem cE_76_0 (run : cm_RN) (x1 : Int) (x2 : Int) (s : cm_S) : cm_lp run cm_k76 0 [some (.inr (.inl 14)), some (.inl x1), some (.inl x2), none, none, none] [] s = cF_76_0 run (cm_lp run cm_k76) x1 x2 s := (cm_lp_eq run cm_k76 0 _ _ s).trans rfl
/-- ScriptFront$Parser.sequence, from 23 on -/
def cF_76_24 (run : cm_RN) (X : cm_X) (x1 : Int) (x2 : Int) (o3 : Option cm_V) (x4 : Int) (x5 : Int) (s : cm_S) : Option cm_R :=
  if 480 < x5 then
    some (.inl (some (.inl x4)), (cm_p s 1406 0))
  else
    if (s.1 1504) = 44 then
      cm_bv (run 26 [.inr (.inl 15)] s) fun s1 =>
        cm_bi (run 65 [.inr (.inl 14), .inl x1, .inl x2] s1) fun z2 s2 =>
          cm_bv (run 58 [.inr (.inl 4), .inl x4, .inl z2] s2) fun s3 =>
            X 24 [some (.inr (.inl 14)), some (.inl x1), some (.inl x2), o3, some (.inl x4), some (.inl (cm_w (x5 + 1)))] [] s3
    else
      some (.inl (some (.inl x4)), (cm_p s 1406 0))
set_option maxRecDepth 100000 in
theorem cE_76_24 (run : cm_RN) (x1 : Int) (x2 : Int) (o3 : Option cm_V) (x4 : Int) (x5 : Int) (s : cm_S) : cm_lp run cm_k76 24 [some (.inr (.inl 14)), some (.inl x1), some (.inl x2), o3, some (.inl x4), some (.inl x5)] [] s = cF_76_24 run (cm_lp run cm_k76) x1 x2 o3 x4 x5 s := (cm_lp_eq run cm_k76 24 _ _ s).trans rfl
/-- ScriptFront$Parser.arguments, from 0 on -/
def cF_77_0 (run : cm_RN) (X : cm_X) (x1 : Int) (x2 : Int) (s : cm_S) : Option cm_R :=
  cm_bv (run 60 [.inr (.inl 14), .inl 40] s) fun s1 =>
    X 6 [some (.inr (.inl 14)), some (.inl x1), some (.inl x2), some (.inl 0)] [] s1
set_option maxRecDepth 100000 in
theorem cE_77_0 (run : cm_RN) (x1 : Int) (x2 : Int) (s : cm_S) : cm_lp run cm_k77 0 [some (.inr (.inl 14)), some (.inl x1), some (.inl x2), none] [] s = cF_77_0 run (cm_lp run cm_k77) x1 x2 s := (cm_lp_eq run cm_k77 0 _ _ s).trans rfl
/-- ScriptFront$Parser.arguments, from 5 on -/
def cF_77_6 (run : cm_RN) (X : cm_X) (x1 : Int) (x2 : Int) (x3 : Int) (s : cm_S) : Option cm_R :=
  if 480 < x3 then
    cm_bv (run 60 [.inr (.inl 14), .inl 41] s) fun s1 =>
      some (.inl none, s1)
  else
    if (s.1 1504) = 41 then
      cm_bv (run 60 [.inr (.inl 14), .inl 41] s) fun s2 =>
        some (.inl none, s2)
    else
      if 0 < x3 then
        cm_bv (run 60 [.inr (.inl 14), .inl 44] s) fun s3 =>
          cm_bi (run 65 [.inr (.inl 14), .inl x2, .inl 0] s3) fun z4 s4 =>
            cm_bv (run 58 [.inr (.inl 4), .inl x1, .inl z4] s4) fun s5 =>
              X 6 [some (.inr (.inl 14)), some (.inl x1), some (.inl x2), some (.inl (cm_w (x3 + 1)))] [] s5
      else
        cm_bi (run 65 [.inr (.inl 14), .inl x2, .inl 0] s) fun z6 s6 =>
          cm_bv (run 58 [.inr (.inl 4), .inl x1, .inl z6] s6) fun s7 =>
            X 6 [some (.inr (.inl 14)), some (.inl x1), some (.inl x2), some (.inl (cm_w (x3 + 1)))] [] s7
set_option maxRecDepth 100000 in
theorem cE_77_6 (run : cm_RN) (x1 : Int) (x2 : Int) (x3 : Int) (s : cm_S) : cm_lp run cm_k77 6 [some (.inr (.inl 14)), some (.inl x1), some (.inl x2), some (.inl x3)] [] s = cF_77_6 run (cm_lp run cm_k77) x1 x2 x3 s := (cm_lp_eq run cm_k77 6 _ _ s).trans rfl
/-- ScriptFront$Parser.operand, from 0 on -/
def cF_78_0 (run : cm_RN) (X : cm_X) (x1 : Int) (s : cm_S) : Option cm_R :=
  if (s.1 1503) = 1 then
    cm_bi (run 64 [.inr (.inl 14), .inl 31] s) fun z1 s1 =>
      some (.inl (some (.inl z1)), s1)
  else if (s.1 1503) = 3 then
    cm_bi (run 64 [.inr (.inl 14), .inl 33] s) fun z2 s2 =>
      some (.inl (some (.inl z2)), s2)
  else if (s.1 1503) = 4 then
    cm_bi (run 64 [.inr (.inl 14), .inl 34] s) fun z3 s3 =>
      some (.inl (some (.inl z3)), s3)
  else if (s.1 1503) = 5 then
    cm_bi (run 64 [.inr (.inl 14), .inl 35] s) fun z4 s4 =>
      some (.inl (some (.inl z4)), s4)
  else 
    cm_bi (run 79 [.inr (.inl 14), .inl x1] s) fun z5 s5 =>
      some (.inl (some (.inl z5)), s5)
set_option maxRecDepth 100000 in
theorem cE_78_0 (run : cm_RN) (x1 : Int) (s : cm_S) : cm_lp run cm_k78 0 [some (.inr (.inl 14)), some (.inl x1)] [] s = cF_78_0 run (cm_lp run cm_k78) x1 s := (cm_lp_eq run cm_k78 0 _ _ s).trans rfl
/-- ScriptFront$Parser.codedOperand, from 0 on -/
def cF_79_0 (run : cm_RN) (X : cm_X) (x1 : Int) (s : cm_S) : Option cm_R :=
  if (s.1 1504) = 9 then
    cm_bi (run 64 [.inr (.inl 14), .inl 32] s) fun z1 s1 =>
      some (.inl (some (.inl z1)), s1)
  else if (s.1 1504) = 12 then
    cm_bi (run 80 [.inr (.inl 14), .inl 39, .inl x1] s) fun z2 s2 =>
      some (.inl (some (.inl z2)), s2)
  else if (s.1 1504) = 17 then
    cm_bi (run 64 [.inr (.inl 14), .inl 32] s) fun z3 s3 =>
      some (.inl (some (.inl z3)), s3)
  else if (s.1 1504) = 20 then
    cm_bi (run 56 [.inr (.inl 14), .inl 30] s) fun z4 s4 =>
      some (.inl (some (.inl z4)), s4)
  else if (s.1 1504) = 22 then
    cm_bi (run 64 [.inr (.inl 14), .inl 32] s) fun z5 s5 =>
      some (.inl (some (.inl z5)), s5)
  else if (s.1 1504) = 40 then
    cm_bv (run 26 [.inr (.inl 15)] s) fun s6 =>
      cm_bi (run 76 [.inr (.inl 14), .inl x1, .inl 0] s6) fun z7 s7 =>
        cm_bv (run 60 [.inr (.inl 14), .inl 41] s7) fun s8 =>
          some (.inl (some (.inl z7)), s8)
  else if (s.1 1504) = 91 then
    cm_bi (run 82 [.inr (.inl 14), .inl x1] s) fun z9 s9 =>
      some (.inl (some (.inl z9)), s9)
  else if (s.1 1504) = 123 then
    cm_bi (run 84 [.inr (.inl 14), .inl x1] s) fun z10 s10 =>
      some (.inl (some (.inl z10)), s10)
  else 
    cm_bv (run 52 [.inr (.inl 14)] s) fun s11 =>
      some (.inl (some (.inl (-1))), s11)
set_option maxRecDepth 100000 in
theorem cE_79_0 (run : cm_RN) (x1 : Int) (s : cm_S) : cm_lp run cm_k79 0 [some (.inr (.inl 14)), some (.inl x1), none] [] s = cF_79_0 run (cm_lp run cm_k79) x1 s := (cm_lp_eq run cm_k79 0 _ _ s).trans rfl
/-- ScriptFront$Parser.function, from 0 on -/
def cF_80_0 (run : cm_RN) (X : cm_X) (x1 : Int) (x2 : Int) (s : cm_S) : Option cm_R :=
  cm_bv (run 26 [.inr (.inl 15)] s) fun s1 =>
    if x1 = 20 then
      cm_bv (run 63 [.inr (.inl 14)] s1) fun s2 =>
        if (s2.1 1503) = 1 then
          cm_bi (run 64 [.inr (.inl 14), .inl x1] s2) fun z3 s3 =>
            cm_bv (run 60 [.inr (.inl 14), .inl 40] s3) fun s4 =>
              X 35 [some (.inr (.inl 14)), some (.inl x1), some (.inl x2), some (.inl (s.1 1505)), some (.inl z3), some (.inl 0)] [] s4
        else
          cm_bi (run 45 [.inr (.inl 4), .inl x1, .inl (s.1 1505), .inl 0, .inl 0] s2) fun z5 s5 =>
            cm_bv (run 60 [.inr (.inl 14), .inl 40] s5) fun s6 =>
              X 35 [some (.inr (.inl 14)), some (.inl x1), some (.inl x2), some (.inl (s.1 1505)), some (.inl z5), some (.inl 0)] [] s6
    else
      if (s1.1 1503) = 1 then
        cm_bi (run 64 [.inr (.inl 14), .inl x1] s1) fun z7 s7 =>
          cm_bv (run 60 [.inr (.inl 14), .inl 40] s7) fun s8 =>
            X 35 [some (.inr (.inl 14)), some (.inl x1), some (.inl x2), some (.inl (s.1 1505)), some (.inl z7), some (.inl 0)] [] s8
      else
        cm_bi (run 45 [.inr (.inl 4), .inl x1, .inl (s.1 1505), .inl 0, .inl 0] s1) fun z9 s9 =>
          cm_bv (run 60 [.inr (.inl 14), .inl 40] s9) fun s10 =>
            X 35 [some (.inr (.inl 14)), some (.inl x1), some (.inl x2), some (.inl (s.1 1505)), some (.inl z9), some (.inl 0)] [] s10
set_option maxRecDepth 100000 in
theorem cE_80_0 (run : cm_RN) (x1 : Int) (x2 : Int) (s : cm_S) : cm_lp run cm_k80 0 [some (.inr (.inl 14)), some (.inl x1), some (.inl x2), none, none, none] [] s = cF_80_0 run (cm_lp run cm_k80) x1 x2 s := (cm_lp_eq run cm_k80 0 _ _ s).trans rfl
/-- ScriptFront$Parser.function, from 34 on -/
def cF_80_35 (run : cm_RN) (X : cm_X) (o1 : Option cm_V) (x2 : Int) (o3 : Option cm_V) (x4 : Int) (x5 : Int) (s : cm_S) : Option cm_R :=
  if 480 < x5 then
    cm_bv (run 60 [.inr (.inl 14), .inl 41] s) fun s1 =>
      cm_bi (run 81 [.inr (.inl 14), .inl x2] s1) fun z2 s2 =>
        cm_bv (run 58 [.inr (.inl 4), .inl x4, .inl z2] s2) fun s3 =>
          some (.inl (some (.inl x4)), s3)
  else
    if (s.1 1504) = 41 then
      cm_bv (run 60 [.inr (.inl 14), .inl 41] s) fun s4 =>
        cm_bi (run 81 [.inr (.inl 14), .inl x2] s4) fun z5 s5 =>
          cm_bv (run 58 [.inr (.inl 4), .inl x4, .inl z5] s5) fun s6 =>
            some (.inl (some (.inl x4)), s6)
    else
      if 0 < x5 then
        cm_bv (run 60 [.inr (.inl 14), .inl 44] s) fun s7 =>
          cm_bv (run 63 [.inr (.inl 14)] s7) fun s8 =>
            cm_bi (run 64 [.inr (.inl 14), .inl 22] s8) fun z9 s9 =>
              cm_bv (run 58 [.inr (.inl 4), .inl x4, .inl z9] s9) fun s10 =>
                X 35 [some (.inr (.inl 14)), o1, some (.inl x2), o3, some (.inl x4), some (.inl (cm_w (x5 + 1)))] [] s10
      else
        cm_bv (run 63 [.inr (.inl 14)] s) fun s11 =>
          cm_bi (run 64 [.inr (.inl 14), .inl 22] s11) fun z12 s12 =>
            cm_bv (run 58 [.inr (.inl 4), .inl x4, .inl z12] s12) fun s13 =>
              X 35 [some (.inr (.inl 14)), o1, some (.inl x2), o3, some (.inl x4), some (.inl (cm_w (x5 + 1)))] [] s13
set_option maxRecDepth 100000 in
theorem cE_80_35 (run : cm_RN) (o1 : Option cm_V) (x2 : Int) (o3 : Option cm_V) (x4 : Int) (x5 : Int) (s : cm_S) : cm_lp run cm_k80 35 [some (.inr (.inl 14)), o1, some (.inl x2), o3, some (.inl x4), some (.inl x5)] [] s = cF_80_35 run (cm_lp run cm_k80) o1 x2 o3 x4 x5 s := (cm_lp_eq run cm_k80 35 _ _ s).trans rfl
/-- ScriptFront$Parser.body, from 0 on -/
def cF_81_0 (run : cm_RN) (X : cm_X) (x1 : Int) (s : cm_S) : Option cm_R :=
  cm_bv (run 55 [.inr (.inl 14), .inl 123] s) fun s1 =>
    cm_bv (run 48 [.inr (.inl 14), .inl x1] s1) fun s2 =>
      cm_bi (run 56 [.inr (.inl 14), .inl 23] s2) fun z3 s3 =>
        X 13 [some (.inr (.inl 14)), some (.inl x1), some (.inl z3), some (.inl 0)] [] s3
set_option maxRecDepth 100000 in
theorem cE_81_0 (run : cm_RN) (x1 : Int) (s : cm_S) : cm_lp run cm_k81 0 [some (.inr (.inl 14)), some (.inl x1), none, none] [] s = cF_81_0 run (cm_lp run cm_k81) x1 s := (cm_lp_eq run cm_k81 0 _ _ s).trans rfl
/-- ScriptFront$Parser.body, from 12 on -/
def cF_81_13 (run : cm_RN) (X : cm_X) (x1 : Int) (x2 : Int) (x3 : Int) (s : cm_S) : Option cm_R :=
  if 480 < x3 then
    cm_bv (run 60 [.inr (.inl 14), .inl 125] s) fun s1 =>
      some (.inl (some (.inl x2)), s1)
  else
    cm_bi (run 57 [.inr (.inl 14)] s) fun z2 s2 =>
      if z2 = 0 then
        cm_bv (run 60 [.inr (.inl 14), .inl 125] s2) fun s3 =>
          some (.inl (some (.inl x2)), s3)
      else
        cm_bi (run 46 [.inr (.inl 14), .inl (cm_w (x1 + 1))] s2) fun z4 s4 =>
          cm_bv (run 58 [.inr (.inl 4), .inl x2, .inl z4] s4) fun s5 =>
            X 13 [some (.inr (.inl 14)), some (.inl x1), some (.inl x2), some (.inl (cm_w (x3 + 1)))] [] s5
set_option maxRecDepth 100000 in
theorem cE_81_13 (run : cm_RN) (x1 : Int) (x2 : Int) (x3 : Int) (s : cm_S) : cm_lp run cm_k81 13 [some (.inr (.inl 14)), some (.inl x1), some (.inl x2), some (.inl x3)] [] s = cF_81_13 run (cm_lp run cm_k81) x1 x2 x3 s := (cm_lp_eq run cm_k81 13 _ _ s).trans rfl
/-- ScriptFront$Parser.array, from 0 on -/
def cF_82_0 (run : cm_RN) (X : cm_X) (x1 : Int) (s : cm_S) : Option cm_R :=
  cm_bi (run 56 [.inr (.inl 14), .inl 36] s) fun z1 s1 =>
    X 7 [some (.inr (.inl 14)), some (.inl x1), some (.inl z1), some (.inl 0)] [] s1
set_option maxRecDepth 100000 in
theorem cE_82_0 (run : cm_RN) (x1 : Int) (s : cm_S) : cm_lp run cm_k82 0 [some (.inr (.inl 14)), some (.inl x1), none, none] [] s = cF_82_0 run (cm_lp run cm_k82) x1 s := (cm_lp_eq run cm_k82 0 _ _ s).trans rfl
/-- ScriptFront$Parser.array, from 6 on -/
def cF_82_7 (run : cm_RN) (X : cm_X) (x1 : Int) (x2 : Int) (x3 : Int) (s : cm_S) : Option cm_R :=
  if 480 < x3 then
    cm_bv (run 60 [.inr (.inl 14), .inl 93] s) fun s1 =>
      some (.inl (some (.inl x2)), s1)
  else
    if (s.1 1504) = 93 then
      cm_bv (run 60 [.inr (.inl 14), .inl 93] s) fun s2 =>
        some (.inl (some (.inl x2)), s2)
    else
      if (s.1 1504) = 44 then
        cm_bi (run 83 [.inr (.inl 14)] s) fun z3 s3 =>
          cm_bv (run 58 [.inr (.inl 4), .inl x2, .inl z3] s3) fun s4 =>
            if (s4.1 1504) = 93 then
              X 7 [some (.inr (.inl 14)), some (.inl x1), some (.inl x2), some (.inl (cm_w (x3 + 1)))] [] s4
            else
              cm_bv (run 60 [.inr (.inl 14), .inl 44] s4) fun s5 =>
                X 7 [some (.inr (.inl 14)), some (.inl x1), some (.inl x2), some (.inl (cm_w (x3 + 1)))] [] s5
      else
        cm_bi (run 65 [.inr (.inl 14), .inl x1, .inl 0] s) fun z6 s6 =>
          cm_bv (run 58 [.inr (.inl 4), .inl x2, .inl z6] s6) fun s7 =>
            if (s7.1 1504) = 93 then
              X 7 [some (.inr (.inl 14)), some (.inl x1), some (.inl x2), some (.inl (cm_w (x3 + 1)))] [] s7
            else
              cm_bv (run 60 [.inr (.inl 14), .inl 44] s7) fun s8 =>
                X 7 [some (.inr (.inl 14)), some (.inl x1), some (.inl x2), some (.inl (cm_w (x3 + 1)))] [] s8
set_option maxRecDepth 100000 in
theorem cE_82_7 (run : cm_RN) (x1 : Int) (x2 : Int) (x3 : Int) (s : cm_S) : cm_lp run cm_k82 7 [some (.inr (.inl 14)), some (.inl x1), some (.inl x2), some (.inl x3)] [] s = cF_82_7 run (cm_lp run cm_k82) x1 x2 x3 s := (cm_lp_eq run cm_k82 7 _ _ s).trans rfl
/-- ScriptFront$Parser.nothing, from 0 on -/
def cF_83_0 (run : cm_RN) (X : cm_X) (s : cm_S) : Option cm_R :=
  cm_bi (run 45 [.inr (.inl 4), .inl 21, .inl 0, .inl 0, .inl 0] s) fun z1 s1 =>
    some (.inl (some (.inl z1)), s1)
set_option maxRecDepth 100000 in
theorem cE_83_0 (run : cm_RN) (s : cm_S) : cm_lp run cm_k83 0 [some (.inr (.inl 14))] [] s = cF_83_0 run (cm_lp run cm_k83) s := (cm_lp_eq run cm_k83 0 _ _ s).trans rfl
/-- ScriptFront$Parser.object, from 0 on -/
def cF_84_0 (run : cm_RN) (X : cm_X) (x1 : Int) (s : cm_S) : Option cm_R :=
  cm_bi (run 56 [.inr (.inl 14), .inl 37] s) fun z1 s1 =>
    X 7 [some (.inr (.inl 14)), some (.inl x1), some (.inl z1), some (.inl 0)] [] s1
set_option maxRecDepth 100000 in
theorem cE_84_0 (run : cm_RN) (x1 : Int) (s : cm_S) : cm_lp run cm_k84 0 [some (.inr (.inl 14)), some (.inl x1), none, none] [] s = cF_84_0 run (cm_lp run cm_k84) x1 s := (cm_lp_eq run cm_k84 0 _ _ s).trans rfl
/-- ScriptFront$Parser.object, from 6 on -/
def cF_84_7 (run : cm_RN) (X : cm_X) (x1 : Int) (x2 : Int) (x3 : Int) (s : cm_S) : Option cm_R :=
  if 480 < x3 then
    cm_bv (run 60 [.inr (.inl 14), .inl 125] s) fun s1 =>
      some (.inl (some (.inl x2)), s1)
  else
    if (s.1 1504) = 125 then
      cm_bv (run 60 [.inr (.inl 14), .inl 125] s) fun s2 =>
        some (.inl (some (.inl x2)), s2)
    else
      cm_bi (run 85 [.inr (.inl 14), .inl x1] s) fun z3 s3 =>
        cm_bv (run 58 [.inr (.inl 4), .inl x2, .inl z3] s3) fun s4 =>
          if (s4.1 1504) = 125 then
            X 7 [some (.inr (.inl 14)), some (.inl x1), some (.inl x2), some (.inl (cm_w (x3 + 1)))] [] s4
          else
            cm_bv (run 60 [.inr (.inl 14), .inl 44] s4) fun s5 =>
              X 7 [some (.inr (.inl 14)), some (.inl x1), some (.inl x2), some (.inl (cm_w (x3 + 1)))] [] s5
set_option maxRecDepth 100000 in
theorem cE_84_7 (run : cm_RN) (x1 : Int) (x2 : Int) (x3 : Int) (s : cm_S) : cm_lp run cm_k84 7 [some (.inr (.inl 14)), some (.inl x1), some (.inl x2), some (.inl x3)] [] s = cF_84_7 run (cm_lp run cm_k84) x1 x2 x3 s := (cm_lp_eq run cm_k84 7 _ _ s).trans rfl
/-- ScriptFront$Parser.property, from 0 on -/
def cF_85_0 (run : cm_RN) (X : cm_X) (x1 : Int) (s : cm_S) : Option cm_R :=
  if (s.1 1503) = 1 then
    cm_bi (run 64 [.inr (.inl 14), .inl 38] s) fun z1 s1 =>
      cm_bv (run 60 [.inr (.inl 14), .inl 58] s1) fun s2 =>
        cm_bi (run 65 [.inr (.inl 14), .inl x1, .inl 0] s2) fun z3 s3 =>
          cm_bv (run 58 [.inr (.inl 4), .inl z1, .inl z3] s3) fun s4 =>
            some (.inl (some (.inl z1)), s4)
  else
    if (s.1 1503) = 2 then
      cm_bi (run 64 [.inr (.inl 14), .inl 38] s) fun z5 s5 =>
        cm_bv (run 60 [.inr (.inl 14), .inl 58] s5) fun s6 =>
          cm_bi (run 65 [.inr (.inl 14), .inl x1, .inl 0] s6) fun z7 s7 =>
            cm_bv (run 58 [.inr (.inl 4), .inl z5, .inl z7] s7) fun s8 =>
              some (.inl (some (.inl z5)), s8)
    else
      if (s.1 1503) = 4 then
        cm_bi (run 64 [.inr (.inl 14), .inl 38] s) fun z9 s9 =>
          cm_bv (run 60 [.inr (.inl 14), .inl 58] s9) fun s10 =>
            cm_bi (run 65 [.inr (.inl 14), .inl x1, .inl 0] s10) fun z11 s11 =>
              cm_bv (run 58 [.inr (.inl 4), .inl z9, .inl z11] s11) fun s12 =>
                some (.inl (some (.inl z9)), s12)
      else
        if (s.1 1503) = 3 then
          cm_bi (run 64 [.inr (.inl 14), .inl 38] s) fun z13 s13 =>
            cm_bv (run 60 [.inr (.inl 14), .inl 58] s13) fun s14 =>
              cm_bi (run 65 [.inr (.inl 14), .inl x1, .inl 0] s14) fun z15 s15 =>
                cm_bv (run 58 [.inr (.inl 4), .inl z13, .inl z15] s15) fun s16 =>
                  some (.inl (some (.inl z13)), s16)
        else
          cm_bv (run 52 [.inr (.inl 14)] s) fun s17 =>
            cm_bi (run 64 [.inr (.inl 14), .inl 38] s17) fun z18 s18 =>
              cm_bv (run 60 [.inr (.inl 14), .inl 58] s18) fun s19 =>
                cm_bi (run 65 [.inr (.inl 14), .inl x1, .inl 0] s19) fun z20 s20 =>
                  cm_bv (run 58 [.inr (.inl 4), .inl z18, .inl z20] s20) fun s21 =>
                    some (.inl (some (.inl z18)), s21)
set_option maxRecDepth 100000 in
theorem cE_85_0 (run : cm_RN) (x1 : Int) (s : cm_S) : cm_lp run cm_k85 0 [some (.inr (.inl 14)), some (.inl x1), none, none] [] s = cF_85_0 run (cm_lp run cm_k85) x1 s := (cm_lp_eq run cm_k85 0 _ _ s).trans rfl
/-- ScriptFront$Parser.call, from 0 on -/
def cF_86_0 (run : cm_RN) (X : cm_X) (x1 : Int) (x2 : Int) (s : cm_S) : Option cm_R :=
  cm_bi (run 75 [.inr (.inl 14), .inl 43] s) fun z1 s1 =>
    cm_bv (run 58 [.inr (.inl 4), .inl z1, .inl x1] s1) fun s2 =>
      cm_bv (run 77 [.inr (.inl 14), .inl z1, .inl x2] s2) fun s3 =>
        some (.inl (some (.inl z1)), s3)
set_option maxRecDepth 100000 in
theorem cE_86_0 (run : cm_RN) (x1 : Int) (x2 : Int) (s : cm_S) : cm_lp run cm_k86 0 [some (.inr (.inl 14)), some (.inl x1), some (.inl x2), none] [] s = cF_86_0 run (cm_lp run cm_k86) x1 x2 s := (cm_lp_eq run cm_k86 0 _ _ s).trans rfl
/-- ScriptFront$Token.strengthOf, from 0 on -/
def cF_87_0 (run : cm_RN) (X : cm_X) (x0 : Int) (s : cm_S) : Option cm_R :=
  if x0 = 14 then
    some (.inl (some (.inl 7)), s)
  else if x0 = 15 then
    some (.inl (some (.inl 7)), s)
  else if x0 = 37 then
    some (.inl (some (.inl 10)), s)
  else if x0 = 38 then
    some (.inl (some (.inl 5)), s)
  else if x0 = 42 then
    some (.inl (some (.inl 10)), s)
  else if x0 = 43 then
    some (.inl (some (.inl 9)), s)
  else if x0 = 45 then
    some (.inl (some (.inl 9)), s)
  else if x0 = 47 then
    some (.inl (some (.inl 10)), s)
  else if x0 = 60 then
    some (.inl (some (.inl 7)), s)
  else if x0 = 62 then
    some (.inl (some (.inl 7)), s)
  else if x0 = 94 then
    some (.inl (some (.inl 4)), s)
  else if x0 = 124 then
    some (.inl (some (.inl 3)), s)
  else if x0 = 8509 then
    some (.inl (some (.inl 6)), s)
  else if x0 = 9766 then
    some (.inl (some (.inl 2)), s)
  else if x0 = 15420 then
    some (.inl (some (.inl 8)), s)
  else if x0 = 15421 then
    some (.inl (some (.inl 7)), s)
  else if x0 = 15677 then
    some (.inl (some (.inl 6)), s)
  else if x0 = 15933 then
    some (.inl (some (.inl 7)), s)
  else if x0 = 15934 then
    some (.inl (some (.inl 8)), s)
  else if x0 = 31868 then
    some (.inl (some (.inl 1)), s)
  else if x0 = 2178365 then
    some (.inl (some (.inl 6)), s)
  else if x0 = 4013373 then
    some (.inl (some (.inl 6)), s)
  else if x0 = 4079166 then
    some (.inl (some (.inl 8)), s)
  else 
    some (.inl (some (.inl 0)), s)
set_option maxRecDepth 100000 in
theorem cE_87_0 (run : cm_RN) (x0 : Int) (s : cm_S) : cm_lp run cm_k87 0 [some (.inl x0)] [] s = cF_87_0 run (cm_lp run cm_k87) x0 s := (cm_lp_eq run cm_k87 0 _ _ s).trans rfl
/-- ScriptFront$Parser.closeWaiting, from 0 on -/
def cF_88_0 (run : cm_RN) (X : cm_X) (x1 : Int) (x2 : Int) (x3 : Int) (s : cm_S) : Option cm_R :=
  X 8 [some (.inr (.inl 14)), some (.inl x1), some (.inl x2), some (.inl x3), some (.inl x1), some (.inl (cm_w ((s.1 1405) - 1)))] [] s
set_option maxRecDepth 100000 in
theorem cE_88_0 (run : cm_RN) (x1 : Int) (x2 : Int) (x3 : Int) (s : cm_S) : cm_lp run cm_k88 0 [some (.inr (.inl 14)), some (.inl x1), some (.inl x2), some (.inl x3), none, none] [] s = cF_88_0 run (cm_lp run cm_k88) x1 x2 x3 s := (cm_lp_eq run cm_k88 0 _ _ s).trans rfl
/-- ScriptFront$Parser.closeWaiting, from 7 on -/
def cF_88_8 (run : cm_RN) (X : cm_X) (o1 : Option cm_V) (x2 : Int) (x3 : Int) (x4 : Int) (x5 : Int) (s : cm_S) : Option cm_R :=
  if x5 < x3 then
    some (.inl (some (.inl x4)), s)
  else
    if x5 < 0 then
      some (.inl (some (.inl x4)), s)
    else
      if x5 < 256 then
        if (0 : Int) ≤ x5 ∧ x5 < 256 then
          if (s.2 17 x5) < x2 then
            some (.inl (some (.inl x4)), s)
          else
            if (0 : Int) ≤ x5 ∧ x5 < 256 then
              cm_bv (run 58 [.inr (.inl 4), .inl (s.2 16 x5), .inl x4] s) fun s1 =>
                if (0 : Int) ≤ x5 ∧ x5 < 256 then
                  X 8 [some (.inr (.inl 14)), o1, some (.inl x2), some (.inl x3), some (.inl (s1.2 16 x5)), some (.inl (cm_w (x5 + (-1))))] [] (cm_p s1 1405 x5)
                else none
            else none
        else none
      else
        some (.inl (some (.inl x4)), s)
set_option maxRecDepth 100000 in
theorem cE_88_8 (run : cm_RN) (o1 : Option cm_V) (x2 : Int) (x3 : Int) (x4 : Int) (x5 : Int) (s : cm_S) : cm_lp run cm_k88 8 [some (.inr (.inl 14)), o1, some (.inl x2), some (.inl x3), some (.inl x4), some (.inl x5)] [] s = cF_88_8 run (cm_lp run cm_k88) o1 x2 x3 x4 x5 s := (cm_lp_eq run cm_k88 8 _ _ s).trans rfl
/-- ScriptFront$Parser.hold, from 0 on -/
def cF_89_0 (run : cm_RN) (X : cm_X) (x1 : Int) (x2 : Int) (s : cm_S) : Option cm_R :=
  if (s.1 1405) < 0 then
    cm_bv (run 34 [.inr (.inl 3), .inl 3, .inl (s.1 1505)] s) fun s1 =>
      some (.inl none, s1)
  else
    if (s.1 1405) < 256 then
      if (0 : Int) ≤ (s.1 1405) ∧ (s.1 1405) < 256 then
        (if (0 : Int) ≤ (s.1 1405) ∧ (s.1 1405) < 256 then
          (some (.inl none, (cm_p (cm_q (cm_q s 16 (s.1 1405) x1) 17 (s.1 1405) x2) 1405 (cm_w ((s.1 1405) + 1)))))
        else none)
      else none
    else
      cm_bv (run 34 [.inr (.inl 3), .inl 3, .inl (s.1 1505)] s) fun s2 =>
        some (.inl none, s2)
set_option maxRecDepth 100000 in
theorem cE_89_0 (run : cm_RN) (x1 : Int) (x2 : Int) (s : cm_S) : cm_lp run cm_k89 0 [some (.inr (.inl 14)), some (.inl x1), some (.inl x2)] [] s = cF_89_0 run (cm_lp run cm_k89) x1 x2 s := (cm_lp_eq run cm_k89 0 _ _ s).trans rfl
/-- ScriptFront$Token.isAssignment, from 0 on -/
def cF_90_0 (run : cm_RN) (X : cm_X) (x0 : Int) (s : cm_S) : Option cm_R :=
  if (cm_and x0 255) = 61 then
    if (cm_shr x0 8) = 0 then
      some (.inl (some (.inl 1)), s)
    else if (cm_shr x0 8) = 37 then
      some (.inl (some (.inl 1)), s)
    else if (cm_shr x0 8) = 38 then
      some (.inl (some (.inl 1)), s)
    else if (cm_shr x0 8) = 42 then
      some (.inl (some (.inl 1)), s)
    else if (cm_shr x0 8) = 43 then
      some (.inl (some (.inl 1)), s)
    else if (cm_shr x0 8) = 45 then
      some (.inl (some (.inl 1)), s)
    else if (cm_shr x0 8) = 47 then
      some (.inl (some (.inl 1)), s)
    else if (cm_shr x0 8) = 94 then
      some (.inl (some (.inl 1)), s)
    else if (cm_shr x0 8) = 124 then
      some (.inl (some (.inl 1)), s)
    else if (cm_shr x0 8) = 15420 then
      some (.inl (some (.inl 1)), s)
    else if (cm_shr x0 8) = 15934 then
      some (.inl (some (.inl 1)), s)
    else if (cm_shr x0 8) = 4079166 then
      some (.inl (some (.inl 1)), s)
    else 
      some (.inl (some (.inl 0)), s)
  else
    some (.inl (some (.inl 0)), s)
set_option maxRecDepth 100000 in
theorem cE_90_0 (run : cm_RN) (x0 : Int) (s : cm_S) : cm_lp run cm_k90 0 [some (.inl x0)] [] s = cF_90_0 run (cm_lp run cm_k90) x0 s := (cm_lp_eq run cm_k90 0 _ _ s).trans rfl
/-- ScriptFront$Parser.ifStatement, from 0 on -/
def cF_91_0 (run : cm_RN) (X : cm_X) (x1 : Int) (s : cm_S) : Option cm_R :=
  cm_bi (run 56 [.inr (.inl 14), .inl 6] s) fun z1 s1 =>
    cm_bv (run 92 [.inr (.inl 14), .inl z1, .inl x1] s1) fun s2 =>
      cm_bi (run 47 [.inr (.inl 14), .inl x1] s2) fun z3 s3 =>
        cm_bv (run 58 [.inr (.inl 4), .inl z1, .inl z3] s3) fun s4 =>
          if (s4.1 1504) = 8 then
            cm_bv (run 26 [.inr (.inl 15)] s4) fun s5 =>
              cm_bi (run 47 [.inr (.inl 14), .inl x1] s5) fun z6 s6 =>
                cm_bv (run 58 [.inr (.inl 4), .inl z1, .inl z6] s6) fun s7 =>
                  some (.inl (some (.inl z1)), s7)
          else
            some (.inl (some (.inl z1)), s4)
set_option maxRecDepth 100000 in
theorem cE_91_0 (run : cm_RN) (x1 : Int) (s : cm_S) : cm_lp run cm_k91 0 [some (.inr (.inl 14)), some (.inl x1), none] [] s = cF_91_0 run (cm_lp run cm_k91) x1 s := (cm_lp_eq run cm_k91 0 _ _ s).trans rfl
/-- ScriptFront$Parser.condition, from 0 on -/
def cF_92_0 (run : cm_RN) (X : cm_X) (x1 : Int) (x2 : Int) (s : cm_S) : Option cm_R :=
  cm_bv (run 60 [.inr (.inl 14), .inl 40] s) fun s1 =>
    cm_bi (run 76 [.inr (.inl 14), .inl x2, .inl 0] s1) fun z2 s2 =>
      cm_bv (run 58 [.inr (.inl 4), .inl x1, .inl z2] s2) fun s3 =>
        cm_bv (run 60 [.inr (.inl 14), .inl 41] s3) fun s4 =>
          some (.inl none, s4)
set_option maxRecDepth 100000 in
theorem cE_92_0 (run : cm_RN) (x1 : Int) (x2 : Int) (s : cm_S) : cm_lp run cm_k92 0 [some (.inr (.inl 14)), some (.inl x1), some (.inl x2)] [] s = cF_92_0 run (cm_lp run cm_k92) x1 x2 s := (cm_lp_eq run cm_k92 0 _ _ s).trans rfl
/-- ScriptFront$Parser.doStatement, from 0 on -/
def cF_93_0 (run : cm_RN) (X : cm_X) (x1 : Int) (s : cm_S) : Option cm_R :=
  cm_bi (run 56 [.inr (.inl 14), .inl 7] s) fun z1 s1 =>
    cm_bi (run 47 [.inr (.inl 14), .inl x1] s1) fun z2 s2 =>
      cm_bv (run 58 [.inr (.inl 4), .inl z1, .inl z2] s2) fun s3 =>
        cm_bv (run 60 [.inr (.inl 14), .inl 27] s3) fun s4 =>
          cm_bv (run 92 [.inr (.inl 14), .inl z1, .inl x1] s4) fun s5 =>
            some (.inl (some (.inl z1)), s5)
set_option maxRecDepth 100000 in
theorem cE_93_0 (run : cm_RN) (x1 : Int) (s : cm_S) : cm_lp run cm_k93 0 [some (.inr (.inl 14)), some (.inl x1), none] [] s = cF_93_0 run (cm_lp run cm_k93) x1 s := (cm_lp_eq run cm_k93 0 _ _ s).trans rfl
/-- ScriptFront$Parser.whileStatement, from 0 on -/
def cF_94_0 (run : cm_RN) (X : cm_X) (x1 : Int) (s : cm_S) : Option cm_R :=
  cm_bi (run 56 [.inr (.inl 14), .inl 8] s) fun z1 s1 =>
    cm_bv (run 92 [.inr (.inl 14), .inl z1, .inl x1] s1) fun s2 =>
      cm_bi (run 47 [.inr (.inl 14), .inl x1] s2) fun z3 s3 =>
        cm_bv (run 58 [.inr (.inl 4), .inl z1, .inl z3] s3) fun s4 =>
          some (.inl (some (.inl z1)), s4)
set_option maxRecDepth 100000 in
theorem cE_94_0 (run : cm_RN) (x1 : Int) (s : cm_S) : cm_lp run cm_k94 0 [some (.inr (.inl 14)), some (.inl x1), none] [] s = cF_94_0 run (cm_lp run cm_k94) x1 s := (cm_lp_eq run cm_k94 0 _ _ s).trans rfl
/-- ScriptFront$Parser.forStatement, from 0 on -/
def cF_95_0 (run : cm_RN) (X : cm_X) (x1 : Int) (s : cm_S) : Option cm_R :=
  cm_bv (run 26 [.inr (.inl 15)] s) fun s1 =>
    cm_bv (run 60 [.inr (.inl 14), .inl 40] s1) fun s2 =>
      if (s2.1 1504) = 59 then
        cm_bi (run 83 [.inr (.inl 14)] s2) fun z3 s3 =>
          cm_bi (run 96 [.inr (.inl 14), .inl (s.1 1505), .inl z3, .inl x1] s3) fun z4 s4 =>
            some (.inl (some (.inl z4)), s4)
      else
        if (s2.1 1504) = 25 then
          cm_bi (run 61 [.inr (.inl 14), .inl x1, .inl 1] s2) fun z5 s5 =>
            if (s5.1 1504) = 14 then
              cm_bi (run 97 [.inr (.inl 4), .inl z5] s5) fun z6 s6 =>
                if z6 = 0 then
                  cm_bv (run 52 [.inr (.inl 14)] s6) fun s7 =>
                    cm_bi (run 98 [.inr (.inl 14), .inl (s.1 1505), .inl z5, .inl x1] s7) fun z8 s8 =>
                      some (.inl (some (.inl z8)), s8)
                else
                  cm_bi (run 98 [.inr (.inl 14), .inl (s.1 1505), .inl z5, .inl x1] s6) fun z9 s9 =>
                    some (.inl (some (.inl z9)), s9)
            else
              cm_bi (run 96 [.inr (.inl 14), .inl (s.1 1505), .inl z5, .inl x1] s5) fun z10 s10 =>
                some (.inl (some (.inl z10)), s10)
        else
          cm_bi (run 76 [.inr (.inl 14), .inl x1, .inl 1] s2) fun z11 s11 =>
            if (s11.1 1504) = 14 then
              if (s11.1 1406) = 0 then
                cm_bv (run 52 [.inr (.inl 14)] s11) fun s12 =>
                  cm_bi (run 98 [.inr (.inl 14), .inl (s.1 1505), .inl z11, .inl x1] s12) fun z13 s13 =>
                    some (.inl (some (.inl z13)), s13)
              else
                cm_bi (run 98 [.inr (.inl 14), .inl (s.1 1505), .inl z11, .inl x1] s11) fun z14 s14 =>
                  some (.inl (some (.inl z14)), s14)
            else
              cm_bi (run 96 [.inr (.inl 14), .inl (s.1 1505), .inl z11, .inl x1] s11) fun z15 s15 =>
                some (.inl (some (.inl z15)), s15)
set_option maxRecDepth 100000 in
theorem cE_95_0 (run : cm_RN) (x1 : Int) (s : cm_S) : cm_lp run cm_k95 0 [some (.inr (.inl 14)), some (.inl x1), none, none, none] [] s = cF_95_0 run (cm_lp run cm_k95) x1 s := (cm_lp_eq run cm_k95 0 _ _ s).trans rfl
/-- ScriptFront$Parser.forParts, from 0 on -/
def cF_96_0 (run : cm_RN) (X : cm_X) (x1 : Int) (x2 : Int) (x3 : Int) (s : cm_S) : Option cm_R :=
  cm_bi (run 45 [.inr (.inl 4), .inl 9, .inl x1, .inl 0, .inl 0] s) fun z1 s1 =>
    cm_bv (run 58 [.inr (.inl 4), .inl z1, .inl x2] s1) fun s2 =>
      cm_bv (run 60 [.inr (.inl 14), .inl 59] s2) fun s3 =>
        if (s3.1 1504) = 59 then
          cm_bi (run 83 [.inr (.inl 14)] s3) fun z4 s4 =>
            cm_bv (run 58 [.inr (.inl 4), .inl z1, .inl z4] s4) fun s5 =>
              cm_bv (run 60 [.inr (.inl 14), .inl 59] s5) fun s6 =>
                if (s6.1 1504) = 41 then
                  cm_bi (run 83 [.inr (.inl 14)] s6) fun z7 s7 =>
                    cm_bv (run 58 [.inr (.inl 4), .inl z1, .inl z7] s7) fun s8 =>
                      cm_bv (run 60 [.inr (.inl 14), .inl 41] s8) fun s9 =>
                        cm_bi (run 47 [.inr (.inl 14), .inl x3] s9) fun z10 s10 =>
                          cm_bv (run 58 [.inr (.inl 4), .inl z1, .inl z10] s10) fun s11 =>
                            some (.inl (some (.inl z1)), s11)
                else
                  cm_bi (run 76 [.inr (.inl 14), .inl x3, .inl 0] s6) fun z12 s12 =>
                    cm_bv (run 58 [.inr (.inl 4), .inl z1, .inl z12] s12) fun s13 =>
                      cm_bv (run 60 [.inr (.inl 14), .inl 41] s13) fun s14 =>
                        cm_bi (run 47 [.inr (.inl 14), .inl x3] s14) fun z15 s15 =>
                          cm_bv (run 58 [.inr (.inl 4), .inl z1, .inl z15] s15) fun s16 =>
                            some (.inl (some (.inl z1)), s16)
        else
          cm_bi (run 76 [.inr (.inl 14), .inl x3, .inl 0] s3) fun z17 s17 =>
            cm_bv (run 58 [.inr (.inl 4), .inl z1, .inl z17] s17) fun s18 =>
              cm_bv (run 60 [.inr (.inl 14), .inl 59] s18) fun s19 =>
                if (s19.1 1504) = 41 then
                  cm_bi (run 83 [.inr (.inl 14)] s19) fun z20 s20 =>
                    cm_bv (run 58 [.inr (.inl 4), .inl z1, .inl z20] s20) fun s21 =>
                      cm_bv (run 60 [.inr (.inl 14), .inl 41] s21) fun s22 =>
                        cm_bi (run 47 [.inr (.inl 14), .inl x3] s22) fun z23 s23 =>
                          cm_bv (run 58 [.inr (.inl 4), .inl z1, .inl z23] s23) fun s24 =>
                            some (.inl (some (.inl z1)), s24)
                else
                  cm_bi (run 76 [.inr (.inl 14), .inl x3, .inl 0] s19) fun z25 s25 =>
                    cm_bv (run 58 [.inr (.inl 4), .inl z1, .inl z25] s25) fun s26 =>
                      cm_bv (run 60 [.inr (.inl 14), .inl 41] s26) fun s27 =>
                        cm_bi (run 47 [.inr (.inl 14), .inl x3] s27) fun z28 s28 =>
                          cm_bv (run 58 [.inr (.inl 4), .inl z1, .inl z28] s28) fun s29 =>
                            some (.inl (some (.inl z1)), s29)
set_option maxRecDepth 100000 in
theorem cE_96_0 (run : cm_RN) (x1 : Int) (x2 : Int) (x3 : Int) (s : cm_S) : cm_lp run cm_k96 0 [some (.inr (.inl 14)), some (.inl x1), some (.inl x2), some (.inl x3), none] [] s = cF_96_0 run (cm_lp run cm_k96) x1 x2 x3 s := (cm_lp_eq run cm_k96 0 _ _ s).trans rfl
/-- ScriptFront$Draft.hasOneChild, from 0 on -/
def cF_97_0 (run : cm_RN) (X : cm_X) (x1 : Int) (s : cm_S) : Option cm_R :=
  cm_bi (run 59 [.inr (.inl 4), .inl x1] s) fun z1 s1 =>
    if z1 = 0 then
      some (.inl (some (.inl 0)), s1)
    else
      if (0 : Int) ≤ x1 ∧ x1 < 512 then
        cm_bi (run 59 [.inr (.inl 4), .inl (s1.2 9 x1)] s1) fun z2 s2 =>
          if z2 = 0 then
            some (.inl (some (.inl 0)), s2)
          else
            if (0 : Int) ≤ x1 ∧ x1 < 512 then
              if (0 : Int) ≤ x1 ∧ x1 < 512 then
                if (s2.2 9 x1) = (s2.2 10 x1) then
                  some (.inl (some (.inl 1)), s2)
                else
                  some (.inl (some (.inl 0)), s2)
              else none
            else none
      else none
set_option maxRecDepth 100000 in
theorem cE_97_0 (run : cm_RN) (x1 : Int) (s : cm_S) : cm_lp run cm_k97 0 [some (.inr (.inl 4)), some (.inl x1)] [] s = cF_97_0 run (cm_lp run cm_k97) x1 s := (cm_lp_eq run cm_k97 0 _ _ s).trans rfl
/-- ScriptFront$Parser.forIn, from 0 on -/
def cF_98_0 (run : cm_RN) (X : cm_X) (x1 : Int) (x2 : Int) (x3 : Int) (s : cm_S) : Option cm_R :=
  cm_bi (run 45 [.inr (.inl 4), .inl 10, .inl x1, .inl 0, .inl 0] s) fun z1 s1 =>
    cm_bv (run 58 [.inr (.inl 4), .inl z1, .inl x2] s1) fun s2 =>
      cm_bv (run 26 [.inr (.inl 15)] s2) fun s3 =>
        cm_bi (run 76 [.inr (.inl 14), .inl x3, .inl 0] s3) fun z4 s4 =>
          cm_bv (run 58 [.inr (.inl 4), .inl z1, .inl z4] s4) fun s5 =>
            cm_bv (run 60 [.inr (.inl 14), .inl 41] s5) fun s6 =>
              cm_bi (run 47 [.inr (.inl 14), .inl x3] s6) fun z7 s7 =>
                cm_bv (run 58 [.inr (.inl 4), .inl z1, .inl z7] s7) fun s8 =>
                  some (.inl (some (.inl z1)), s8)
set_option maxRecDepth 100000 in
theorem cE_98_0 (run : cm_RN) (x1 : Int) (x2 : Int) (x3 : Int) (s : cm_S) : cm_lp run cm_k98 0 [some (.inr (.inl 14)), some (.inl x1), some (.inl x2), some (.inl x3), none] [] s = cF_98_0 run (cm_lp run cm_k98) x1 x2 x3 s := (cm_lp_eq run cm_k98 0 _ _ s).trans rfl
/-- ScriptFront$Parser.jump, from 0 on -/
def cF_99_0 (run : cm_RN) (X : cm_X) (x1 : Int) (s : cm_S) : Option cm_R :=
  cm_bv (run 26 [.inr (.inl 15)] s) fun s1 =>
    if (s1.1 1503) = 1 then
      if (s1.1 1507) = 0 then
        cm_bi (run 40 [.inr (.inl 15)] s1) fun z2 s2 =>
          cm_bi (run 45 [.inr (.inl 4), .inl x1, .inl (s1.1 1505), .inl z2, .inl 0] s2) fun z3 s3 =>
            cm_bv (run 26 [.inr (.inl 15)] s3) fun s4 =>
              some (.inl (some (.inl z3)), s4)
      else
        cm_bi (run 45 [.inr (.inl 4), .inl x1, .inl (s.1 1505), .inl 0, .inl 0] s1) fun z5 s5 =>
          some (.inl (some (.inl z5)), s5)
    else
      cm_bi (run 45 [.inr (.inl 4), .inl x1, .inl (s.1 1505), .inl 0, .inl 0] s1) fun z6 s6 =>
        some (.inl (some (.inl z6)), s6)
set_option maxRecDepth 100000 in
theorem cE_99_0 (run : cm_RN) (x1 : Int) (s : cm_S) : cm_lp run cm_k99 0 [some (.inr (.inl 14)), some (.inl x1), none, none] [] s = cF_99_0 run (cm_lp run cm_k99) x1 s := (cm_lp_eq run cm_k99 0 _ _ s).trans rfl
/-- ScriptFront$Parser.returnStatement, from 0 on -/
def cF_100_0 (run : cm_RN) (X : cm_X) (x1 : Int) (s : cm_S) : Option cm_R :=
  cm_bi (run 56 [.inr (.inl 14), .inl 13] s) fun z1 s1 =>
    if (s1.1 1507) = 0 then
      if (s1.1 1504) = 59 then
        some (.inl (some (.inl z1)), s1)
      else
        cm_bi (run 57 [.inr (.inl 14)] s1) fun z2 s2 =>
          if z2 = 0 then
            some (.inl (some (.inl z1)), s2)
          else
            cm_bi (run 76 [.inr (.inl 14), .inl x1, .inl 0] s2) fun z3 s3 =>
              cm_bv (run 58 [.inr (.inl 4), .inl z1, .inl z3] s3) fun s4 =>
                some (.inl (some (.inl z1)), s4)
    else
      some (.inl (some (.inl z1)), s1)
set_option maxRecDepth 100000 in
theorem cE_100_0 (run : cm_RN) (x1 : Int) (s : cm_S) : cm_lp run cm_k100 0 [some (.inr (.inl 14)), some (.inl x1), none] [] s = cF_100_0 run (cm_lp run cm_k100) x1 s := (cm_lp_eq run cm_k100 0 _ _ s).trans rfl
/-- ScriptFront$Parser.switchStatement, from 0 on -/
def cF_101_0 (run : cm_RN) (X : cm_X) (x1 : Int) (s : cm_S) : Option cm_R :=
  cm_bi (run 56 [.inr (.inl 14), .inl 14] s) fun z1 s1 =>
    cm_bv (run 92 [.inr (.inl 14), .inl z1, .inl x1] s1) fun s2 =>
      cm_bv (run 60 [.inr (.inl 14), .inl 123] s2) fun s3 =>
        X 14 [some (.inr (.inl 14)), some (.inl x1), some (.inl z1), some (.inl 0)] [] s3
set_option maxRecDepth 100000 in
theorem cE_101_0 (run : cm_RN) (x1 : Int) (s : cm_S) : cm_lp run cm_k101 0 [some (.inr (.inl 14)), some (.inl x1), none, none] [] s = cF_101_0 run (cm_lp run cm_k101) x1 s := (cm_lp_eq run cm_k101 0 _ _ s).trans rfl
/-- ScriptFront$Parser.switchStatement, from 13 on -/
def cF_101_14 (run : cm_RN) (X : cm_X) (x1 : Int) (x2 : Int) (x3 : Int) (s : cm_S) : Option cm_R :=
  if 480 < x3 then
    cm_bv (run 60 [.inr (.inl 14), .inl 125] s) fun s1 =>
      some (.inl (some (.inl x2)), s1)
  else
    cm_bi (run 57 [.inr (.inl 14)] s) fun z2 s2 =>
      if z2 = 0 then
        cm_bv (run 60 [.inr (.inl 14), .inl 125] s2) fun s3 =>
          some (.inl (some (.inl x2)), s3)
      else
        cm_bi (run 102 [.inr (.inl 14), .inl x1] s2) fun z4 s4 =>
          cm_bv (run 58 [.inr (.inl 4), .inl x2, .inl z4] s4) fun s5 =>
            X 14 [some (.inr (.inl 14)), some (.inl x1), some (.inl x2), some (.inl (cm_w (x3 + 1)))] [] s5
set_option maxRecDepth 100000 in
theorem cE_101_14 (run : cm_RN) (x1 : Int) (x2 : Int) (x3 : Int) (s : cm_S) : cm_lp run cm_k101 14 [some (.inr (.inl 14)), some (.inl x1), some (.inl x2), some (.inl x3)] [] s = cF_101_14 run (cm_lp run cm_k101) x1 x2 x3 s := (cm_lp_eq run cm_k101 14 _ _ s).trans rfl
/-- ScriptFront$Parser.switchCase, from 0 on -/
def cF_102_0 (run : cm_RN) (X : cm_X) (x1 : Int) (s : cm_S) : Option cm_R :=
  cm_bi (run 75 [.inr (.inl 14), .inl 15] s) fun z1 s1 =>
    if (s1.1 1504) = 5 then
      cm_bv (run 26 [.inr (.inl 15)] s1) fun s2 =>
        cm_bi (run 83 [.inr (.inl 14)] s2) fun z3 s3 =>
          cm_bv (run 58 [.inr (.inl 4), .inl z1, .inl z3] s3) fun s4 =>
            cm_bv (run 60 [.inr (.inl 14), .inl 58] s4) fun s5 =>
              X 36 [some (.inr (.inl 14)), some (.inl x1), some (.inl z1), some (.inl 0)] [] s5
    else
      cm_bv (run 60 [.inr (.inl 14), .inl 2] s1) fun s6 =>
        cm_bi (run 76 [.inr (.inl 14), .inl x1, .inl 0] s6) fun z7 s7 =>
          cm_bv (run 58 [.inr (.inl 4), .inl z1, .inl z7] s7) fun s8 =>
            cm_bv (run 60 [.inr (.inl 14), .inl 58] s8) fun s9 =>
              X 36 [some (.inr (.inl 14)), some (.inl x1), some (.inl z1), some (.inl 0)] [] s9
set_option maxRecDepth 100000 in
theorem cE_102_0 (run : cm_RN) (x1 : Int) (s : cm_S) : cm_lp run cm_k102 0 [some (.inr (.inl 14)), some (.inl x1), none, none] [] s = cF_102_0 run (cm_lp run cm_k102) x1 s := (cm_lp_eq run cm_k102 0 _ _ s).trans rfl
/-- ScriptFront$Parser.switchCase, from 35 on -/
def cF_102_36 (run : cm_RN) (X : cm_X) (x1 : Int) (x2 : Int) (x3 : Int) (s : cm_S) : Option cm_R :=
  if 480 < x3 then
    some (.inl (some (.inl x2)), s)
  else
    cm_bi (run 57 [.inr (.inl 14)] s) fun z1 s1 =>
      if z1 = 0 then
        some (.inl (some (.inl x2)), s1)
      else
        if (s1.1 1504) = 2 then
          some (.inl (some (.inl x2)), s1)
        else
          if (s1.1 1504) = 5 then
            some (.inl (some (.inl x2)), s1)
          else
            cm_bi (run 47 [.inr (.inl 14), .inl x1] s1) fun z2 s2 =>
              cm_bv (run 58 [.inr (.inl 4), .inl x2, .inl z2] s2) fun s3 =>
                X 36 [some (.inr (.inl 14)), some (.inl x1), some (.inl x2), some (.inl (cm_w (x3 + 1)))] [] s3
set_option maxRecDepth 100000 in
theorem cE_102_36 (run : cm_RN) (x1 : Int) (x2 : Int) (x3 : Int) (s : cm_S) : cm_lp run cm_k102 36 [some (.inr (.inl 14)), some (.inl x1), some (.inl x2), some (.inl x3)] [] s = cF_102_36 run (cm_lp run cm_k102) x1 x2 x3 s := (cm_lp_eq run cm_k102 36 _ _ s).trans rfl
/-- ScriptFront$Parser.throwStatement, from 0 on -/
def cF_103_0 (run : cm_RN) (X : cm_X) (x1 : Int) (s : cm_S) : Option cm_R :=
  cm_bi (run 56 [.inr (.inl 14), .inl 17] s) fun z1 s1 =>
    cm_bv (run 48 [.inr (.inl 14), .inl x1] s1) fun s2 =>
      if (s2.1 1507) = 0 then
        cm_bi (run 76 [.inr (.inl 14), .inl x1, .inl 0] s2) fun z3 s3 =>
          cm_bv (run 58 [.inr (.inl 4), .inl z1, .inl z3] s3) fun s4 =>
            some (.inl (some (.inl z1)), s4)
      else
        cm_bv (run 52 [.inr (.inl 14)] s2) fun s5 =>
          cm_bi (run 76 [.inr (.inl 14), .inl x1, .inl 0] s5) fun z6 s6 =>
            cm_bv (run 58 [.inr (.inl 4), .inl z1, .inl z6] s6) fun s7 =>
              some (.inl (some (.inl z1)), s7)
set_option maxRecDepth 100000 in
theorem cE_103_0 (run : cm_RN) (x1 : Int) (s : cm_S) : cm_lp run cm_k103 0 [some (.inr (.inl 14)), some (.inl x1), none] [] s = cF_103_0 run (cm_lp run cm_k103) x1 s := (cm_lp_eq run cm_k103 0 _ _ s).trans rfl
/-- ScriptFront$Parser.tryStatement, from 0 on -/
def cF_104_0 (run : cm_RN) (X : cm_X) (x1 : Int) (s : cm_S) : Option cm_R :=
  cm_bi (run 56 [.inr (.inl 14), .inl 18] s) fun z1 s1 =>
    cm_bi (run 54 [.inr (.inl 14), .inl x1] s1) fun z2 s2 =>
      cm_bv (run 58 [.inr (.inl 4), .inl z1, .inl z2] s2) fun s3 =>
        if (s3.1 1504) = 3 then
          cm_bi (run 105 [.inr (.inl 14), .inl x1] s3) fun z4 s4 =>
            cm_bv (run 58 [.inr (.inl 4), .inl z1, .inl z4] s4) fun s5 =>
              if (s5.1 1504) = 10 then
                cm_bv (run 26 [.inr (.inl 15)] s5) fun s6 =>
                  cm_bi (run 54 [.inr (.inl 14), .inl x1] s6) fun z7 s7 =>
                    cm_bv (run 58 [.inr (.inl 4), .inl z1, .inl z7] s7) fun s8 =>
                      some (.inl (some (.inl z1)), s8)
              else
                cm_bi (run 83 [.inr (.inl 14)] s5) fun z9 s9 =>
                  cm_bv (run 58 [.inr (.inl 4), .inl z1, .inl z9] s9) fun s10 =>
                    some (.inl (some (.inl z1)), s10)
        else
          cm_bi (run 83 [.inr (.inl 14)] s3) fun z11 s11 =>
            cm_bv (run 58 [.inr (.inl 4), .inl z1, .inl z11] s11) fun s12 =>
              if (s12.1 1504) = 10 then
                cm_bv (run 26 [.inr (.inl 15)] s12) fun s13 =>
                  cm_bi (run 54 [.inr (.inl 14), .inl x1] s13) fun z14 s14 =>
                    cm_bv (run 58 [.inr (.inl 4), .inl z1, .inl z14] s14) fun s15 =>
                      some (.inl (some (.inl z1)), s15)
              else
                cm_bv (run 52 [.inr (.inl 14)] s12) fun s16 =>
                  some (.inl (some (.inl z1)), s16)
set_option maxRecDepth 100000 in
theorem cE_104_0 (run : cm_RN) (x1 : Int) (s : cm_S) : cm_lp run cm_k104 0 [some (.inr (.inl 14)), some (.inl x1), none, none] [] s = cF_104_0 run (cm_lp run cm_k104) x1 s := (cm_lp_eq run cm_k104 0 _ _ s).trans rfl
/-- ScriptFront$Parser.catchPart, from 0 on -/
def cF_105_0 (run : cm_RN) (X : cm_X) (x1 : Int) (s : cm_S) : Option cm_R :=
  cm_bv (run 26 [.inr (.inl 15)] s) fun s1 =>
    cm_bv (run 60 [.inr (.inl 14), .inl 40] s1) fun s2 =>
      cm_bv (run 63 [.inr (.inl 14)] s2) fun s3 =>
        cm_bi (run 64 [.inr (.inl 14), .inl 19] s3) fun z4 s4 =>
          cm_bv (run 60 [.inr (.inl 14), .inl 41] s4) fun s5 =>
            cm_bi (run 54 [.inr (.inl 14), .inl x1] s5) fun z6 s6 =>
              cm_bv (run 58 [.inr (.inl 4), .inl z4, .inl z6] s6) fun s7 =>
                some (.inl (some (.inl z4)), s7)
set_option maxRecDepth 100000 in
theorem cE_105_0 (run : cm_RN) (x1 : Int) (s : cm_S) : cm_lp run cm_k105 0 [some (.inr (.inl 14)), some (.inl x1), none] [] s = cF_105_0 run (cm_lp run cm_k105) x1 s := (cm_lp_eq run cm_k105 0 _ _ s).trans rfl
/-- ScriptFront$Parser.nameOrExpression, from 0 on -/
def cF_106_0 (run : cm_RN) (X : cm_X) (x1 : Int) (s : cm_S) : Option cm_R :=
  if (s.1 1503) = 1 then
    cm_bi (run 107 [.inr (.inl 15)] s) fun z1 s1 =>
      if z1 = 0 then
        cm_bi (run 75 [.inr (.inl 14), .inl 5] s1) fun z2 s2 =>
          cm_bi (run 76 [.inr (.inl 14), .inl x1, .inl 0] s2) fun z3 s3 =>
            cm_bv (run 58 [.inr (.inl 4), .inl z2, .inl z3] s3) fun s4 =>
              some (.inl (some (.inl z2)), s4)
      else
        cm_bi (run 64 [.inr (.inl 14), .inl 16] s1) fun z5 s5 =>
          cm_bv (run 60 [.inr (.inl 14), .inl 58] s5) fun s6 =>
            cm_bi (run 47 [.inr (.inl 14), .inl x1] s6) fun z7 s7 =>
              cm_bv (run 58 [.inr (.inl 4), .inl z5, .inl z7] s7) fun s8 =>
                some (.inl (some (.inl z5)), s8)
  else
    cm_bi (run 75 [.inr (.inl 14), .inl 5] s) fun z9 s9 =>
      cm_bi (run 76 [.inr (.inl 14), .inl x1, .inl 0] s9) fun z10 s10 =>
        cm_bv (run 58 [.inr (.inl 4), .inl z9, .inl z10] s10) fun s11 =>
          some (.inl (some (.inl z9)), s11)
set_option maxRecDepth 100000 in
theorem cE_106_0 (run : cm_RN) (x1 : Int) (s : cm_S) : cm_lp run cm_k106 0 [some (.inr (.inl 14)), some (.inl x1), none] [] s = cF_106_0 run (cm_lp run cm_k106) x1 s := (cm_lp_eq run cm_k106 0 _ _ s).trans rfl
/-- ScriptFront$Scanner.colonBehind, from 0 on -/
def cF_107_0 (run : cm_RN) (X : cm_X) (s : cm_S) : Option cm_R :=
  cm_bi (run 27 [.inr (.inl 15), .inl (s.1 1506)] s) fun z1 s1 =>
    cm_bi (run 28 [.inr (.inl 1), .inl z1] s1) fun z2 s2 =>
      if z2 = 58 then
        some (.inl (some (.inl 1)), s2)
      else
        some (.inl (some (.inl 0)), s2)
set_option maxRecDepth 100000 in
theorem cE_107_0 (run : cm_RN) (s : cm_S) : cm_lp run cm_k107 0 [some (.inr (.inl 15))] [] s = cF_107_0 run (cm_lp run cm_k107) s := (cm_lp_eq run cm_k107 0 _ _ s).trans rfl
/-- ScriptFront$Draft.kindOf, from 0 on -/
def cF_108_0 (run : cm_RN) (X : cm_X) (x1 : Int) (s : cm_S) : Option cm_R :=
  cm_bi (run 59 [.inr (.inl 4), .inl x1] s) fun z1 s1 =>
    if z1 = 0 then
      some (.inl (some (.inl (-1))), s1)
    else
      if (0 : Int) ≤ x1 ∧ x1 < 512 then
        some (.inl (some (.inl (s1.2 5 x1))), s1)
      else none
set_option maxRecDepth 100000 in
theorem cE_108_0 (run : cm_RN) (x1 : Int) (s : cm_S) : cm_lp run cm_k108 0 [some (.inr (.inl 4)), some (.inl x1)] [] s = cF_108_0 run (cm_lp run cm_k108) x1 s := (cm_lp_eq run cm_k108 0 _ _ s).trans rfl
/-- ScriptFront$Parser.needsSemicolon, from 0 on -/
def cF_109_0 (run : cm_RN) (X : cm_X) (x0 : Int) (s : cm_S) : Option cm_R :=
  if x0 = 2 then
    some (.inl (some (.inl 1)), s)
  else if x0 = 5 then
    some (.inl (some (.inl 1)), s)
  else if x0 = 7 then
    some (.inl (some (.inl 1)), s)
  else if x0 = 11 then
    some (.inl (some (.inl 1)), s)
  else if x0 = 12 then
    some (.inl (some (.inl 1)), s)
  else if x0 = 13 then
    some (.inl (some (.inl 1)), s)
  else if x0 = 17 then
    some (.inl (some (.inl 1)), s)
  else 
    some (.inl (some (.inl 0)), s)
set_option maxRecDepth 100000 in
theorem cE_109_0 (run : cm_RN) (x0 : Int) (s : cm_S) : cm_lp run cm_k109 0 [some (.inl x0)] [] s = cF_109_0 run (cm_lp run cm_k109) x0 s := (cm_lp_eq run cm_k109 0 _ _ s).trans rfl
/-- ScriptFront$Parser.endStatement, from 0 on -/
def cF_110_0 (run : cm_RN) (X : cm_X) (s : cm_S) : Option cm_R :=
  if (s.1 1504) = 59 then
    cm_bv (run 26 [.inr (.inl 15)] s) fun s1 =>
      some (.inl none, s1)
  else
    if (s.1 1507) = 0 then
      if (s.1 1504) = 125 then
        some (.inl none, (cm_p s 1407 (cm_w ((s.1 1407) + 1))))
      else
        if (s.1 1503) = 0 then
          some (.inl none, (cm_p s 1407 (cm_w ((s.1 1407) + 1))))
        else
          cm_bv (run 52 [.inr (.inl 14)] s) fun s2 =>
            some (.inl none, s2)
    else
      some (.inl none, (cm_p s 1407 (cm_w ((s.1 1407) + 1))))
set_option maxRecDepth 100000 in
theorem cE_110_0 (run : cm_RN) (s : cm_S) : cm_lp run cm_k110 0 [some (.inr (.inl 14))] [] s = cF_110_0 run (cm_lp run cm_k110) s := (cm_lp_eq run cm_k110 0 _ _ s).trans rfl
/-- ScriptFront$Draft.orderInto, from 0 on -/
def cF_111_0 (run : cm_RN) (X : cm_X) (p1 : Nat) (x2 : Int) (s : cm_S) : Option cm_R :=
  if cm_cl p1 = 6 then
    (cm_bv (run 112 [.inr (.inl p1)] s) fun s1 =>
      X 7 [some (.inr (.inl 4)), some (.inr (.inl p1)), some (.inl x2), some (.inl x2), some (.inl 0), none] [] s1)
  else none
set_option maxRecDepth 100000 in
theorem cE_111_0 (run : cm_RN) (p1 : Nat) (x2 : Int) (s : cm_S) : cm_lp run cm_k111 0 [some (.inr (.inl 4)), some (.inr (.inl p1)), some (.inl x2), none, none, none] [] s = cF_111_0 run (cm_lp run cm_k111) p1 x2 s := (cm_lp_eq run cm_k111 0 _ _ s).trans rfl
/-- ScriptFront$Draft.orderInto, from 6 on -/
def cF_111_7 (run : cm_RN) (X : cm_X) (p1 : Nat) (o2 : Option cm_V) (x3 : Int) (x4 : Int) (o5 : Option cm_V) (s : cm_S) : Option cm_R :=
  if x4 < 512 then
    cm_bi (run 59 [.inr (.inl 4), .inl x3] s) fun z1 s1 =>
      if z1 = 0 then
        some (.inl none, s1)
      else
        if (0 : Int) ≤ x3 ∧ x3 < 512 then
          cm_bi (run 59 [.inr (.inl 4), .inl (s1.2 12 x3)] s1) fun z2 s2 =>
            if z2 = 0 then
              if (0 : Int) ≤ x3 ∧ x3 < 512 then
                if (0 : Int) ≤ x3 ∧ x3 < 512 then
                  if (0 : Int) ≤ x3 ∧ x3 < 512 then
                    if (0 : Int) ≤ x3 ∧ x3 < 512 then
                      if cm_cl p1 = 6 then
                        (cm_bi (run 113 [.inr (.inl p1), .inl (s2.2 5 x3), .inl (s2.2 6 x3), .inl (s2.2 7 x3), .inl (s2.2 8 x3), .inl (-1)] s2) fun z3 s3 =>
                          if (0 : Int) ≤ x3 ∧ x3 < 512 then
                            (if (0 : Int) ≤ x3 ∧ x3 < 512 then
                              cm_bi (run 59 [.inr (.inl 4), .inl (s3.2 9 x3)] (cm_q s3 13 x3 z3)) fun z4 s4 =>
                                if z4 = 0 then
                                  cm_bi (run 114 [.inr (.inl 4), .inl x3] s4) fun z5 s5 =>
                                    X 7 [some (.inr (.inl 4)), some (.inr (.inl p1)), o2, some (.inl z5), some (.inl (cm_w (x4 + 1))), some (.inl (-1))] [] s5
                                else
                                  if (0 : Int) ≤ x3 ∧ x3 < 512 then
                                    X 7 [some (.inr (.inl 4)), some (.inr (.inl p1)), o2, some (.inl (s4.2 9 x3)), some (.inl (cm_w (x4 + 1))), some (.inl (-1))] [] s4
                                  else none
                            else none)
                          else none)
                      else none
                    else none
                  else none
                else none
              else none
            else
              if (0 : Int) ≤ x3 ∧ x3 < 512 then
                if (0 : Int) ≤ (s2.2 12 x3) ∧ (s2.2 12 x3) < 512 then
                  if (0 : Int) ≤ x3 ∧ x3 < 512 then
                    if (0 : Int) ≤ x3 ∧ x3 < 512 then
                      if (0 : Int) ≤ x3 ∧ x3 < 512 then
                        if (0 : Int) ≤ x3 ∧ x3 < 512 then
                          if cm_cl p1 = 6 then
                            (cm_bi (run 113 [.inr (.inl p1), .inl (s2.2 5 x3), .inl (s2.2 6 x3), .inl (s2.2 7 x3), .inl (s2.2 8 x3), .inl (s2.2 13 (s2.2 12 x3))] s2) fun z6 s6 =>
                              if (0 : Int) ≤ x3 ∧ x3 < 512 then
                                (if (0 : Int) ≤ x3 ∧ x3 < 512 then
                                  cm_bi (run 59 [.inr (.inl 4), .inl (s6.2 9 x3)] (cm_q s6 13 x3 z6)) fun z7 s7 =>
                                    if z7 = 0 then
                                      cm_bi (run 114 [.inr (.inl 4), .inl x3] s7) fun z8 s8 =>
                                        X 7 [some (.inr (.inl 4)), some (.inr (.inl p1)), o2, some (.inl z8), some (.inl (cm_w (x4 + 1))), some (.inl (s2.2 13 (s2.2 12 x3)))] [] s8
                                    else
                                      if (0 : Int) ≤ x3 ∧ x3 < 512 then
                                        X 7 [some (.inr (.inl 4)), some (.inr (.inl p1)), o2, some (.inl (s7.2 9 x3)), some (.inl (cm_w (x4 + 1))), some (.inl (s2.2 13 (s2.2 12 x3)))] [] s7
                                      else none
                                else none)
                              else none)
                          else none
                        else none
                      else none
                    else none
                  else none
                else none
              else none
        else none
  else
    some (.inl none, s)
set_option maxRecDepth 100000 in
theorem cE_111_7 (run : cm_RN) (p1 : Nat) (o2 : Option cm_V) (x3 : Int) (x4 : Int) (o5 : Option cm_V) (s : cm_S) : cm_lp run cm_k111 7 [some (.inr (.inl 4)), some (.inr (.inl p1)), o2, some (.inl x3), some (.inl x4), o5] [] s = cF_111_7 run (cm_lp run cm_k111) p1 o2 x3 x4 o5 s := (cm_lp_eq run cm_k111 7 _ _ s).trans rfl
/-- ScriptFront$Tree.clear, from 0 on -/
def cF_112_0 (run : cm_RN) (X : cm_X) (t : Nat) (s : cm_S) : Option cm_R :=
  if cm_cl t = 6 then
    some (.inl none, (cm_p s (100 * t + 8) 0))
  else none
set_option maxRecDepth 100000 in
theorem cE_112_0 (run : cm_RN) (t : Nat) (s : cm_S) : cm_lp run cm_k112 0 [some (.inr (.inl t))] [] s = cF_112_0 run (cm_lp run cm_k112) t s := (cm_lp_eq run cm_k112 0 _ _ s).trans rfl
/-- ScriptFront$Tree.put, from 0 on -/
def cF_113_0 (run : cm_RN) (X : cm_X) (t : Nat) (x1 : Int) (x2 : Int) (x3 : Int) (x4 : Int) (x5 : Int) (s : cm_S) : Option cm_R :=
  if cm_cl t = 6 then
    if (s.1 (100 * t + 8)) < 0 then
      some (.inl (some (.inl (-1))), s)
    else
      if cm_cl t = 6 then
        if (s.1 (100 * t + 8)) < 512 then
          if cm_cl t = 6 then
            if cm_cl t = 6 then
              if cm_rk (cm_pt t 0) = 0 then
                (if (0 : Int) ≤ (s.1 (100 * t + 8)) ∧ (s.1 (100 * t + 8)) < cm_rn (cm_pt t 0) then
                  (if cm_cl t = 6 then
                    if cm_rk (cm_pt t 1) = 0 then
                      (if (0 : Int) ≤ (s.1 (100 * t + 8)) ∧ (s.1 (100 * t + 8)) < cm_rn (cm_pt t 1) then
                        (if cm_cl t = 6 then
                          if cm_rk (cm_pt t 2) = 0 then
                            (if (0 : Int) ≤ (s.1 (100 * t + 8)) ∧ (s.1 (100 * t + 8)) < cm_rn (cm_pt t 2) then
                              (if cm_cl t = 6 then
                                if cm_rk (cm_pt t 3) = 0 then
                                  (if (0 : Int) ≤ (s.1 (100 * t + 8)) ∧ (s.1 (100 * t + 8)) < cm_rn (cm_pt t 3) then
                                    (if cm_cl t = 6 then
                                      if cm_rk (cm_pt t 4) = 0 then
                                        (if (0 : Int) ≤ (s.1 (100 * t + 8)) ∧ (s.1 (100 * t + 8)) < cm_rn (cm_pt t 4) then
                                          (if cm_cl t = 6 then
                                            if cm_rk (cm_pt t 5) = 0 then
                                              (if (0 : Int) ≤ (s.1 (100 * t + 8)) ∧ (s.1 (100 * t + 8)) < cm_rn (cm_pt t 5) then
                                                (if cm_cl t = 6 then
                                                  if cm_rk (cm_pt t 6) = 0 then
                                                    (if (0 : Int) ≤ (s.1 (100 * t + 8)) ∧ (s.1 (100 * t + 8)) < cm_rn (cm_pt t 6) then
                                                      (if cm_cl t = 6 then
                                                        if cm_rk (cm_pt t 7) = 2 then
                                                          (if (0 : Int) ≤ (s.1 (100 * t + 8)) ∧ (s.1 (100 * t + 8)) < cm_rn (cm_pt t 7) then
                                                            (if cm_cl t = 6 then
                                                              (cm_bi (run 16 [.inr (.inl t), .inl x5] (cm_q (cm_q (cm_q (cm_q (cm_q (cm_q (cm_q (cm_q s (cm_pt t 0) (s.1 (100 * t + 8)) x1) (cm_pt t 1) (s.1 (100 * t + 8)) x2) (cm_pt t 2) (s.1 (100 * t + 8)) x3) (cm_pt t 3) (s.1 (100 * t + 8)) x4) (cm_pt t 4) (s.1 (100 * t + 8)) x5) (cm_pt t 5) (s.1 (100 * t + 8)) 0) (cm_pt t 6) (s.1 (100 * t + 8)) 0) (cm_pt t 7) (s.1 (100 * t + 8)) 0)) fun z1 s1 =>
                                                                if z1 = 0 then
                                                                  if cm_cl t = 6 then
                                                                    if cm_cl t = 6 then
                                                                      some (.inl (some (.inl (s.1 (100 * t + 8)))), (cm_p s1 (100 * t + 8) (cm_w ((s1.1 (100 * t + 8)) + 1))))
                                                                    else none
                                                                  else none
                                                                else
                                                                  if cm_cl t = 6 then
                                                                    if cm_cl t = 6 then
                                                                      if cm_rk (cm_pt t 6) = 0 then
                                                                        (if (0 : Int) ≤ x5 ∧ x5 < cm_rn (cm_pt t 6) then
                                                                          if cm_rk (cm_pt t 5) = 0 then
                                                                            (if (0 : Int) ≤ (s.1 (100 * t + 8)) ∧ (s.1 (100 * t + 8)) < cm_rn (cm_pt t 5) then
                                                                              (if cm_cl t = 6 then
                                                                                if cm_rk (cm_pt t 6) = 0 then
                                                                                  (if (0 : Int) ≤ x5 ∧ x5 < cm_rn (cm_pt t 6) then
                                                                                    if cm_rk (cm_pt t 6) = 0 then
                                                                                      (if (0 : Int) ≤ x5 ∧ x5 < cm_rn (cm_pt t 6) then
                                                                                        (if cm_cl t = 6 then
                                                                                          if cm_cl t = 6 then
                                                                                            some (.inl (some (.inl (s.1 (100 * t + 8)))), (cm_p (cm_q (cm_q s1 (cm_pt t 5) (s.1 (100 * t + 8)) (s1.2 (cm_pt t 6) x5)) (cm_pt t 6) x5 (cm_w (((cm_q s1 (cm_pt t 5) (s.1 (100 * t + 8)) (s1.2 (cm_pt t 6) x5)).2 (cm_pt t 6) x5) + 1))) (100 * t + 8) (cm_w ((s1.1 (100 * t + 8)) + 1))))
                                                                                          else none
                                                                                        else none)
                                                                                      else none)
                                                                                    else none
                                                                                  else none)
                                                                                else if cm_rk (cm_pt t 6) = 10 then
                                                                                  (if (0 : Int) ≤ x5 ∧ x5 < cm_rn (cm_pt t 6) then
                                                                                    if cm_rk (cm_pt t 6) = 0 then
                                                                                      (if (0 : Int) ≤ x5 ∧ x5 < cm_rn (cm_pt t 6) then
                                                                                        (if cm_cl t = 6 then
                                                                                          if cm_cl t = 6 then
                                                                                            some (.inl (some (.inl (s.1 (100 * t + 8)))), (cm_p (cm_q (cm_q s1 (cm_pt t 5) (s.1 (100 * t + 8)) (s1.2 (cm_pt t 6) x5)) (cm_pt t 6) x5 (cm_w ((cm_kr (cm_pt t 6) x5) + 1))) (100 * t + 8) (cm_w ((s1.1 (100 * t + 8)) + 1))))
                                                                                          else none
                                                                                        else none)
                                                                                      else none)
                                                                                    else none
                                                                                  else none)
                                                                                else none
                                                                              else none)
                                                                            else none)
                                                                          else none
                                                                        else none)
                                                                      else if cm_rk (cm_pt t 6) = 10 then
                                                                        (if (0 : Int) ≤ x5 ∧ x5 < cm_rn (cm_pt t 6) then
                                                                          if cm_rk (cm_pt t 5) = 0 then
                                                                            (if (0 : Int) ≤ (s.1 (100 * t + 8)) ∧ (s.1 (100 * t + 8)) < cm_rn (cm_pt t 5) then
                                                                              (if cm_cl t = 6 then
                                                                                if cm_rk (cm_pt t 6) = 0 then
                                                                                  (if (0 : Int) ≤ x5 ∧ x5 < cm_rn (cm_pt t 6) then
                                                                                    if cm_rk (cm_pt t 6) = 0 then
                                                                                      (if (0 : Int) ≤ x5 ∧ x5 < cm_rn (cm_pt t 6) then
                                                                                        (if cm_cl t = 6 then
                                                                                          if cm_cl t = 6 then
                                                                                            some (.inl (some (.inl (s.1 (100 * t + 8)))), (cm_p (cm_q (cm_q s1 (cm_pt t 5) (s.1 (100 * t + 8)) (cm_kr (cm_pt t 6) x5)) (cm_pt t 6) x5 (cm_w (((cm_q s1 (cm_pt t 5) (s.1 (100 * t + 8)) (cm_kr (cm_pt t 6) x5)).2 (cm_pt t 6) x5) + 1))) (100 * t + 8) (cm_w ((s1.1 (100 * t + 8)) + 1))))
                                                                                          else none
                                                                                        else none)
                                                                                      else none)
                                                                                    else none
                                                                                  else none)
                                                                                else if cm_rk (cm_pt t 6) = 10 then
                                                                                  (if (0 : Int) ≤ x5 ∧ x5 < cm_rn (cm_pt t 6) then
                                                                                    if cm_rk (cm_pt t 6) = 0 then
                                                                                      (if (0 : Int) ≤ x5 ∧ x5 < cm_rn (cm_pt t 6) then
                                                                                        (if cm_cl t = 6 then
                                                                                          if cm_cl t = 6 then
                                                                                            some (.inl (some (.inl (s.1 (100 * t + 8)))), (cm_p (cm_q (cm_q s1 (cm_pt t 5) (s.1 (100 * t + 8)) (cm_kr (cm_pt t 6) x5)) (cm_pt t 6) x5 (cm_w ((cm_kr (cm_pt t 6) x5) + 1))) (100 * t + 8) (cm_w ((s1.1 (100 * t + 8)) + 1))))
                                                                                          else none
                                                                                        else none)
                                                                                      else none)
                                                                                    else none
                                                                                  else none)
                                                                                else none
                                                                              else none)
                                                                            else none)
                                                                          else none
                                                                        else none)
                                                                      else none
                                                                    else none
                                                                  else none)
                                                            else none)
                                                          else none)
                                                        else none
                                                      else none)
                                                    else none)
                                                  else none
                                                else none)
                                              else none)
                                            else none
                                          else none)
                                        else none)
                                      else none
                                    else none)
                                  else none)
                                else none
                              else none)
                            else none)
                          else none
                        else none)
                      else none)
                    else none
                  else none)
                else none)
              else none
            else none
          else none
        else
          some (.inl (some (.inl (-1))), s)
      else none
  else none
set_option maxRecDepth 100000 in
theorem cE_113_0 (run : cm_RN) (t : Nat) (x1 : Int) (x2 : Int) (x3 : Int) (x4 : Int) (x5 : Int) (s : cm_S) : cm_lp run cm_k113 0 [some (.inr (.inl t)), some (.inl x1), some (.inl x2), some (.inl x3), some (.inl x4), some (.inl x5), none] [] s = cF_113_0 run (cm_lp run cm_k113) t x1 x2 x3 x4 x5 s := (cm_lp_eq run cm_k113 0 _ _ s).trans rfl
/-- ScriptFront$Draft.behind, from 0 on -/
def cF_114_0 (run : cm_RN) (X : cm_X) (x1 : Int) (s : cm_S) : Option cm_R :=
  X 5 [some (.inr (.inl 4)), some (.inl x1), some (.inl x1), some (.inl 0)] [] s
set_option maxRecDepth 100000 in
theorem cE_114_0 (run : cm_RN) (x1 : Int) (s : cm_S) : cm_lp run cm_k114 0 [some (.inr (.inl 4)), some (.inl x1), none, none] [] s = cF_114_0 run (cm_lp run cm_k114) x1 s := (cm_lp_eq run cm_k114 0 _ _ s).trans rfl
/-- ScriptFront$Draft.behind, from 4 on -/
def cF_114_5 (run : cm_RN) (X : cm_X) (o1 : Option cm_V) (x2 : Int) (x3 : Int) (s : cm_S) : Option cm_R :=
  if x3 < 512 then
    cm_bi (run 59 [.inr (.inl 4), .inl x2] s) fun z1 s1 =>
      if z1 = 0 then
        cm_bi (run 59 [.inr (.inl 4), .inl x2] s1) fun z2 s2 =>
          if z2 = 0 then
            some (.inl (some (.inl (-1))), s2)
          else
            if (0 : Int) ≤ x2 ∧ x2 < 512 then
              some (.inl (some (.inl (s2.2 11 x2))), s2)
            else none
      else
        if (0 : Int) ≤ x2 ∧ x2 < 512 then
          cm_bi (run 59 [.inr (.inl 4), .inl (s1.2 11 x2)] s1) fun z3 s3 =>
            if z3 = 0 then
              if (0 : Int) ≤ x2 ∧ x2 < 512 then
                X 5 [some (.inr (.inl 4)), o1, some (.inl (s3.2 12 x2)), some (.inl (cm_w (x3 + 1)))] [] s3
              else none
            else
              cm_bi (run 59 [.inr (.inl 4), .inl x2] s3) fun z4 s4 =>
                if z4 = 0 then
                  some (.inl (some (.inl (-1))), s4)
                else
                  if (0 : Int) ≤ x2 ∧ x2 < 512 then
                    some (.inl (some (.inl (s4.2 11 x2))), s4)
                  else none
        else none
  else
    cm_bi (run 59 [.inr (.inl 4), .inl x2] s) fun z5 s5 =>
      if z5 = 0 then
        some (.inl (some (.inl (-1))), s5)
      else
        if (0 : Int) ≤ x2 ∧ x2 < 512 then
          some (.inl (some (.inl (s5.2 11 x2))), s5)
        else none
set_option maxRecDepth 100000 in
theorem cE_114_5 (run : cm_RN) (o1 : Option cm_V) (x2 : Int) (x3 : Int) (s : cm_S) : cm_lp run cm_k114 5 [some (.inr (.inl 4)), o1, some (.inl x2), some (.inl x3)] [] s = cF_114_5 run (cm_lp run cm_k114) o1 x2 x3 s := (cm_lp_eq run cm_k114 5 _ _ s).trans rfl
