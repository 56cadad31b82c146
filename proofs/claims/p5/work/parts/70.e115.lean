/-! ===== methods as expressions, printed by wip/gen/cm/pr.py ===== -/
/-- ScriptFront$Judge.look, from 0 on -/
def cF_115_0 (run : cm_RN) (X : cm_X) (p1 : Nat) (s : cm_S) : Option cm_R :=
  X 6 [some (.inr (.inl 36)), some (.inr (.inl p1)), some (.inl 0)] [] (cm_p s 3602 (p1 : Int))
set_option maxRecDepth 100000 in
theorem cE_115_0 (run : cm_RN) (p1 : Nat) (s : cm_S) : cm_lp run cm_k115 0 [some (.inr (.inl 36)), some (.inr (.inl p1)), none] [] s = cF_115_0 run (cm_lp run cm_k115) p1 s := (cm_lp_eq run cm_k115 0 _ _ s).trans rfl
/-- ScriptFront$Judge.look, from 5 on -/
def cF_115_6 (run : cm_RN) (X : cm_X) (o1 : Option cm_V) (x2 : Int) (s : cm_S) : Option cm_R :=
  if cm_cl ((s.1 3602).toNat) = 6 then
    if x2 < (s.1 (100 * ((s.1 3602).toNat) + 8)) then
      cm_bi (run 116 [.inr (.inl 36), .inl x2] s) fun z1 s1 =>
        if cm_cl ((s.1 3602).toNat) = 6 then
          (cm_bv (run 125 [.inr (.inl ((s.1 3602).toNat)), .inl x2, .inl z1] s1) fun s2 =>
            X 6 [some (.inr (.inl 36)), o1, some (.inl (cm_w (x2 + 1)))] [] s2)
        else none
    else
      X 23 [some (.inr (.inl 36)), o1, some (.inl 0)] [] s
  else none
set_option maxRecDepth 100000 in
theorem cE_115_6 (run : cm_RN) (o1 : Option cm_V) (x2 : Int) (s : cm_S) : cm_lp run cm_k115 6 [some (.inr (.inl 36)), o1, some (.inl x2)] [] s = cF_115_6 run (cm_lp run cm_k115) o1 x2 s := (cm_lp_eq run cm_k115 6 _ _ s).trans rfl
/-- ScriptFront$Judge.look, from 21 on -/
def cF_115_23 (run : cm_RN) (X : cm_X) (o1 : Option cm_V) (x2 : Int) (s : cm_S) : Option cm_R :=
  if cm_cl ((s.1 3602).toNat) = 6 then
    if x2 < (s.1 (100 * ((s.1 3602).toNat) + 8)) then
      cm_bi (run 126 [.inr (.inl 36), .inl x2] s) fun z1 s1 =>
        cm_bv (run 129 [.inr (.inl 36), .inl z1, .inl 4, .inl x2] s1) fun s2 =>
          cm_bi (run 130 [.inr (.inl 36), .inl x2] s2) fun z3 s3 =>
            cm_bv (run 129 [.inr (.inl 36), .inl z3, .inl 5, .inl x2] s3) fun s4 =>
              cm_bi (run 136 [.inr (.inl 36), .inl x2] s4) fun z5 s5 =>
                cm_bv (run 129 [.inr (.inl 36), .inl z5, .inl 6, .inl x2] s5) fun s6 =>
                  X 23 [some (.inr (.inl 36)), o1, some (.inl (cm_w (x2 + 1)))] [] s6
    else
      some (.inl none, s)
  else none
set_option maxRecDepth 100000 in
theorem cE_115_23 (run : cm_RN) (o1 : Option cm_V) (x2 : Int) (s : cm_S) : cm_lp run cm_k115 23 [some (.inr (.inl 36)), o1, some (.inl x2)] [] s = cF_115_23 run (cm_lp run cm_k115) o1 x2 s := (cm_lp_eq run cm_k115 23 _ _ s).trans rfl
/-- ScriptFront$Judge.strictness, from 0 on -/
def cF_116_0 (run : cm_RN) (X : cm_X) (x1 : Int) (s : cm_S) : Option cm_R :=
  if cm_cl ((s.1 3602).toNat) = 6 then
    (cm_bi (run 117 [.inr (.inl ((s.1 3602).toNat)), .inl x1] s) fun z1 s1 =>
      if cm_cl ((s1.1 3602).toNat) = 6 then
        (cm_bi (run 15 [.inr (.inl ((s1.1 3602).toNat)), .inl x1] s1) fun z2 s2 =>
          if z2 = 0 then
            cm_bi (run 118 [.inr (.inl 36), .inl x1] s2) fun z3 s3 =>
              if (0 : Int) ≤ z3 ∧ z3 < 2 then some (.inl (some (.inl z3)), s3) else none
          else if z2 = 22 then
            if cm_cl ((s2.1 3602).toNat) = 6 then
              (cm_bi (run 123 [.inr (.inl ((s2.1 3602).toNat)), .inl z1] s2) fun z4 s4 =>
                if z4 = 0 then
                  if cm_cl ((s4.1 3602).toNat) = 6 then
                    (cm_bi (run 124 [.inr (.inl ((s4.1 3602).toNat)), .inl z1] s4) fun z5 s5 =>
                      cm_bi (run 118 [.inr (.inl 36), .inl (cm_w (z1 + z5))] s5) fun z6 s6 =>
                        if z6 = 0 then
                          some (.inl (some (.inl 0)), s6)
                        else
                          some (.inl (some (.inl 1)), s6))
                  else none
                else
                  some (.inl (some (.inl 1)), s4))
            else none
          else if z2 = 23 then
            if cm_cl ((s2.1 3602).toNat) = 6 then
              (cm_bi (run 123 [.inr (.inl ((s2.1 3602).toNat)), .inl z1] s2) fun z7 s7 =>
                if z7 = 0 then
                  if cm_cl ((s7.1 3602).toNat) = 6 then
                    (cm_bi (run 124 [.inr (.inl ((s7.1 3602).toNat)), .inl z1] s7) fun z8 s8 =>
                      cm_bi (run 118 [.inr (.inl 36), .inl (cm_w (z1 + z8))] s8) fun z9 s9 =>
                        if z9 = 0 then
                          some (.inl (some (.inl 0)), s9)
                        else
                          some (.inl (some (.inl 1)), s9))
                  else none
                else
                  some (.inl (some (.inl 1)), s7))
            else none
          else 
            if cm_cl ((s2.1 3602).toNat) = 6 then
              (cm_bi (run 123 [.inr (.inl ((s2.1 3602).toNat)), .inl z1] s2) fun z10 s10 =>
                if (0 : Int) ≤ z10 ∧ z10 < 2 then some (.inl (some (.inl z10)), s10) else none)
            else none)
      else none)
  else none
set_option maxRecDepth 100000 in
theorem cE_116_0 (run : cm_RN) (x1 : Int) (s : cm_S) : cm_lp run cm_k116 0 [some (.inr (.inl 36)), some (.inl x1), none] [] s = cF_116_0 run (cm_lp run cm_k116) x1 s := (cm_lp_eq run cm_k116 0 _ _ s).trans rfl
/-- ScriptFront$Tree.parentOf, from 0 on -/
def cF_117_0 (run : cm_RN) (X : cm_X) (t : Nat) (x1 : Int) (s : cm_S) : Option cm_R :=
  if cm_cl t = 6 then
    (cm_bi (run 16 [.inr (.inl t), .inl x1] s) fun z1 s1 =>
      if z1 = 0 then
        some (.inl (some (.inl (-1))), s1)
      else
        if cm_cl t = 6 then
          if cm_rk (cm_pt t 4) = 0 then
            (if (0 : Int) ≤ x1 ∧ x1 < cm_rn (cm_pt t 4) then
              some (.inl (some (.inl (s1.2 (cm_pt t 4) x1))), s1)
            else none)
          else if cm_rk (cm_pt t 4) = 10 then
            (if (0 : Int) ≤ x1 ∧ x1 < cm_rn (cm_pt t 4) then
              some (.inl (some (.inl (cm_kr (cm_pt t 4) x1))), s1)
            else none)
          else none
        else none)
  else none
set_option maxRecDepth 100000 in
theorem cE_117_0 (run : cm_RN) (t : Nat) (x1 : Int) (s : cm_S) : cm_lp run cm_k117 0 [some (.inr (.inl t)), some (.inl x1)] [] s = cF_117_0 run (cm_lp run cm_k117) t x1 s := (cm_lp_eq run cm_k117 0 _ _ s).trans rfl
/-- ScriptFront$Judge.hasDirective, from 0 on -/
def cF_118_0 (run : cm_RN) (X : cm_X) (x1 : Int) (s : cm_S) : Option cm_R :=
  X 5 [some (.inr (.inl 36)), some (.inl x1), some (.inl (cm_w (x1 + 1))), none] [] s
set_option maxRecDepth 100000 in
theorem cE_118_0 (run : cm_RN) (x1 : Int) (s : cm_S) : cm_lp run cm_k118 0 [some (.inr (.inl 36)), some (.inl x1), none, none] [] s = cF_118_0 run (cm_lp run cm_k118) x1 s := (cm_lp_eq run cm_k118 0 _ _ s).trans rfl
/-- ScriptFront$Judge.hasDirective, from 4 on -/
def cF_118_5 (run : cm_RN) (X : cm_X) (x1 : Int) (x2 : Int) (o3 : Option cm_V) (s : cm_S) : Option cm_R :=
  if cm_cl ((s.1 3602).toNat) = 6 then
    if x2 < (s.1 (100 * ((s.1 3602).toNat) + 8)) then
      cm_bi (run 119 [.inr (.inl 36), .inl x2] s) fun z1 s1 =>
        if z1 = 0 then
          some (.inl (some (.inl 0)), s1)
        else
          if cm_cl ((s1.1 3602).toNat) = 6 then
            (cm_bi (run 117 [.inr (.inl ((s1.1 3602).toNat)), .inl x2] s1) fun z2 s2 =>
              if z2 = x1 then
                if cm_cl ((s2.1 3602).toNat) = 6 then
                  (cm_bi (run 120 [.inr (.inl ((s2.1 3602).toNat)), .inl x2] s2) fun z3 s3 =>
                    if cm_cl ((s3.1 3602).toNat) = 6 then
                      (cm_bi (run 121 [.inr (.inl ((s3.1 3602).toNat)), .inl (cm_w (x2 + 1))] s3) fun z4 s4 =>
                        if z4 = 12 then
                          cm_bi (run 122 [.inr (.inl 1), .inl (cm_w (z3 + 1)), .inr (.inl 1002)] s4) fun z5 s5 =>
                            if z5 = 0 then
                              X 5 [some (.inr (.inl 36)), some (.inl x1), some (.inl (cm_w (x2 + 2))), some (.inl z3)] [] s5
                            else
                              some (.inl (some (.inl 1)), s5)
                        else
                          X 5 [some (.inr (.inl 36)), some (.inl x1), some (.inl (cm_w (x2 + 2))), some (.inl z3)] [] s4)
                    else none)
                else none
              else
                some (.inl (some (.inl 0)), s2))
          else none
    else
      some (.inl (some (.inl 0)), s)
  else none
set_option maxRecDepth 100000 in
theorem cE_118_5 (run : cm_RN) (x1 : Int) (x2 : Int) (o3 : Option cm_V) (s : cm_S) : cm_lp run cm_k118 5 [some (.inr (.inl 36)), some (.inl x1), some (.inl x2), o3] [] s = cF_118_5 run (cm_lp run cm_k118) x1 x2 o3 s := (cm_lp_eq run cm_k118 5 _ _ s).trans rfl
/-- ScriptFront$Judge.isLoneString, from 0 on -/
def cF_119_0 (run : cm_RN) (X : cm_X) (x1 : Int) (s : cm_S) : Option cm_R :=
  if cm_cl ((s.1 3602).toNat) = 6 then
    (cm_bi (run 15 [.inr (.inl ((s.1 3602).toNat)), .inl x1] s) fun z1 s1 =>
      if z1 = 5 then
        if cm_cl ((s1.1 3602).toNat) = 6 then
          (cm_bi (run 15 [.inr (.inl ((s1.1 3602).toNat)), .inl (cm_w (x1 + 1))] s1) fun z2 s2 =>
            if z2 = 34 then
              if cm_cl ((s2.1 3602).toNat) = 6 then
                (cm_bi (run 120 [.inr (.inl ((s2.1 3602).toNat)), .inl x1] s2) fun z3 s3 =>
                  if cm_cl ((s3.1 3602).toNat) = 6 then
                    (cm_bi (run 120 [.inr (.inl ((s3.1 3602).toNat)), .inl (cm_w (x1 + 1))] s3) fun z4 s4 =>
                      if z3 = z4 then
                        some (.inl (some (.inl 1)), s4)
                      else
                        some (.inl (some (.inl 0)), s4))
                  else none)
              else none
            else
              some (.inl (some (.inl 0)), s2))
        else none
      else
        some (.inl (some (.inl 0)), s1))
  else none
set_option maxRecDepth 100000 in
theorem cE_119_0 (run : cm_RN) (x1 : Int) (s : cm_S) : cm_lp run cm_k119 0 [some (.inr (.inl 36)), some (.inl x1)] [] s = cF_119_0 run (cm_lp run cm_k119) x1 s := (cm_lp_eq run cm_k119 0 _ _ s).trans rfl
/-- ScriptFront$Tree.placeOf, from 0 on -/
def cF_120_0 (run : cm_RN) (X : cm_X) (t : Nat) (x1 : Int) (s : cm_S) : Option cm_R :=
  if cm_cl t = 6 then
    (cm_bi (run 16 [.inr (.inl t), .inl x1] s) fun z1 s1 =>
      if z1 = 0 then
        some (.inl (some (.inl (-1))), s1)
      else
        if cm_cl t = 6 then
          if cm_rk (cm_pt t 1) = 0 then
            (if (0 : Int) ≤ x1 ∧ x1 < cm_rn (cm_pt t 1) then
              some (.inl (some (.inl (s1.2 (cm_pt t 1) x1))), s1)
            else none)
          else if cm_rk (cm_pt t 1) = 10 then
            (if (0 : Int) ≤ x1 ∧ x1 < cm_rn (cm_pt t 1) then
              some (.inl (some (.inl (cm_kr (cm_pt t 1) x1))), s1)
            else none)
          else none
        else none)
  else none
set_option maxRecDepth 100000 in
theorem cE_120_0 (run : cm_RN) (t : Nat) (x1 : Int) (s : cm_S) : cm_lp run cm_k120 0 [some (.inr (.inl t)), some (.inl x1)] [] s = cF_120_0 run (cm_lp run cm_k120) t x1 s := (cm_lp_eq run cm_k120 0 _ _ s).trans rfl
/-- ScriptFront$Tree.lengthOf, from 0 on -/
def cF_121_0 (run : cm_RN) (X : cm_X) (t : Nat) (x1 : Int) (s : cm_S) : Option cm_R :=
  if cm_cl t = 6 then
    (cm_bi (run 16 [.inr (.inl t), .inl x1] s) fun z1 s1 =>
      if z1 = 0 then
        some (.inl (some (.inl 0)), s1)
      else
        if cm_cl t = 6 then
          if cm_rk (cm_pt t 2) = 0 then
            (if (0 : Int) ≤ x1 ∧ x1 < cm_rn (cm_pt t 2) then
              some (.inl (some (.inl (s1.2 (cm_pt t 2) x1))), s1)
            else none)
          else if cm_rk (cm_pt t 2) = 10 then
            (if (0 : Int) ≤ x1 ∧ x1 < cm_rn (cm_pt t 2) then
              some (.inl (some (.inl (cm_kr (cm_pt t 2) x1))), s1)
            else none)
          else none
        else none)
  else none
set_option maxRecDepth 100000 in
theorem cE_121_0 (run : cm_RN) (t : Nat) (x1 : Int) (s : cm_S) : cm_lp run cm_k121 0 [some (.inr (.inl t)), some (.inl x1)] [] s = cF_121_0 run (cm_lp run cm_k121) t x1 s := (cm_lp_eq run cm_k121 0 _ _ s).trans rfl
/-- ScriptFront$Tape.hasAt, from 0 on -/
def cF_122_0 (run : cm_RN) (X : cm_X) (x1 : Int) (p2 : Nat) (s : cm_S) : Option cm_R :=
  X 3 [some (.inr (.inl 1)), some (.inl x1), some (.inr (.inl p2)), some (.inl 0)] [] s
set_option maxRecDepth 100000 in
theorem cE_122_0 (run : cm_RN) (x1 : Int) (p2 : Nat) (s : cm_S) : cm_lp run cm_k122 0 [some (.inr (.inl 1)), some (.inl x1), some (.inr (.inl p2)), none] [] s = cF_122_0 run (cm_lp run cm_k122) x1 p2 s := (cm_lp_eq run cm_k122 0 _ _ s).trans rfl
/-- ScriptFront$Tape.hasAt, from 2 on -/
def cF_122_3 (run : cm_RN) (X : cm_X) (x1 : Int) (p2 : Nat) (x3 : Int) (s : cm_S) : Option cm_R :=
  if x3 < (cm_kn p2) then
    cm_bi (run 28 [.inr (.inl 1), .inl (cm_w (x1 + x3))] s) fun z1 s1 =>
      if (0 : Int) ≤ x3 ∧ x3 < cm_kn p2 then
        if z1 = (cm_ka p2 x3) then
          X 3 [some (.inr (.inl 1)), some (.inl x1), some (.inr (.inl p2)), some (.inl (cm_w (x3 + 1)))] [] s1
        else
          some (.inl (some (.inl 0)), s1)
      else none
  else
    some (.inl (some (.inl 1)), s)
set_option maxRecDepth 100000 in
theorem cE_122_3 (run : cm_RN) (x1 : Int) (p2 : Nat) (x3 : Int) (s : cm_S) : cm_lp run cm_k122 3 [some (.inr (.inl 1)), some (.inl x1), some (.inr (.inl p2)), some (.inl x3)] [] s = cF_122_3 run (cm_lp run cm_k122) x1 p2 x3 s := (cm_lp_eq run cm_k122 3 _ _ s).trans rfl
/-- ScriptFront$Tree.isStrict, from 0 on -/
def cF_123_0 (run : cm_RN) (X : cm_X) (t : Nat) (x1 : Int) (s : cm_S) : Option cm_R :=
  if cm_cl t = 6 then
    (cm_bi (run 16 [.inr (.inl t), .inl x1] s) fun z1 s1 =>
      if z1 = 0 then
        some (.inl (some (.inl 0)), s1)
      else
        if cm_cl t = 6 then
          if cm_rk (cm_pt t 7) = 2 ∨ cm_rk (cm_pt t 7) = 3 then
            (if (0 : Int) ≤ x1 ∧ x1 < cm_rn (cm_pt t 7) then
              if (s1.2 (cm_pt t 7) x1) = 0 then
                some (.inl (some (.inl 0)), s1)
              else
                some (.inl (some (.inl 1)), s1)
            else none)
          else none
        else none)
  else none
set_option maxRecDepth 100000 in
theorem cE_123_0 (run : cm_RN) (t : Nat) (x1 : Int) (s : cm_S) : cm_lp run cm_k123 0 [some (.inr (.inl t)), some (.inl x1)] [] s = cF_123_0 run (cm_lp run cm_k123) t x1 s := (cm_lp_eq run cm_k123 0 _ _ s).trans rfl
/-- ScriptFront$Tree.childrenOf, from 0 on -/
def cF_124_0 (run : cm_RN) (X : cm_X) (t : Nat) (x1 : Int) (s : cm_S) : Option cm_R :=
  if cm_cl t = 6 then
    (cm_bi (run 16 [.inr (.inl t), .inl x1] s) fun z1 s1 =>
      if z1 = 0 then
        some (.inl (some (.inl 0)), s1)
      else
        if cm_cl t = 6 then
          if cm_rk (cm_pt t 6) = 0 then
            (if (0 : Int) ≤ x1 ∧ x1 < cm_rn (cm_pt t 6) then
              some (.inl (some (.inl (s1.2 (cm_pt t 6) x1))), s1)
            else none)
          else if cm_rk (cm_pt t 6) = 10 then
            (if (0 : Int) ≤ x1 ∧ x1 < cm_rn (cm_pt t 6) then
              some (.inl (some (.inl (cm_kr (cm_pt t 6) x1))), s1)
            else none)
          else none
        else none)
  else none
set_option maxRecDepth 100000 in
theorem cE_124_0 (run : cm_RN) (t : Nat) (x1 : Int) (s : cm_S) : cm_lp run cm_k124 0 [some (.inr (.inl t)), some (.inl x1)] [] s = cF_124_0 run (cm_lp run cm_k124) t x1 s := (cm_lp_eq run cm_k124 0 _ _ s).trans rfl
/-- ScriptFront$Tree.setStrict, from 0 on -/
def cF_125_0 (run : cm_RN) (X : cm_X) (t : Nat) (x1 : Int) (x2 : Int) (s : cm_S) : Option cm_R :=
  if cm_cl t = 6 then
    (cm_bi (run 16 [.inr (.inl t), .inl x1] s) fun z1 s1 =>
      if z1 = 0 then
        some (.inl none, s1)
      else
        if cm_cl t = 6 then
          if cm_rk (cm_pt t 7) = 2 then
            (if (0 : Int) ≤ x1 ∧ x1 < cm_rn (cm_pt t 7) then
              (if 0 ≤ x2 ∧ x2 < 2 then
                some (.inl none, (cm_q s1 (cm_pt t 7) x1 x2))
              else none)
            else none)
          else none
        else none)
  else none
set_option maxRecDepth 100000 in
theorem cE_125_0 (run : cm_RN) (t : Nat) (x1 : Int) (x2 : Int) (s : cm_S) : cm_lp run cm_k125 0 [some (.inr (.inl t)), some (.inl x1), some (.inl x2)] [] s = cF_125_0 run (cm_lp run cm_k125) t x1 x2 s := (cm_lp_eq run cm_k125 0 _ _ s).trans rfl
/-- ScriptFront$Judge.isWrongTarget, from 0 on -/
def cF_126_0 (run : cm_RN) (X : cm_X) (x1 : Int) (s : cm_S) : Option cm_R :=
  if cm_cl ((s.1 3602).toNat) = 6 then
    (cm_bi (run 15 [.inr (.inl ((s.1 3602).toNat)), .inl (cm_w (x1 + 1))] s) fun z1 s1 =>
      cm_bi (run 127 [.inr (.inl 36), .inl x1] s1) fun z2 s2 =>
        if z2 = 0 then
          some (.inl (some (.inl 0)), s2)
        else
          if z1 = 31 then
            some (.inl (some (.inl 0)), s2)
          else
            if z1 = 40 then
              some (.inl (some (.inl 0)), s2)
            else
              if z1 = 41 then
                some (.inl (some (.inl 0)), s2)
              else
                some (.inl (some (.inl 1)), s2))
  else none
set_option maxRecDepth 100000 in
theorem cE_126_0 (run : cm_RN) (x1 : Int) (s : cm_S) : cm_lp run cm_k126 0 [some (.inr (.inl 36)), some (.inl x1), none] [] s = cF_126_0 run (cm_lp run cm_k126) x1 s := (cm_lp_eq run cm_k126 0 _ _ s).trans rfl
/-- ScriptFront$Judge.hasTarget, from 0 on -/
def cF_127_0 (run : cm_RN) (X : cm_X) (x1 : Int) (s : cm_S) : Option cm_R :=
  if cm_cl ((s.1 3602).toNat) = 6 then
    (cm_bi (run 15 [.inr (.inl ((s.1 3602).toNat)), .inl x1] s) fun z1 s1 =>
      if z1 = 10 then
        if cm_cl ((s1.1 3602).toNat) = 6 then
          (cm_bi (run 15 [.inr (.inl ((s1.1 3602).toNat)), .inl (cm_w (x1 + 1))] s1) fun z2 s2 =>
            if z2 = 2 then
              some (.inl (some (.inl 0)), s2)
            else
              some (.inl (some (.inl 1)), s2))
        else none
      else if z1 = 44 then
        some (.inl (some (.inl 1)), s1)
      else if z1 = 45 then
        if cm_cl ((s1.1 3602).toNat) = 6 then
          (cm_bi (run 128 [.inr (.inl ((s1.1 3602).toNat)), .inl x1] s1) fun z3 s3 =>
            if z3 = 11051 then
              some (.inl (some (.inl 1)), s3)
            else
              if cm_cl ((s3.1 3602).toNat) = 6 then
                (cm_bi (run 128 [.inr (.inl ((s3.1 3602).toNat)), .inl x1] s3) fun z4 s4 =>
                  if z4 = 11565 then
                    some (.inl (some (.inl 1)), s4)
                  else
                    some (.inl (some (.inl 0)), s4))
              else none)
        else none
      else if z1 = 48 then
        some (.inl (some (.inl 1)), s1)
      else 
        some (.inl (some (.inl 0)), s1))
  else none
set_option maxRecDepth 100000 in
theorem cE_127_0 (run : cm_RN) (x1 : Int) (s : cm_S) : cm_lp run cm_k127 0 [some (.inr (.inl 36)), some (.inl x1)] [] s = cF_127_0 run (cm_lp run cm_k127) x1 s := (cm_lp_eq run cm_k127 0 _ _ s).trans rfl
/-- ScriptFront$Tree.signOf, from 0 on -/
def cF_128_0 (run : cm_RN) (X : cm_X) (t : Nat) (x1 : Int) (s : cm_S) : Option cm_R :=
  if cm_cl t = 6 then
    (cm_bi (run 16 [.inr (.inl t), .inl x1] s) fun z1 s1 =>
      if z1 = 0 then
        some (.inl (some (.inl 0)), s1)
      else
        if cm_cl t = 6 then
          if cm_rk (cm_pt t 3) = 0 then
            (if (0 : Int) ≤ x1 ∧ x1 < cm_rn (cm_pt t 3) then
              some (.inl (some (.inl (s1.2 (cm_pt t 3) x1))), s1)
            else none)
          else if cm_rk (cm_pt t 3) = 10 then
            (if (0 : Int) ≤ x1 ∧ x1 < cm_rn (cm_pt t 3) then
              some (.inl (some (.inl (cm_kr (cm_pt t 3) x1))), s1)
            else none)
          else none
        else none)
  else none
set_option maxRecDepth 100000 in
theorem cE_128_0 (run : cm_RN) (t : Nat) (x1 : Int) (s : cm_S) : cm_lp run cm_k128 0 [some (.inr (.inl t)), some (.inl x1)] [] s = cF_128_0 run (cm_lp run cm_k128) t x1 s := (cm_lp_eq run cm_k128 0 _ _ s).trans rfl
/-- ScriptFront$Judge.refuseIf, from 0 on -/
def cF_129_0 (run : cm_RN) (X : cm_X) (x1 : Int) (x2 : Int) (x3 : Int) (s : cm_S) : Option cm_R :=
  if x1 = 0 then
    some (.inl none, s)
  else
    if cm_cl ((s.1 3602).toNat) = 6 then
      (cm_bi (run 120 [.inr (.inl ((s.1 3602).toNat)), .inl x3] s) fun z1 s1 =>
        cm_bv (run 34 [.inr (.inl 3), .inl x2, .inl z1] s1) fun s2 =>
          some (.inl none, s2))
    else none
set_option maxRecDepth 100000 in
theorem cE_129_0 (run : cm_RN) (x1 : Int) (x2 : Int) (x3 : Int) (s : cm_S) : cm_lp run cm_k129 0 [some (.inr (.inl 36)), some (.inl x1), some (.inl x2), some (.inl x3)] [] s = cF_129_0 run (cm_lp run cm_k129) x1 x2 x3 s := (cm_lp_eq run cm_k129 0 _ _ s).trans rfl
/-- ScriptFront$Judge.isWrongInStrictCode, from 0 on -/
def cF_130_0 (run : cm_RN) (X : cm_X) (x1 : Int) (s : cm_S) : Option cm_R :=
  if cm_cl ((s.1 3602).toNat) = 6 then
    (cm_bi (run 15 [.inr (.inl ((s.1 3602).toNat)), .inl x1] s) fun z1 s1 =>
      if z1 = 3 then
        if cm_cl ((s1.1 3602).toNat) = 6 then
          (cm_bi (run 123 [.inr (.inl ((s1.1 3602).toNat)), .inl x1] s1) fun z2 s2 =>
            if z2 = 0 then
              some (.inl (some (.inl 0)), s2)
            else
              cm_bi (run 131 [.inr (.inl 36), .inl x1] s2) fun z3 s3 =>
                if z3 = 0 then
                  some (.inl (some (.inl 0)), s3)
                else
                  some (.inl (some (.inl 1)), s3))
        else none
      else if z1 = 19 then
        if cm_cl ((s1.1 3602).toNat) = 6 then
          (cm_bi (run 123 [.inr (.inl ((s1.1 3602).toNat)), .inl x1] s1) fun z4 s4 =>
            if z4 = 0 then
              some (.inl (some (.inl 0)), s4)
            else
              cm_bi (run 131 [.inr (.inl 36), .inl x1] s4) fun z5 s5 =>
                if z5 = 0 then
                  some (.inl (some (.inl 0)), s5)
                else
                  some (.inl (some (.inl 1)), s5))
        else none
      else if z1 = 20 then
        if cm_cl ((s1.1 3602).toNat) = 6 then
          (cm_bi (run 123 [.inr (.inl ((s1.1 3602).toNat)), .inl (cm_w (x1 + 1))] s1) fun z6 s6 =>
            if z6 = 0 then
              some (.inl (some (.inl 0)), s6)
            else
              cm_bi (run 131 [.inr (.inl 36), .inl x1] s6) fun z7 s7 =>
                if z7 = 0 then
                  some (.inl (some (.inl 0)), s7)
                else
                  some (.inl (some (.inl 1)), s7))
        else none
      else if z1 = 22 then
        if cm_cl ((s1.1 3602).toNat) = 6 then
          (cm_bi (run 123 [.inr (.inl ((s1.1 3602).toNat)), .inl x1] s1) fun z8 s8 =>
            if z8 = 0 then
              some (.inl (some (.inl 0)), s8)
            else
              cm_bi (run 131 [.inr (.inl 36), .inl x1] s8) fun z9 s9 =>
                if z9 = 0 then
                  cm_bi (run 132 [.inr (.inl 36), .inl x1] s9) fun z10 s10 =>
                    if z10 = 0 then
                      some (.inl (some (.inl 0)), s10)
                    else
                      some (.inl (some (.inl 1)), s10)
                else
                  some (.inl (some (.inl 1)), s9))
        else none
      else if z1 = 38 then
        if cm_cl ((s1.1 3602).toNat) = 6 then
          (cm_bi (run 123 [.inr (.inl ((s1.1 3602).toNat)), .inl x1] s1) fun z11 s11 =>
            if z11 = 0 then
              some (.inl (some (.inl 0)), s11)
            else
              cm_bi (run 132 [.inr (.inl 36), .inl x1] s11) fun z12 s12 =>
                if z12 = 0 then
                  some (.inl (some (.inl 0)), s12)
                else
                  some (.inl (some (.inl 1)), s12))
        else none
      else if z1 = 39 then
        if cm_cl ((s1.1 3602).toNat) = 6 then
          (cm_bi (run 123 [.inr (.inl ((s1.1 3602).toNat)), .inl (cm_w (x1 + 1))] s1) fun z13 s13 =>
            if z13 = 0 then
              some (.inl (some (.inl 0)), s13)
            else
              cm_bi (run 131 [.inr (.inl 36), .inl x1] s13) fun z14 s14 =>
                if z14 = 0 then
                  some (.inl (some (.inl 0)), s14)
                else
                  some (.inl (some (.inl 1)), s14))
        else none
      else 
        if cm_cl ((s1.1 3602).toNat) = 6 then
          (cm_bi (run 123 [.inr (.inl ((s1.1 3602).toNat)), .inl x1] s1) fun z15 s15 =>
            if z15 = 0 then
              some (.inl (some (.inl 0)), s15)
            else
              cm_bi (run 134 [.inr (.inl 36), .inl x1] s15) fun z16 s16 =>
                if z16 = 0 then
                  cm_bi (run 135 [.inr (.inl 36), .inl x1] s16) fun z17 s17 =>
                    if z17 = 0 then
                      some (.inl (some (.inl 0)), s17)
                    else
                      some (.inl (some (.inl 1)), s17)
                else
                  some (.inl (some (.inl 1)), s16))
        else none)
  else none
set_option maxRecDepth 100000 in
theorem cE_130_0 (run : cm_RN) (x1 : Int) (s : cm_S) : cm_lp run cm_k130 0 [some (.inr (.inl 36)), some (.inl x1)] [] s = cF_130_0 run (cm_lp run cm_k130) x1 s := (cm_lp_eq run cm_k130 0 _ _ s).trans rfl
/-- ScriptFront$Judge.isGuarded, from 0 on -/
def cF_131_0 (run : cm_RN) (X : cm_X) (x1 : Int) (s : cm_S) : Option cm_R :=
  if cm_cl ((s.1 3602).toNat) = 6 then
    (cm_bi (run 121 [.inr (.inl ((s.1 3602).toNat)), .inl x1] s) fun z1 s1 =>
      if cm_cl ((s1.1 3602).toNat) = 6 then
        (cm_bi (run 120 [.inr (.inl ((s1.1 3602).toNat)), .inl x1] s1) fun z2 s2 =>
          if z1 = 4 then
            cm_bi (run 122 [.inr (.inl 1), .inl z2, .inr (.inl 1003)] s2) fun z3 s3 =>
              if z3 = 0 then
                if z1 = 9 then
                  cm_bi (run 122 [.inr (.inl 1), .inl z2, .inr (.inl 1004)] s3) fun z4 s4 =>
                    if z4 = 0 then
                      some (.inl (some (.inl 0)), s4)
                    else
                      some (.inl (some (.inl 1)), s4)
                else
                  some (.inl (some (.inl 0)), s3)
              else
                some (.inl (some (.inl 1)), s3)
          else
            if z1 = 9 then
              cm_bi (run 122 [.inr (.inl 1), .inl z2, .inr (.inl 1004)] s2) fun z5 s5 =>
                if z5 = 0 then
                  some (.inl (some (.inl 0)), s5)
                else
                  some (.inl (some (.inl 1)), s5)
            else
              some (.inl (some (.inl 0)), s2))
      else none)
  else none
set_option maxRecDepth 100000 in
theorem cE_131_0 (run : cm_RN) (x1 : Int) (s : cm_S) : cm_lp run cm_k131 0 [some (.inr (.inl 36)), some (.inl x1), none, none] [] s = cF_131_0 run (cm_lp run cm_k131) x1 s := (cm_lp_eq run cm_k131 0 _ _ s).trans rfl
/-- ScriptFront$Judge.isRepeated, from 0 on -/
def cF_132_0 (run : cm_RN) (X : cm_X) (x1 : Int) (s : cm_S) : Option cm_R :=
  if cm_cl ((s.1 3602).toNat) = 6 then
    (cm_bi (run 117 [.inr (.inl ((s.1 3602).toNat)), .inl x1] s) fun z1 s1 =>
      X 10 [some (.inr (.inl 36)), some (.inl x1), some (.inl z1), some (.inl (cm_w (z1 + 1))), none] [] s1)
  else none
set_option maxRecDepth 100000 in
theorem cE_132_0 (run : cm_RN) (x1 : Int) (s : cm_S) : cm_lp run cm_k132 0 [some (.inr (.inl 36)), some (.inl x1), none, none, none] [] s = cF_132_0 run (cm_lp run cm_k132) x1 s := (cm_lp_eq run cm_k132 0 _ _ s).trans rfl
/-- ScriptFront$Judge.isRepeated, from 9 on -/
def cF_132_10 (run : cm_RN) (X : cm_X) (x1 : Int) (x2 : Int) (x3 : Int) (o4 : Option cm_V) (s : cm_S) : Option cm_R :=
  if x3 < x1 then
    if cm_cl ((s.1 3602).toNat) = 6 then
      (cm_bi (run 117 [.inr (.inl ((s.1 3602).toNat)), .inl x3] s) fun z1 s1 =>
        if z1 = x2 then
          if cm_cl ((s1.1 3602).toNat) = 6 then
            (cm_bi (run 15 [.inr (.inl ((s1.1 3602).toNat)), .inl x3] s1) fun z2 s2 =>
              if cm_cl ((s2.1 3602).toNat) = 6 then
                (cm_bi (run 15 [.inr (.inl ((s2.1 3602).toNat)), .inl x1] s2) fun z3 s3 =>
                  if z2 = z3 then
                    cm_bi (run 133 [.inr (.inl 36), .inl x3, .inl x1] s3) fun z4 s4 =>
                      if z4 = 0 then
                        X 10 [some (.inr (.inl 36)), some (.inl x1), some (.inl x2), some (.inl (cm_w (x3 + 1))), some (.inl 1)] [] s4
                      else
                        some (.inl (some (.inl 1)), s4)
                  else
                    X 10 [some (.inr (.inl 36)), some (.inl x1), some (.inl x2), some (.inl (cm_w (x3 + 1))), some (.inl 0)] [] s3)
              else none)
          else none
        else
          X 10 [some (.inr (.inl 36)), some (.inl x1), some (.inl x2), some (.inl (cm_w (x3 + 1))), some (.inl 0)] [] s1)
    else none
  else
    some (.inl (some (.inl 0)), s)
set_option maxRecDepth 100000 in
theorem cE_132_10 (run : cm_RN) (x1 : Int) (x2 : Int) (x3 : Int) (o4 : Option cm_V) (s : cm_S) : cm_lp run cm_k132 10 [some (.inr (.inl 36)), some (.inl x1), some (.inl x2), some (.inl x3), o4] [] s = cF_132_10 run (cm_lp run cm_k132) x1 x2 x3 o4 s := (cm_lp_eq run cm_k132 10 _ _ s).trans rfl
/-- ScriptFront$Judge.areAlike, from 0 on -/
def cF_133_0 (run : cm_RN) (X : cm_X) (x1 : Int) (x2 : Int) (s : cm_S) : Option cm_R :=
  if cm_cl ((s.1 3602).toNat) = 6 then
    (cm_bi (run 121 [.inr (.inl ((s.1 3602).toNat)), .inl x1] s) fun z1 s1 =>
      if cm_cl ((s1.1 3602).toNat) = 6 then
        (cm_bi (run 121 [.inr (.inl ((s1.1 3602).toNat)), .inl x2] s1) fun z2 s2 =>
          if z1 = z2 then
            X 16 [some (.inr (.inl 36)), some (.inl x1), some (.inl x2), some (.inl z1), some (.inl 0)] [] s2
          else
            some (.inl (some (.inl 0)), s2))
      else none)
  else none
set_option maxRecDepth 100000 in
theorem cE_133_0 (run : cm_RN) (x1 : Int) (x2 : Int) (s : cm_S) : cm_lp run cm_k133 0 [some (.inr (.inl 36)), some (.inl x1), some (.inl x2), none, none] [] s = cF_133_0 run (cm_lp run cm_k133) x1 x2 s := (cm_lp_eq run cm_k133 0 _ _ s).trans rfl
/-- ScriptFront$Judge.areAlike, from 15 on -/
def cF_133_16 (run : cm_RN) (X : cm_X) (x1 : Int) (x2 : Int) (x3 : Int) (x4 : Int) (s : cm_S) : Option cm_R :=
  if x4 < x3 then
    if cm_cl ((s.1 3602).toNat) = 6 then
      (cm_bi (run 120 [.inr (.inl ((s.1 3602).toNat)), .inl x1] s) fun z1 s1 =>
        cm_bi (run 28 [.inr (.inl 1), .inl (cm_w (z1 + x4))] s1) fun z2 s2 =>
          if cm_cl ((s2.1 3602).toNat) = 6 then
            (cm_bi (run 120 [.inr (.inl ((s2.1 3602).toNat)), .inl x2] s2) fun z3 s3 =>
              cm_bi (run 28 [.inr (.inl 1), .inl (cm_w (z3 + x4))] s3) fun z4 s4 =>
                if z2 = z4 then
                  X 16 [some (.inr (.inl 36)), some (.inl x1), some (.inl x2), some (.inl x3), some (.inl (cm_w (x4 + 1)))] [] s4
                else
                  some (.inl (some (.inl 0)), s4))
          else none)
    else none
  else
    some (.inl (some (.inl 1)), s)
set_option maxRecDepth 100000 in
theorem cE_133_16 (run : cm_RN) (x1 : Int) (x2 : Int) (x3 : Int) (x4 : Int) (s : cm_S) : cm_lp run cm_k133 16 [some (.inr (.inl 36)), some (.inl x1), some (.inl x2), some (.inl x3), some (.inl x4)] [] s = cF_133_16 run (cm_lp run cm_k133) x1 x2 x3 x4 s := (cm_lp_eq run cm_k133 16 _ _ s).trans rfl
/-- ScriptFront$Judge.isGuardedTarget, from 0 on -/
def cF_134_0 (run : cm_RN) (X : cm_X) (x1 : Int) (s : cm_S) : Option cm_R :=
  cm_bi (run 127 [.inr (.inl 36), .inl x1] s) fun z1 s1 =>
    if z1 = 0 then
      some (.inl (some (.inl 0)), s1)
    else
      if cm_cl ((s1.1 3602).toNat) = 6 then
        (cm_bi (run 15 [.inr (.inl ((s1.1 3602).toNat)), .inl (cm_w (x1 + 1))] s1) fun z2 s2 =>
          if z2 = 31 then
            cm_bi (run 131 [.inr (.inl 36), .inl (cm_w (x1 + 1))] s2) fun z3 s3 =>
              if z3 = 0 then
                some (.inl (some (.inl 0)), s3)
              else
                some (.inl (some (.inl 1)), s3)
          else
            some (.inl (some (.inl 0)), s2))
      else none
set_option maxRecDepth 100000 in
theorem cE_134_0 (run : cm_RN) (x1 : Int) (s : cm_S) : cm_lp run cm_k134 0 [some (.inr (.inl 36)), some (.inl x1)] [] s = cF_134_0 run (cm_lp run cm_k134) x1 s := (cm_lp_eq run cm_k134 0 _ _ s).trans rfl
/-- ScriptFront$Judge.isDeletedName, from 0 on -/
def cF_135_0 (run : cm_RN) (X : cm_X) (x1 : Int) (s : cm_S) : Option cm_R :=
  if cm_cl ((s.1 3602).toNat) = 6 then
    (cm_bi (run 15 [.inr (.inl ((s.1 3602).toNat)), .inl x1] s) fun z1 s1 =>
      if z1 = 45 then
        if cm_cl ((s1.1 3602).toNat) = 6 then
          (cm_bi (run 128 [.inr (.inl ((s1.1 3602).toNat)), .inl x1] s1) fun z2 s2 =>
            if z2 = 6 then
              if cm_cl ((s2.1 3602).toNat) = 6 then
                (cm_bi (run 15 [.inr (.inl ((s2.1 3602).toNat)), .inl (cm_w (x1 + 1))] s2) fun z3 s3 =>
                  if z3 = 31 then
                    some (.inl (some (.inl 1)), s3)
                  else
                    some (.inl (some (.inl 0)), s3))
              else none
            else
              some (.inl (some (.inl 0)), s2))
        else none
      else
        some (.inl (some (.inl 0)), s1))
  else none
set_option maxRecDepth 100000 in
theorem cE_135_0 (run : cm_RN) (x1 : Int) (s : cm_S) : cm_lp run cm_k135 0 [some (.inr (.inl 36)), some (.inl x1)] [] s = cF_135_0 run (cm_lp run cm_k135) x1 s := (cm_lp_eq run cm_k135 0 _ _ s).trans rfl
/-- ScriptFront$Judge.isWrongJump, from 0 on -/
def cF_136_0 (run : cm_RN) (X : cm_X) (x1 : Int) (s : cm_S) : Option cm_R :=
  if cm_cl ((s.1 3602).toNat) = 6 then
    (cm_bi (run 15 [.inr (.inl ((s.1 3602).toNat)), .inl x1] s) fun z1 s1 =>
      if z1 = 11 then
        if cm_cl ((s1.1 3602).toNat) = 6 then
          (cm_bi (run 121 [.inr (.inl ((s1.1 3602).toNat)), .inl x1] s1) fun z2 s2 =>
            if z2 = 0 then
              cm_bi (run 140 [.inr (.inl 36), .inl x1, .inl 0] s2) fun z3 s3 =>
                if z3 = 0 then
                  some (.inl (some (.inl 1)), s3)
                else
                  some (.inl (some (.inl 0)), s3)
            else
              cm_bi (run 139 [.inr (.inl 36), .inl x1] s2) fun z4 s4 =>
                cm_bi (run 142 [.inr (.inl 36), .inl z4] s4) fun z5 s5 =>
                  if z5 = 0 then
                    some (.inl (some (.inl 1)), s5)
                  else
                    some (.inl (some (.inl 0)), s5))
        else none
      else if z1 = 12 then
        if cm_cl ((s1.1 3602).toNat) = 6 then
          (cm_bi (run 121 [.inr (.inl ((s1.1 3602).toNat)), .inl x1] s1) fun z6 s6 =>
            if z6 = 0 then
              cm_bi (run 140 [.inr (.inl 36), .inl x1, .inl 1] s6) fun z7 s7 =>
                if z7 = 0 then
                  some (.inl (some (.inl 1)), s7)
                else
                  some (.inl (some (.inl 0)), s7)
            else
              cm_bi (run 139 [.inr (.inl 36), .inl x1] s6) fun z8 s8 =>
                if z8 = (-1) then
                  some (.inl (some (.inl 1)), s8)
                else
                  some (.inl (some (.inl 0)), s8))
        else none
      else if z1 = 13 then
        cm_bi (run 138 [.inr (.inl 36), .inl x1] s1) fun z9 s9 =>
          if z9 = 0 then
            some (.inl (some (.inl 1)), s9)
          else
            some (.inl (some (.inl 0)), s9)
      else if z1 = 15 then
        cm_bi (run 137 [.inr (.inl 36), .inl x1] s1) fun z10 s10 =>
          if (0 : Int) ≤ z10 ∧ z10 < 2 then some (.inl (some (.inl z10)), s10) else none
      else if z1 = 16 then
        cm_bi (run 139 [.inr (.inl 36), .inl x1] s1) fun z11 s11 =>
          if z11 = (-1) then
            some (.inl (some (.inl 0)), s11)
          else
            some (.inl (some (.inl 1)), s11)
      else 
        some (.inl (some (.inl 0)), s1))
  else none
set_option maxRecDepth 100000 in
theorem cE_136_0 (run : cm_RN) (x1 : Int) (s : cm_S) : cm_lp run cm_k136 0 [some (.inr (.inl 36)), some (.inl x1)] [] s = cF_136_0 run (cm_lp run cm_k136) x1 s := (cm_lp_eq run cm_k136 0 _ _ s).trans rfl
/-- ScriptFront$Judge.isSecondDefault, from 0 on -/
def cF_137_0 (run : cm_RN) (X : cm_X) (x1 : Int) (s : cm_S) : Option cm_R :=
  if cm_cl ((s.1 3602).toNat) = 6 then
    (cm_bi (run 117 [.inr (.inl ((s.1 3602).toNat)), .inl x1] s) fun z1 s1 =>
      X 10 [some (.inr (.inl 36)), some (.inl x1), some (.inl z1), some (.inl (cm_w (z1 + 1))), none] [] s1)
  else none
set_option maxRecDepth 100000 in
theorem cE_137_0 (run : cm_RN) (x1 : Int) (s : cm_S) : cm_lp run cm_k137 0 [some (.inr (.inl 36)), some (.inl x1), none, none, none] [] s = cF_137_0 run (cm_lp run cm_k137) x1 s := (cm_lp_eq run cm_k137 0 _ _ s).trans rfl
/-- ScriptFront$Judge.isSecondDefault, from 9 on -/
def cF_137_10 (run : cm_RN) (X : cm_X) (x1 : Int) (x2 : Int) (x3 : Int) (o4 : Option cm_V) (s : cm_S) : Option cm_R :=
  if x3 < x1 then
    if cm_cl ((s.1 3602).toNat) = 6 then
      (cm_bi (run 15 [.inr (.inl ((s.1 3602).toNat)), .inl (cm_w (x1 + 1))] s) fun z1 s1 =>
        if z1 = 21 then
          if cm_cl ((s1.1 3602).toNat) = 6 then
            (cm_bi (run 117 [.inr (.inl ((s1.1 3602).toNat)), .inl x3] s1) fun z2 s2 =>
              if z2 = x2 then
                if cm_cl ((s2.1 3602).toNat) = 6 then
                  (cm_bi (run 15 [.inr (.inl ((s2.1 3602).toNat)), .inl x3] s2) fun z3 s3 =>
                    if z3 = 15 then
                      if cm_cl ((s3.1 3602).toNat) = 6 then
                        (cm_bi (run 15 [.inr (.inl ((s3.1 3602).toNat)), .inl (cm_w (x3 + 1))] s3) fun z4 s4 =>
                          if z4 = 21 then
                            some (.inl (some (.inl 1)), s4)
                          else
                            X 10 [some (.inr (.inl 36)), some (.inl x1), some (.inl x2), some (.inl (cm_w (x3 + 1))), some (.inl 1)] [] s4)
                      else none
                    else
                      X 10 [some (.inr (.inl 36)), some (.inl x1), some (.inl x2), some (.inl (cm_w (x3 + 1))), some (.inl 0)] [] s3)
                else none
              else
                X 10 [some (.inr (.inl 36)), some (.inl x1), some (.inl x2), some (.inl (cm_w (x3 + 1))), some (.inl 0)] [] s2)
          else none
        else
          some (.inl (some (.inl 0)), s1))
    else none
  else
    some (.inl (some (.inl 0)), s)
set_option maxRecDepth 100000 in
theorem cE_137_10 (run : cm_RN) (x1 : Int) (x2 : Int) (x3 : Int) (o4 : Option cm_V) (s : cm_S) : cm_lp run cm_k137 10 [some (.inr (.inl 36)), some (.inl x1), some (.inl x2), some (.inl x3), o4] [] s = cF_137_10 run (cm_lp run cm_k137) x1 x2 x3 o4 s := (cm_lp_eq run cm_k137 10 _ _ s).trans rfl
/-- ScriptFront$Judge.isInFunction, from 0 on -/
def cF_138_0 (run : cm_RN) (X : cm_X) (x1 : Int) (s : cm_S) : Option cm_R :=
  if cm_cl ((s.1 3602).toNat) = 6 then
    (cm_bi (run 117 [.inr (.inl ((s.1 3602).toNat)), .inl x1] s) fun z1 s1 =>
      X 8 [some (.inr (.inl 36)), some (.inl x1), some (.inl z1), some (.inl 0)] [] s1)
  else none
set_option maxRecDepth 100000 in
theorem cE_138_0 (run : cm_RN) (x1 : Int) (s : cm_S) : cm_lp run cm_k138 0 [some (.inr (.inl 36)), some (.inl x1), none, none] [] s = cF_138_0 run (cm_lp run cm_k138) x1 s := (cm_lp_eq run cm_k138 0 _ _ s).trans rfl
/-- ScriptFront$Judge.isInFunction, from 7 on -/
def cF_138_8 (run : cm_RN) (X : cm_X) (o1 : Option cm_V) (x2 : Int) (x3 : Int) (s : cm_S) : Option cm_R :=
  if x3 < 512 then
    if x2 = (-1) then
      some (.inl (some (.inl 0)), s)
    else
      if cm_cl ((s.1 3602).toNat) = 6 then
        (cm_bi (run 15 [.inr (.inl ((s.1 3602).toNat)), .inl x2] s) fun z1 s1 =>
          if z1 = 23 then
            some (.inl (some (.inl 1)), s1)
          else
            if cm_cl ((s1.1 3602).toNat) = 6 then
              (cm_bi (run 117 [.inr (.inl ((s1.1 3602).toNat)), .inl x2] s1) fun z2 s2 =>
                X 8 [some (.inr (.inl 36)), o1, some (.inl z2), some (.inl (cm_w (x3 + 1)))] [] s2)
            else none)
      else none
  else
    some (.inl (some (.inl 0)), s)
set_option maxRecDepth 100000 in
theorem cE_138_8 (run : cm_RN) (o1 : Option cm_V) (x2 : Int) (x3 : Int) (s : cm_S) : cm_lp run cm_k138 8 [some (.inr (.inl 36)), o1, some (.inl x2), some (.inl x3)] [] s = cF_138_8 run (cm_lp run cm_k138) o1 x2 x3 s := (cm_lp_eq run cm_k138 8 _ _ s).trans rfl
/-- ScriptFront$Judge.labelAround, from 0 on -/
def cF_139_0 (run : cm_RN) (X : cm_X) (x1 : Int) (s : cm_S) : Option cm_R :=
  if cm_cl ((s.1 3602).toNat) = 6 then
    (cm_bi (run 117 [.inr (.inl ((s.1 3602).toNat)), .inl x1] s) fun z1 s1 =>
      X 8 [some (.inr (.inl 36)), some (.inl x1), some (.inl z1), some (.inl 0)] [] s1)
  else none
set_option maxRecDepth 100000 in
theorem cE_139_0 (run : cm_RN) (x1 : Int) (s : cm_S) : cm_lp run cm_k139 0 [some (.inr (.inl 36)), some (.inl x1), none, none] [] s = cF_139_0 run (cm_lp run cm_k139) x1 s := (cm_lp_eq run cm_k139 0 _ _ s).trans rfl
/-- ScriptFront$Judge.labelAround, from 7 on -/
def cF_139_8 (run : cm_RN) (X : cm_X) (x1 : Int) (x2 : Int) (x3 : Int) (s : cm_S) : Option cm_R :=
  if x3 < 512 then
    if x2 = (-1) then
      some (.inl (some (.inl (-1))), s)
    else
      if cm_cl ((s.1 3602).toNat) = 6 then
        (cm_bi (run 15 [.inr (.inl ((s.1 3602).toNat)), .inl x2] s) fun z1 s1 =>
          if z1 = 23 then
            some (.inl (some (.inl (-1))), s1)
          else
            if cm_cl ((s1.1 3602).toNat) = 6 then
              (cm_bi (run 15 [.inr (.inl ((s1.1 3602).toNat)), .inl x2] s1) fun z2 s2 =>
                if z2 = 16 then
                  cm_bi (run 133 [.inr (.inl 36), .inl x2, .inl x1] s2) fun z3 s3 =>
                    if z3 = 0 then
                      if cm_cl ((s3.1 3602).toNat) = 6 then
                        (cm_bi (run 117 [.inr (.inl ((s3.1 3602).toNat)), .inl x2] s3) fun z4 s4 =>
                          X 8 [some (.inr (.inl 36)), some (.inl x1), some (.inl z4), some (.inl (cm_w (x3 + 1)))] [] s4)
                      else none
                    else
                      some (.inl (some (.inl x2)), s3)
                else
                  if cm_cl ((s2.1 3602).toNat) = 6 then
                    (cm_bi (run 117 [.inr (.inl ((s2.1 3602).toNat)), .inl x2] s2) fun z5 s5 =>
                      X 8 [some (.inr (.inl 36)), some (.inl x1), some (.inl z5), some (.inl (cm_w (x3 + 1)))] [] s5)
                  else none)
            else none)
      else none
  else
    some (.inl (some (.inl (-1))), s)
set_option maxRecDepth 100000 in
theorem cE_139_8 (run : cm_RN) (x1 : Int) (x2 : Int) (x3 : Int) (s : cm_S) : cm_lp run cm_k139 8 [some (.inr (.inl 36)), some (.inl x1), some (.inl x2), some (.inl x3)] [] s = cF_139_8 run (cm_lp run cm_k139) x1 x2 x3 s := (cm_lp_eq run cm_k139 8 _ _ s).trans rfl
/-- ScriptFront$Judge.isInLoop, from 0 on -/
def cF_140_0 (run : cm_RN) (X : cm_X) (x1 : Int) (x2 : Int) (s : cm_S) : Option cm_R :=
  if cm_cl ((s.1 3602).toNat) = 6 then
    (cm_bi (run 117 [.inr (.inl ((s.1 3602).toNat)), .inl x1] s) fun z1 s1 =>
      X 8 [some (.inr (.inl 36)), some (.inl x1), some (.inl x2), some (.inl z1), some (.inl 0)] [] s1)
  else none
set_option maxRecDepth 100000 in
theorem cE_140_0 (run : cm_RN) (x1 : Int) (x2 : Int) (s : cm_S) : cm_lp run cm_k140 0 [some (.inr (.inl 36)), some (.inl x1), some (.inl x2), none, none] [] s = cF_140_0 run (cm_lp run cm_k140) x1 x2 s := (cm_lp_eq run cm_k140 0 _ _ s).trans rfl
/-- ScriptFront$Judge.isInLoop, from 7 on -/
def cF_140_8 (run : cm_RN) (X : cm_X) (o1 : Option cm_V) (x2 : Int) (x3 : Int) (x4 : Int) (s : cm_S) : Option cm_R :=
  if x4 < 512 then
    if x3 = (-1) then
      some (.inl (some (.inl 0)), s)
    else
      if cm_cl ((s.1 3602).toNat) = 6 then
        (cm_bi (run 15 [.inr (.inl ((s.1 3602).toNat)), .inl x3] s) fun z1 s1 =>
          if z1 = 23 then
            some (.inl (some (.inl 0)), s1)
          else
            if cm_cl ((s1.1 3602).toNat) = 6 then
              (cm_bi (run 15 [.inr (.inl ((s1.1 3602).toNat)), .inl x3] s1) fun z2 s2 =>
                cm_bi (run 141 [.inl z2] s2) fun z3 s3 =>
                  if z3 = 0 then
                    if x2 = 0 then
                      if cm_cl ((s3.1 3602).toNat) = 6 then
                        (cm_bi (run 117 [.inr (.inl ((s3.1 3602).toNat)), .inl x3] s3) fun z4 s4 =>
                          X 8 [some (.inr (.inl 36)), o1, some (.inl x2), some (.inl z4), some (.inl (cm_w (x4 + 1)))] [] s4)
                      else none
                    else
                      if cm_cl ((s3.1 3602).toNat) = 6 then
                        (cm_bi (run 15 [.inr (.inl ((s3.1 3602).toNat)), .inl x3] s3) fun z5 s5 =>
                          if z5 = 14 then
                            some (.inl (some (.inl 1)), s5)
                          else
                            if cm_cl ((s5.1 3602).toNat) = 6 then
                              (cm_bi (run 117 [.inr (.inl ((s5.1 3602).toNat)), .inl x3] s5) fun z6 s6 =>
                                X 8 [some (.inr (.inl 36)), o1, some (.inl x2), some (.inl z6), some (.inl (cm_w (x4 + 1)))] [] s6)
                            else none)
                      else none
                  else
                    some (.inl (some (.inl 1)), s3))
            else none)
      else none
  else
    some (.inl (some (.inl 0)), s)
set_option maxRecDepth 100000 in
theorem cE_140_8 (run : cm_RN) (o1 : Option cm_V) (x2 : Int) (x3 : Int) (x4 : Int) (s : cm_S) : cm_lp run cm_k140 8 [some (.inr (.inl 36)), o1, some (.inl x2), some (.inl x3), some (.inl x4)] [] s = cF_140_8 run (cm_lp run cm_k140) o1 x2 x3 x4 s := (cm_lp_eq run cm_k140 8 _ _ s).trans rfl
/-- ScriptFront$Judge.isLoop, from 0 on -/
def cF_141_0 (run : cm_RN) (X : cm_X) (x0 : Int) (s : cm_S) : Option cm_R :=
  if x0 < 7 then
    some (.inl (some (.inl 0)), s)
  else
    if 10 < x0 then
      some (.inl (some (.inl 0)), s)
    else
      some (.inl (some (.inl 1)), s)
set_option maxRecDepth 100000 in
theorem cE_141_0 (run : cm_RN) (x0 : Int) (s : cm_S) : cm_lp run cm_k141 0 [some (.inl x0)] [] s = cF_141_0 run (cm_lp run cm_k141) x0 s := (cm_lp_eq run cm_k141 0 _ _ s).trans rfl
/-- ScriptFront$Judge.isLoopLabel, from 0 on -/
def cF_142_0 (run : cm_RN) (X : cm_X) (x1 : Int) (s : cm_S) : Option cm_R :=
  X 5 [some (.inr (.inl 36)), some (.inl x1), some (.inl x1), some (.inl 0)] [] s
set_option maxRecDepth 100000 in
theorem cE_142_0 (run : cm_RN) (x1 : Int) (s : cm_S) : cm_lp run cm_k142 0 [some (.inr (.inl 36)), some (.inl x1), none, none] [] s = cF_142_0 run (cm_lp run cm_k142) x1 s := (cm_lp_eq run cm_k142 0 _ _ s).trans rfl
/-- ScriptFront$Judge.isLoopLabel, from 4 on -/
def cF_142_5 (run : cm_RN) (X : cm_X) (x1 : Int) (x2 : Int) (x3 : Int) (s : cm_S) : Option cm_R :=
  if x3 < 512 then
    if cm_cl ((s.1 3602).toNat) = 6 then
      (cm_bi (run 15 [.inr (.inl ((s.1 3602).toNat)), .inl x2] s) fun z1 s1 =>
        if z1 = 16 then
          X 5 [some (.inr (.inl 36)), some (.inl x1), some (.inl (cm_w (x2 + 1))), some (.inl (cm_w (x3 + 1)))] [] s1
        else
          if x1 = (-1) then
            some (.inl (some (.inl 0)), s1)
          else
            if cm_cl ((s1.1 3602).toNat) = 6 then
              (cm_bi (run 15 [.inr (.inl ((s1.1 3602).toNat)), .inl x2] s1) fun z2 s2 =>
                cm_bi (run 141 [.inl z2] s2) fun z3 s3 =>
                  if z3 = 0 then
                    some (.inl (some (.inl 0)), s3)
                  else
                    some (.inl (some (.inl 1)), s3))
            else none)
    else none
  else
    if x1 = (-1) then
      some (.inl (some (.inl 0)), s)
    else
      if cm_cl ((s.1 3602).toNat) = 6 then
        (cm_bi (run 15 [.inr (.inl ((s.1 3602).toNat)), .inl x2] s) fun z4 s4 =>
          cm_bi (run 141 [.inl z4] s4) fun z5 s5 =>
            if z5 = 0 then
              some (.inl (some (.inl 0)), s5)
            else
              some (.inl (some (.inl 1)), s5))
      else none
set_option maxRecDepth 100000 in
theorem cE_142_5 (run : cm_RN) (x1 : Int) (x2 : Int) (x3 : Int) (s : cm_S) : cm_lp run cm_k142 5 [some (.inr (.inl 36)), some (.inl x1), some (.inl x2), some (.inl x3)] [] s = cF_142_5 run (cm_lp run cm_k142) x1 x2 x3 s := (cm_lp_eq run cm_k142 5 _ _ s).trans rfl
/-- ScriptFront$Printer.print, from 0 on -/
def cF_143_0 (run : cm_RN) (X : cm_X) (p1 : Nat) (s : cm_S) : Option cm_R :=
  X 12 [some (.inr (.inl 37)), some (.inr (.inl p1)), some (.inl 0)] [] (cm_p (cm_p (cm_p s 3704 (p1 : Int)) 3706 0) 3705 0)
set_option maxRecDepth 100000 in
theorem cE_143_0 (run : cm_RN) (p1 : Nat) (s : cm_S) : cm_lp run cm_k143 0 [some (.inr (.inl 37)), some (.inr (.inl p1)), none] [] s = cF_143_0 run (cm_lp run cm_k143) p1 s := (cm_lp_eq run cm_k143 0 _ _ s).trans rfl
/-- ScriptFront$Printer.print, from 11 on -/
def cF_143_12 (run : cm_RN) (X : cm_X) (o1 : Option cm_V) (x2 : Int) (s : cm_S) : Option cm_R :=
  if cm_cl ((s.1 3704).toNat) = 6 then
    if x2 < (s.1 (100 * ((s.1 3704).toNat) + 8)) then
      if x2 < 512 then
        cm_bi (run 144 [.inr (.inl 37), .inl x2] s) fun z1 s1 =>
          if (0 : Int) ≤ x2 ∧ x2 < 512 then
            (if 0 ≤ z1 ∧ z1 < 2 then
              cm_bi (run 146 [.inr (.inl 37), .inl x2] (cm_q s1 40 x2 z1)) fun z2 s2 =>
                if z2 = 0 then
                  cm_bi (run 148 [.inr (.inl 37), .inl x2] s2) fun z3 s3 =>
                    if z3 = 0 then
                      if (0 : Int) ≤ x2 ∧ x2 < 512 then
                        (X 12 [some (.inr (.inl 37)), o1, some (.inl (cm_w (x2 + 1)))] [] (cm_q s3 39 x2 0))
                      else none
                    else
                      if (0 : Int) ≤ x2 ∧ x2 < 512 then
                        (X 12 [some (.inr (.inl 37)), o1, some (.inl (cm_w (x2 + 1)))] [] (cm_q s3 39 x2 1))
                      else none
                else
                  if (0 : Int) ≤ x2 ∧ x2 < 512 then
                    (X 12 [some (.inr (.inl 37)), o1, some (.inl (cm_w (x2 + 1)))] [] (cm_q s2 39 x2 1))
                  else none
            else none)
          else none
      else
        X 47 [some (.inr (.inl 37)), o1, some (.inl 0)] [] s
    else
      X 47 [some (.inr (.inl 37)), o1, some (.inl 0)] [] s
  else none
set_option maxRecDepth 100000 in
theorem cE_143_12 (run : cm_RN) (o1 : Option cm_V) (x2 : Int) (s : cm_S) : cm_lp run cm_k143 12 [some (.inr (.inl 37)), o1, some (.inl x2)] [] s = cF_143_12 run (cm_lp run cm_k143) o1 x2 s := (cm_lp_eq run cm_k143 12 _ _ s).trans rfl
/-- ScriptFront$Printer.print, from 45 on -/
def cF_143_47 (run : cm_RN) (X : cm_X) (o1 : Option cm_V) (x2 : Int) (s : cm_S) : Option cm_R :=
  if cm_cl ((s.1 3704).toNat) = 6 then
    if x2 < (s.1 (100 * ((s.1 3704).toNat) + 8)) then
      if x2 < 512 then
        if cm_cl ((s.1 3704).toNat) = 6 then
          (cm_bi (run 15 [.inr (.inl ((s.1 3704).toNat)), .inl x2] s) fun z1 s1 =>
            if z1 = 5 then
              if (cm_w (x2 + 1)) < 512 then
                if (0 : Int) ≤ (cm_w (x2 + 1)) ∧ (cm_w (x2 + 1)) < 512 then
                  if (s1.2 39 (cm_w (x2 + 1))) = 0 then
                    cm_bi (run 150 [.inr (.inl 37), .inl (cm_w (x2 + 1))] s1) fun z2 s2 =>
                      if z2 = 0 then
                        cm_bi (run 152 [.inr (.inl 37), .inl (cm_w (x2 + 1))] s2) fun z3 s3 =>
                          if z3 = 0 then
                            if (0 : Int) ≤ (cm_w (x2 + 1)) ∧ (cm_w (x2 + 1)) < 512 then
                              (X 47 [some (.inr (.inl 37)), o1, some (.inl (cm_w (x2 + 1)))] [] (cm_q s3 39 (cm_w (x2 + 1)) 0))
                            else none
                          else
                            if (0 : Int) ≤ (cm_w (x2 + 1)) ∧ (cm_w (x2 + 1)) < 512 then
                              (X 47 [some (.inr (.inl 37)), o1, some (.inl (cm_w (x2 + 1)))] [] (cm_q s3 39 (cm_w (x2 + 1)) 1))
                            else none
                      else
                        if (0 : Int) ≤ (cm_w (x2 + 1)) ∧ (cm_w (x2 + 1)) < 512 then
                          (X 47 [some (.inr (.inl 37)), o1, some (.inl (cm_w (x2 + 1)))] [] (cm_q s2 39 (cm_w (x2 + 1)) 1))
                        else none
                  else
                    if (0 : Int) ≤ (cm_w (x2 + 1)) ∧ (cm_w (x2 + 1)) < 512 then
                      (X 47 [some (.inr (.inl 37)), o1, some (.inl (cm_w (x2 + 1)))] [] (cm_q s1 39 (cm_w (x2 + 1)) 1))
                    else none
                else none
              else
                X 47 [some (.inr (.inl 37)), o1, some (.inl (cm_w (x2 + 1)))] [] s1
            else
              X 47 [some (.inr (.inl 37)), o1, some (.inl (cm_w (x2 + 1)))] [] s1)
        else none
      else
        X 99 [some (.inr (.inl 37)), o1, some (.inl 0)] [] s
    else
      X 99 [some (.inr (.inl 37)), o1, some (.inl 0)] [] s
  else none
set_option maxRecDepth 100000 in
theorem cE_143_47 (run : cm_RN) (o1 : Option cm_V) (x2 : Int) (s : cm_S) : cm_lp run cm_k143 47 [some (.inr (.inl 37)), o1, some (.inl x2)] [] s = cF_143_47 run (cm_lp run cm_k143) o1 x2 s := (cm_lp_eq run cm_k143 47 _ _ s).trans rfl
/-- ScriptFront$Printer.print, from 96 on -/
def cF_143_99 (run : cm_RN) (X : cm_X) (o1 : Option cm_V) (x2 : Int) (s : cm_S) : Option cm_R :=
  if cm_cl ((s.1 3704).toNat) = 6 then
    if x2 < (s.1 (100 * ((s.1 3704).toNat) + 8)) then
      if cm_cl ((s.1 3704).toNat) = 6 then
        (cm_bi (run 117 [.inr (.inl ((s.1 3704).toNat)), .inl x2] s) fun z1 s1 =>
          cm_bv (run 153 [.inr (.inl 37), .inl z1, .inl (cm_w (x2 - 1))] s1) fun s2 =>
            cm_bv (run 162 [.inr (.inl 37), .inl x2] s2) fun s3 =>
              cm_bv (run 164 [.inr (.inl 37), .inl x2] s3) fun s4 =>
                X 99 [some (.inr (.inl 37)), o1, some (.inl (cm_w (x2 + 1)))] [] s4)
      else none
    else
      if cm_cl ((s.1 3704).toNat) = 6 then
        cm_bv (run 153 [.inr (.inl 37), .inl (-1), .inl (cm_w ((s.1 (100 * ((s.1 3704).toNat) + 8)) - 1))] s) fun s5 =>
          some (.inl none, s5)
      else none
  else none
set_option maxRecDepth 100000 in
theorem cE_143_99 (run : cm_RN) (o1 : Option cm_V) (x2 : Int) (s : cm_S) : cm_lp run cm_k143 99 [some (.inr (.inl 37)), o1, some (.inl x2)] [] s = cF_143_99 run (cm_lp run cm_k143) o1 x2 s := (cm_lp_eq run cm_k143 99 _ _ s).trans rfl
/-- ScriptFront$Printer.isHeading, from 0 on -/
def cF_144_0 (run : cm_RN) (X : cm_X) (x1 : Int) (s : cm_S) : Option cm_R :=
  if cm_cl ((s.1 3704).toNat) = 6 then
    (cm_bi (run 117 [.inr (.inl ((s.1 3704).toNat)), .inl x1] s) fun z1 s1 =>
      if cm_cl ((s1.1 3704).toNat) = 6 then
        (cm_bi (run 15 [.inr (.inl ((s1.1 3704).toNat)), .inl z1] s1) fun z2 s2 =>
          if cm_cl ((s2.1 3704).toNat) = 6 then
            (cm_bi (run 145 [.inr (.inl ((s2.1 3704).toNat)), .inl x1] s2) fun z3 s3 =>
              if z3 = 0 then
                if z2 = 9 then
                  some (.inl (some (.inl 1)), s3)
                else
                  if z2 = 10 then
                    some (.inl (some (.inl 1)), s3)
                  else
                    if z1 < 0 then
                      some (.inl (some (.inl 0)), s3)
                    else
                      if z1 < 512 then
                        if (0 : Int) ≤ z1 ∧ z1 < 512 then
                          if (s3.2 40 z1) = 0 then
                            some (.inl (some (.inl 0)), s3)
                          else
                            if (0 : Int) ≤ z1 ∧ z1 < 512 then
                              if (s3.2 39 z1) = 0 then
                                if z2 = 36 then
                                  some (.inl (some (.inl 0)), s3)
                                else if z2 = 37 then
                                  some (.inl (some (.inl 0)), s3)
                                else if z2 = 39 then
                                  some (.inl (some (.inl 0)), s3)
                                else if z2 = 40 then
                                  some (.inl (some (.inl 1)), s3)
                                else if z2 = 42 then
                                  some (.inl (some (.inl 1)), s3)
                                else if z2 = 43 then
                                  some (.inl (some (.inl 1)), s3)
                                else 
                                  some (.inl (some (.inl 1)), s3)
                              else
                                some (.inl (some (.inl 0)), s3)
                            else none
                        else none
                      else
                        some (.inl (some (.inl 0)), s3)
              else
                if z2 = 9 then
                  some (.inl (some (.inl 0)), s3)
                else
                  if z2 = 10 then
                    some (.inl (some (.inl 0)), s3)
                  else
                    if z1 < 0 then
                      some (.inl (some (.inl 0)), s3)
                    else
                      if z1 < 512 then
                        if (0 : Int) ≤ z1 ∧ z1 < 512 then
                          if (s3.2 40 z1) = 0 then
                            some (.inl (some (.inl 0)), s3)
                          else
                            if (0 : Int) ≤ z1 ∧ z1 < 512 then
                              if (s3.2 39 z1) = 0 then
                                if z2 = 36 then
                                  some (.inl (some (.inl 0)), s3)
                                else if z2 = 37 then
                                  some (.inl (some (.inl 0)), s3)
                                else if z2 = 39 then
                                  some (.inl (some (.inl 0)), s3)
                                else if z2 = 40 then
                                  some (.inl (some (.inl 0)), s3)
                                else if z2 = 42 then
                                  some (.inl (some (.inl 0)), s3)
                                else if z2 = 43 then
                                  some (.inl (some (.inl 0)), s3)
                                else 
                                  some (.inl (some (.inl 1)), s3)
                              else
                                some (.inl (some (.inl 0)), s3)
                            else none
                        else none
                      else
                        some (.inl (some (.inl 0)), s3))
          else none)
      else none)
  else none
set_option maxRecDepth 100000 in
theorem cE_144_0 (run : cm_RN) (x1 : Int) (s : cm_S) : cm_lp run cm_k144 0 [some (.inr (.inl 37)), some (.inl x1), none, none, none] [] s = cF_144_0 run (cm_lp run cm_k144) x1 s := (cm_lp_eq run cm_k144 0 _ _ s).trans rfl
/-- ScriptFront$Tree.rankOf, from 0 on -/
def cF_145_0 (run : cm_RN) (X : cm_X) (t : Nat) (x1 : Int) (s : cm_S) : Option cm_R :=
  if cm_cl t = 6 then
    (cm_bi (run 16 [.inr (.inl t), .inl x1] s) fun z1 s1 =>
      if z1 = 0 then
        some (.inl (some (.inl 0)), s1)
      else
        if cm_cl t = 6 then
          if cm_rk (cm_pt t 5) = 0 then
            (if (0 : Int) ≤ x1 ∧ x1 < cm_rn (cm_pt t 5) then
              some (.inl (some (.inl (s1.2 (cm_pt t 5) x1))), s1)
            else none)
          else if cm_rk (cm_pt t 5) = 10 then
            (if (0 : Int) ≤ x1 ∧ x1 < cm_rn (cm_pt t 5) then
              some (.inl (some (.inl (cm_kr (cm_pt t 5) x1))), s1)
            else none)
          else none
        else none)
  else none
set_option maxRecDepth 100000 in
theorem cE_145_0 (run : cm_RN) (t : Nat) (x1 : Int) (s : cm_S) : cm_lp run cm_k145 0 [some (.inr (.inl t)), some (.inl x1)] [] s = cF_145_0 run (cm_lp run cm_k145) t x1 s := (cm_lp_eq run cm_k145 0 _ _ s).trans rfl
/-- ScriptFront$Printer.bindsLess, from 0 on -/
def cF_146_0 (run : cm_RN) (X : cm_X) (x1 : Int) (s : cm_S) : Option cm_R :=
  if cm_cl ((s.1 3704).toNat) = 6 then
    (cm_bi (run 117 [.inr (.inl ((s.1 3704).toNat)), .inl x1] s) fun z1 s1 =>
      if cm_cl ((s1.1 3704).toNat) = 6 then
        (cm_bi (run 145 [.inr (.inl ((s1.1 3704).toNat)), .inl x1] s1) fun z2 s2 =>
          if z2 = 0 then
            X 14 [some (.inr (.inl 37)), some (.inl x1), some (.inl z1), none, none] [.inl 1] s2
          else
            X 14 [some (.inr (.inl 37)), some (.inl x1), some (.inl z1), none, none] [.inl 0] s2)
      else none)
  else none
set_option maxRecDepth 100000 in
theorem cE_146_0 (run : cm_RN) (x1 : Int) (s : cm_S) : cm_lp run cm_k146 0 [some (.inr (.inl 37)), some (.inl x1), none, none, none] [] s = cF_146_0 run (cm_lp run cm_k146) x1 s := (cm_lp_eq run cm_k146 0 _ _ s).trans rfl
/-- ScriptFront$Printer.bindsLess, from 13 on -/
def cF_146_14 (run : cm_RN) (X : cm_X) (x1 : Int) (x2 : Int) (o3 : Option cm_V) (o4 : Option cm_V) (y0 : Int) (s : cm_S) : Option cm_R :=
  cm_bi (run 147 [.inr (.inl 37), .inl x1] s) fun z1 s1 =>
    if cm_cl ((s1.1 3704).toNat) = 6 then
      (cm_bi (run 15 [.inr (.inl ((s1.1 3704).toNat)), .inl x2] s1) fun z2 s2 =>
        if z2 = 3 then
          if z1 < 1 then
            some (.inl (some (.inl 1)), s2)
          else
            some (.inl (some (.inl 0)), s2)
        else if z2 = 36 then
          if z1 < 1 then
            some (.inl (some (.inl 1)), s2)
          else
            some (.inl (some (.inl 0)), s2)
        else if z2 = 38 then
          if z1 < 1 then
            some (.inl (some (.inl 1)), s2)
          else
            some (.inl (some (.inl 0)), s2)
        else if z2 = 40 then
          if y0 = 0 then
            some (.inl (some (.inl 0)), s2)
          else
            if z1 < 15 then
              some (.inl (some (.inl 1)), s2)
            else
              some (.inl (some (.inl 0)), s2)
        else if z2 = 41 then
          if z1 < 15 then
            some (.inl (some (.inl 1)), s2)
          else
            some (.inl (some (.inl 0)), s2)
        else if z2 = 42 then
          if y0 = 0 then
            if z1 < 1 then
              some (.inl (some (.inl 1)), s2)
            else
              some (.inl (some (.inl 0)), s2)
          else
            if z1 < 15 then
              some (.inl (some (.inl 1)), s2)
            else
              some (.inl (some (.inl 0)), s2)
        else if z2 = 43 then
          if y0 = 0 then
            if z1 < 1 then
              some (.inl (some (.inl 1)), s2)
            else
              some (.inl (some (.inl 0)), s2)
          else
            if z1 < 15 then
              some (.inl (some (.inl 1)), s2)
            else
              some (.inl (some (.inl 0)), s2)
        else if z2 = 44 then
          if z1 < 15 then
            some (.inl (some (.inl 1)), s2)
          else
            some (.inl (some (.inl 0)), s2)
        else if z2 = 45 then
          cm_bi (run 147 [.inr (.inl 37), .inl x2] s2) fun z3 s3 =>
            if z1 < z3 then
              some (.inl (some (.inl 1)), s3)
            else
              some (.inl (some (.inl 0)), s3)
        else if z2 = 46 then
          if y0 = 0 then
            cm_bi (run 147 [.inr (.inl 37), .inl x2] s2) fun z4 s4 =>
              if z4 < z1 then
                some (.inl (some (.inl 0)), s4)
              else
                some (.inl (some (.inl 1)), s4)
          else
            cm_bi (run 147 [.inr (.inl 37), .inl x2] s2) fun z5 s5 =>
              if z1 < z5 then
                some (.inl (some (.inl 1)), s5)
              else
                some (.inl (some (.inl 0)), s5)
        else if z2 = 47 then
          if y0 = 0 then
            if z1 < 1 then
              some (.inl (some (.inl 1)), s2)
            else
              some (.inl (some (.inl 0)), s2)
          else
            if z1 < 3 then
              some (.inl (some (.inl 1)), s2)
            else
              some (.inl (some (.inl 0)), s2)
        else if z2 = 48 then
          if y0 = 0 then
            if z1 < 1 then
              some (.inl (some (.inl 1)), s2)
            else
              some (.inl (some (.inl 0)), s2)
          else
            if z1 < 15 then
              some (.inl (some (.inl 1)), s2)
            else
              some (.inl (some (.inl 0)), s2)
        else if z2 = 49 then
          if z1 < 1 then
            some (.inl (some (.inl 1)), s2)
          else
            some (.inl (some (.inl 0)), s2)
        else 
          some (.inl (some (.inl 0)), s2))
    else none
set_option maxRecDepth 100000 in
theorem cE_146_14 (run : cm_RN) (x1 : Int) (x2 : Int) (o3 : Option cm_V) (o4 : Option cm_V) (y0 : Int) (s : cm_S) : cm_lp run cm_k146 14 [some (.inr (.inl 37)), some (.inl x1), some (.inl x2), o3, o4] [.inl y0] s = cF_146_14 run (cm_lp run cm_k146) x1 x2 o3 o4 y0 s := (cm_lp_eq run cm_k146 14 _ _ s).trans rfl
/-- ScriptFront$Printer.levelOf, from 0 on -/
def cF_147_0 (run : cm_RN) (X : cm_X) (x1 : Int) (s : cm_S) : Option cm_R :=
  if cm_cl ((s.1 3704).toNat) = 6 then
    (cm_bi (run 15 [.inr (.inl ((s.1 3704).toNat)), .inl x1] s) fun z1 s1 =>
      if z1 = 44 then
        some (.inl (some (.inl 14)), s1)
      else if z1 = 45 then
        some (.inl (some (.inl 13)), s1)
      else if z1 = 46 then
        if cm_cl ((s1.1 3704).toNat) = 6 then
          (cm_bi (run 128 [.inr (.inl ((s1.1 3704).toNat)), .inl x1] s1) fun z2 s2 =>
            cm_bi (run 87 [.inl z2] s2) fun z3 s3 =>
              some (.inl (some (.inl (cm_w (2 + z3)))), s3))
        else none
      else if z1 = 47 then
        some (.inl (some (.inl 2)), s1)
      else if z1 = 48 then
        some (.inl (some (.inl 1)), s1)
      else if z1 = 49 then
        some (.inl (some (.inl 0)), s1)
      else 
        some (.inl (some (.inl 15)), s1))
  else none
set_option maxRecDepth 100000 in
theorem cE_147_0 (run : cm_RN) (x1 : Int) (s : cm_S) : cm_lp run cm_k147 0 [some (.inr (.inl 37)), some (.inl x1)] [] s = cF_147_0 run (cm_lp run cm_k147) x1 s := (cm_lp_eq run cm_k147 0 _ _ s).trans rfl
/-- ScriptFront$Printer.isMisread, from 0 on -/
def cF_148_0 (run : cm_RN) (X : cm_X) (x1 : Int) (s : cm_S) : Option cm_R :=
  if cm_cl ((s.1 3704).toNat) = 6 then
    (cm_bi (run 117 [.inr (.inl ((s.1 3704).toNat)), .inl x1] s) fun z1 s1 =>
      if cm_cl ((s.1 3704).toNat) = 6 then
        (cm_bi (run 15 [.inr (.inl ((s.1 3704).toNat)), .inl z1] s1) fun z2 s2 =>
          if z2 = 41 then
            if cm_cl ((s2.1 3704).toNat) = 6 then
              (cm_bi (run 15 [.inr (.inl ((s2.1 3704).toNat)), .inl x1] s2) fun z3 s3 =>
                if z3 = 33 then
                  some (.inl (some (.inl 1)), s3)
                else
                  X 20 [some (.inr (.inl 37)), some (.inl x1), some (.inl z2)] [] s3)
            else none
          else
            X 20 [some (.inr (.inl 37)), some (.inl x1), some (.inl z2)] [] s2)
      else none)
  else none
set_option maxRecDepth 100000 in
theorem cE_148_0 (run : cm_RN) (x1 : Int) (s : cm_S) : cm_lp run cm_k148 0 [some (.inr (.inl 37)), some (.inl x1), none] [] s = cF_148_0 run (cm_lp run cm_k148) x1 s := (cm_lp_eq run cm_k148 0 _ _ s).trans rfl
/-- ScriptFront$Printer.isMisread, from 19 on -/
def cF_148_20 (run : cm_RN) (X : cm_X) (x1 : Int) (x2 : Int) (s : cm_S) : Option cm_R :=
  if x2 = 42 then
    if cm_cl ((s.1 3704).toNat) = 6 then
      (cm_bi (run 145 [.inr (.inl ((s.1 3704).toNat)), .inl x1] s) fun z1 s1 =>
        if z1 = 0 then
          cm_bi (run 149 [.inr (.inl 37), .inl x1] s1) fun z2 s2 =>
            if z2 = 0 then
              if x1 < 0 then
                some (.inl (some (.inl 0)), s2)
              else
                if x1 < 512 then
                  if (0 : Int) ≤ x1 ∧ x1 < 512 then
                    if (s2.2 40 x1) = 0 then
                      some (.inl (some (.inl 0)), s2)
                    else
                      if cm_cl ((s2.1 3704).toNat) = 6 then
                        (cm_bi (run 128 [.inr (.inl ((s2.1 3704).toNat)), .inl x1] s2) fun z3 s3 =>
                          if z3 = 14 then
                            if cm_cl ((s3.1 3704).toNat) = 6 then
                              (cm_bi (run 15 [.inr (.inl ((s3.1 3704).toNat)), .inl x1] s3) fun z4 s4 =>
                                if z4 = 46 then
                                  some (.inl (some (.inl 1)), s4)
                                else
                                  some (.inl (some (.inl 0)), s4))
                            else none
                          else
                            some (.inl (some (.inl 0)), s3))
                      else none
                  else none
                else
                  some (.inl (some (.inl 0)), s2)
            else
              some (.inl (some (.inl 1)), s2)
        else
          if x1 < 0 then
            some (.inl (some (.inl 0)), s1)
          else
            if x1 < 512 then
              if (0 : Int) ≤ x1 ∧ x1 < 512 then
                if (s1.2 40 x1) = 0 then
                  some (.inl (some (.inl 0)), s1)
                else
                  if cm_cl ((s1.1 3704).toNat) = 6 then
                    (cm_bi (run 128 [.inr (.inl ((s1.1 3704).toNat)), .inl x1] s1) fun z5 s5 =>
                      if z5 = 14 then
                        if cm_cl ((s5.1 3704).toNat) = 6 then
                          (cm_bi (run 15 [.inr (.inl ((s5.1 3704).toNat)), .inl x1] s5) fun z6 s6 =>
                            if z6 = 46 then
                              some (.inl (some (.inl 1)), s6)
                            else
                              some (.inl (some (.inl 0)), s6))
                        else none
                      else
                        some (.inl (some (.inl 0)), s5))
                  else none
              else none
            else
              some (.inl (some (.inl 0)), s1))
    else none
  else
    if x1 < 0 then
      some (.inl (some (.inl 0)), s)
    else
      if x1 < 512 then
        if (0 : Int) ≤ x1 ∧ x1 < 512 then
          if (s.2 40 x1) = 0 then
            some (.inl (some (.inl 0)), s)
          else
            if cm_cl ((s.1 3704).toNat) = 6 then
              (cm_bi (run 128 [.inr (.inl ((s.1 3704).toNat)), .inl x1] s) fun z7 s7 =>
                if z7 = 14 then
                  if cm_cl ((s7.1 3704).toNat) = 6 then
                    (cm_bi (run 15 [.inr (.inl ((s7.1 3704).toNat)), .inl x1] s7) fun z8 s8 =>
                      if z8 = 46 then
                        some (.inl (some (.inl 1)), s8)
                      else
                        some (.inl (some (.inl 0)), s8))
                  else none
                else
                  some (.inl (some (.inl 0)), s7))
            else none
        else none
      else
        some (.inl (some (.inl 0)), s)
set_option maxRecDepth 100000 in
theorem cE_148_20 (run : cm_RN) (x1 : Int) (x2 : Int) (s : cm_S) : cm_lp run cm_k148 20 [some (.inr (.inl 37)), some (.inl x1), some (.inl x2)] [] s = cF_148_20 run (cm_lp run cm_k148) x1 x2 s := (cm_lp_eq run cm_k148 20 _ _ s).trans rfl
/-- ScriptFront$Printer.hasCall, from 0 on -/
def cF_149_0 (run : cm_RN) (X : cm_X) (x1 : Int) (s : cm_S) : Option cm_R :=
  X 3 [some (.inr (.inl 37)), some (.inl x1), some (.inl x1), none] [] s
set_option maxRecDepth 100000 in
theorem cE_149_0 (run : cm_RN) (x1 : Int) (s : cm_S) : cm_lp run cm_k149 0 [some (.inr (.inl 37)), some (.inl x1), none, none] [] s = cF_149_0 run (cm_lp run cm_k149) x1 s := (cm_lp_eq run cm_k149 0 _ _ s).trans rfl
/-- ScriptFront$Printer.hasCall, from 2 on -/
def cF_149_3 (run : cm_RN) (X : cm_X) (o1 : Option cm_V) (x2 : Int) (o3 : Option cm_V) (s : cm_S) : Option cm_R :=
  if cm_cl ((s.1 3704).toNat) = 6 then
    if x2 < (s.1 (100 * ((s.1 3704).toNat) + 8)) then
      if cm_cl ((s.1 3704).toNat) = 6 then
        (cm_bi (run 15 [.inr (.inl ((s.1 3704).toNat)), .inl x2] s) fun z1 s1 =>
          if z1 = 40 then
            X 3 [some (.inr (.inl 37)), o1, some (.inl (cm_w (x2 + 1))), some (.inl z1)] [] s1
          else
            if z1 = 41 then
              X 3 [some (.inr (.inl 37)), o1, some (.inl (cm_w (x2 + 1))), some (.inl z1)] [] s1
            else
              if z1 = 43 then
                some (.inl (some (.inl 1)), s1)
              else
                some (.inl (some (.inl 0)), s1))
      else none
    else
      some (.inl (some (.inl 0)), s)
  else none
set_option maxRecDepth 100000 in
theorem cE_149_3 (run : cm_RN) (o1 : Option cm_V) (x2 : Int) (o3 : Option cm_V) (s : cm_S) : cm_lp run cm_k149 3 [some (.inr (.inl 37)), o1, some (.inl x2), o3] [] s = cF_149_3 run (cm_lp run cm_k149) o1 x2 o3 s := (cm_lp_eq run cm_k149 3 _ _ s).trans rfl
/-- ScriptFront$Printer.beginsLikeAnother, from 0 on -/
def cF_150_0 (run : cm_RN) (X : cm_X) (x1 : Int) (s : cm_S) : Option cm_R :=
  X 3 [some (.inr (.inl 37)), some (.inl x1), some (.inl x1)] [] s
set_option maxRecDepth 100000 in
theorem cE_150_0 (run : cm_RN) (x1 : Int) (s : cm_S) : cm_lp run cm_k150 0 [some (.inr (.inl 37)), some (.inl x1), none] [] s = cF_150_0 run (cm_lp run cm_k150) x1 s := (cm_lp_eq run cm_k150 0 _ _ s).trans rfl
/-- ScriptFront$Printer.beginsLikeAnother, from 2 on -/
def cF_150_3 (run : cm_RN) (X : cm_X) (o1 : Option cm_V) (x2 : Int) (s : cm_S) : Option cm_R :=
  if cm_cl ((s.1 3704).toNat) = 6 then
    if x2 < (s.1 (100 * ((s.1 3704).toNat) + 8)) then
      cm_bi (run 151 [.inr (.inl 37), .inl x2] s) fun z1 s1 =>
        if z1 = 0 then
          if cm_cl ((s1.1 3704).toNat) = 6 then
            (cm_bi (run 15 [.inr (.inl ((s1.1 3704).toNat)), .inl x2] s1) fun z2 s2 =>
              if z2 = 37 then
                some (.inl (some (.inl 1)), s2)
              else if z2 = 39 then
                some (.inl (some (.inl 1)), s2)
              else if z2 = 40 then
                X 3 [some (.inr (.inl 37)), o1, some (.inl (cm_w (x2 + 1)))] [] s2
              else if z2 = 41 then
                X 3 [some (.inr (.inl 37)), o1, some (.inl (cm_w (x2 + 1)))] [] s2
              else if z2 = 43 then
                X 3 [some (.inr (.inl 37)), o1, some (.inl (cm_w (x2 + 1)))] [] s2
              else if z2 = 44 then
                X 3 [some (.inr (.inl 37)), o1, some (.inl (cm_w (x2 + 1)))] [] s2
              else if z2 = 46 then
                X 3 [some (.inr (.inl 37)), o1, some (.inl (cm_w (x2 + 1)))] [] s2
              else if z2 = 47 then
                X 3 [some (.inr (.inl 37)), o1, some (.inl (cm_w (x2 + 1)))] [] s2
              else if z2 = 48 then
                X 3 [some (.inr (.inl 37)), o1, some (.inl (cm_w (x2 + 1)))] [] s2
              else if z2 = 49 then
                X 3 [some (.inr (.inl 37)), o1, some (.inl (cm_w (x2 + 1)))] [] s2
              else 
                some (.inl (some (.inl 0)), s2))
          else none
        else
          some (.inl (some (.inl 0)), s1)
    else
      some (.inl (some (.inl 0)), s)
  else none
set_option maxRecDepth 100000 in
theorem cE_150_3 (run : cm_RN) (o1 : Option cm_V) (x2 : Int) (s : cm_S) : cm_lp run cm_k150 3 [some (.inr (.inl 37)), o1, some (.inl x2)] [] s = cF_150_3 run (cm_lp run cm_k150) o1 x2 s := (cm_lp_eq run cm_k150 3 _ _ s).trans rfl
/-- ScriptFront$Printer.hasBrackets, from 0 on -/
def cF_151_0 (run : cm_RN) (X : cm_X) (x1 : Int) (s : cm_S) : Option cm_R :=
  if x1 < 0 then
    some (.inl (some (.inl 0)), s)
  else
    if x1 < 512 then
      if (0 : Int) ≤ x1 ∧ x1 < 512 then
        if (s.2 39 x1) = 0 then
          some (.inl (some (.inl 0)), s)
        else
          some (.inl (some (.inl 1)), s)
      else none
    else
      some (.inl (some (.inl 0)), s)
set_option maxRecDepth 100000 in
theorem cE_151_0 (run : cm_RN) (x1 : Int) (s : cm_S) : cm_lp run cm_k151 0 [some (.inr (.inl 37)), some (.inl x1)] [] s = cF_151_0 run (cm_lp run cm_k151) x1 s := (cm_lp_eq run cm_k151 0 _ _ s).trans rfl
/-- ScriptFront$Printer.hadBrackets, from 0 on -/
def cF_152_0 (run : cm_RN) (X : cm_X) (x1 : Int) (s : cm_S) : Option cm_R :=
  if cm_cl ((s.1 3704).toNat) = 6 then
    (cm_bi (run 15 [.inr (.inl ((s.1 3704).toNat)), .inl x1] s) fun z1 s1 =>
      if z1 = 34 then
        if cm_cl ((s1.1 3704).toNat) = 6 then
          (cm_bi (run 120 [.inr (.inl ((s1.1 3704).toNat)), .inl x1] s1) fun z2 s2 =>
            if cm_cl ((s2.1 3704).toNat) = 6 then
              (cm_bi (run 117 [.inr (.inl ((s2.1 3704).toNat)), .inl x1] s2) fun z3 s3 =>
                if cm_cl ((s2.1 3704).toNat) = 6 then
                  (cm_bi (run 120 [.inr (.inl ((s2.1 3704).toNat)), .inl z3] s3) fun z4 s4 =>
                    if z2 = z4 then
                      some (.inl (some (.inl 0)), s4)
                    else
                      some (.inl (some (.inl 1)), s4))
                else none)
            else none)
        else none
      else
        some (.inl (some (.inl 0)), s1))
  else none
set_option maxRecDepth 100000 in
theorem cE_152_0 (run : cm_RN) (x1 : Int) (s : cm_S) : cm_lp run cm_k152 0 [some (.inr (.inl 37)), some (.inl x1)] [] s = cF_152_0 run (cm_lp run cm_k152) x1 s := (cm_lp_eq run cm_k152 0 _ _ s).trans rfl
/-- ScriptFront$Printer.closeUpTo, from 0 on -/
def cF_153_0 (run : cm_RN) (X : cm_X) (x1 : Int) (x2 : Int) (s : cm_S) : Option cm_R :=
  X 5 [some (.inr (.inl 37)), some (.inl x1), some (.inl x2), some (.inl x2), some (.inl 0)] [] s
set_option maxRecDepth 100000 in
theorem cE_153_0 (run : cm_RN) (x1 : Int) (x2 : Int) (s : cm_S) : cm_lp run cm_k153 0 [some (.inr (.inl 37)), some (.inl x1), some (.inl x2), none, none] [] s = cF_153_0 run (cm_lp run cm_k153) x1 x2 s := (cm_lp_eq run cm_k153 0 _ _ s).trans rfl
/-- ScriptFront$Printer.closeUpTo, from 4 on -/
def cF_153_5 (run : cm_RN) (X : cm_X) (x1 : Int) (x2 : Int) (x3 : Int) (x4 : Int) (s : cm_S) : Option cm_R :=
  if x4 < 512 then
    if x1 < x3 then
      if cm_cl ((s.1 3704).toNat) = 6 then
        (cm_bi (run 15 [.inr (.inl ((s.1 3704).toNat)), .inl x3] s) fun z1 s1 =>
          if z1 < 30 then
            cm_bv (run 160 [.inr (.inl 37), .inl x3] s1) fun s2 =>
              if cm_cl ((s2.1 3704).toNat) = 6 then
                (cm_bi (run 117 [.inr (.inl ((s2.1 3704).toNat)), .inl x3] s2) fun z3 s3 =>
                  X 5 [some (.inr (.inl 37)), some (.inl x1), some (.inl x2), some (.inl z3), some (.inl (cm_w (x4 + 1)))] [] s3)
              else none
          else
            cm_bv (run 154 [.inr (.inl 37), .inl x3, .inl x2] s1) fun s4 =>
              if cm_cl ((s4.1 3704).toNat) = 6 then
                (cm_bi (run 117 [.inr (.inl ((s4.1 3704).toNat)), .inl x3] s4) fun z5 s5 =>
                  X 5 [some (.inr (.inl 37)), some (.inl x1), some (.inl x2), some (.inl z5), some (.inl (cm_w (x4 + 1)))] [] s5)
              else none)
      else none
    else
      some (.inl none, s)
  else
    some (.inl none, s)
set_option maxRecDepth 100000 in
theorem cE_153_5 (run : cm_RN) (x1 : Int) (x2 : Int) (x3 : Int) (x4 : Int) (s : cm_S) : cm_lp run cm_k153 5 [some (.inr (.inl 37)), some (.inl x1), some (.inl x2), some (.inl x3), some (.inl x4)] [] s = cF_153_5 run (cm_lp run cm_k153) x1 x2 x3 x4 s := (cm_lp_eq run cm_k153 5 _ _ s).trans rfl
/-- ScriptFront$Printer.closeExpression, from 0 on -/
def cF_154_0 (run : cm_RN) (X : cm_X) (x1 : Int) (x2 : Int) (s : cm_S) : Option cm_R :=
  if cm_cl ((s.1 3704).toNat) = 6 then
    (cm_bi (run 124 [.inr (.inl ((s.1 3704).toNat)), .inl x1] s) fun z1 s1 =>
      if cm_cl ((s1.1 3704).toNat) = 6 then
        (cm_bi (run 15 [.inr (.inl ((s1.1 3704).toNat)), .inl x1] s1) fun z2 s2 =>
          if z2 = 36 then
            if cm_cl ((s2.1 3704).toNat) = 6 then
              (cm_bi (run 15 [.inr (.inl ((s2.1 3704).toNat)), .inl x2] s2) fun z3 s3 =>
                if z3 = 21 then
                  if cm_cl ((s3.1 3704).toNat) = 6 then
                    (cm_bi (run 117 [.inr (.inl ((s3.1 3704).toNat)), .inl x2] s3) fun z4 s4 =>
                      if z4 = x1 then
                        cm_bv (run 155 [.inr (.inl 37), .inl 1, .inr (.inl 1005)] s4) fun s5 =>
                          cm_bv (run 156 [.inr (.inl 37), .inr (.inl 1006)] s5) fun s6 =>
                            cm_bi (run 151 [.inr (.inl 37), .inl x1] s6) fun z7 s7 =>
                              cm_bv (run 155 [.inr (.inl 37), .inl z7, .inr (.inl 1010)] s7) fun s8 =>
                                some (.inl none, s8)
                      else
                        cm_bv (run 155 [.inr (.inl 37), .inl 0, .inr (.inl 1005)] s4) fun s9 =>
                          cm_bv (run 156 [.inr (.inl 37), .inr (.inl 1006)] s9) fun s10 =>
                            cm_bi (run 151 [.inr (.inl 37), .inl x1] s10) fun z11 s11 =>
                              cm_bv (run 155 [.inr (.inl 37), .inl z11, .inr (.inl 1010)] s11) fun s12 =>
                                some (.inl none, s12))
                  else none
                else
                  cm_bv (run 155 [.inr (.inl 37), .inl 0, .inr (.inl 1005)] s3) fun s13 =>
                    cm_bv (run 156 [.inr (.inl 37), .inr (.inl 1006)] s13) fun s14 =>
                      cm_bi (run 151 [.inr (.inl 37), .inl x1] s14) fun z15 s15 =>
                        cm_bv (run 155 [.inr (.inl 37), .inl z15, .inr (.inl 1010)] s15) fun s16 =>
                          some (.inl none, s16))
            else none
          else if z2 = 37 then
            cm_bv (run 156 [.inr (.inl 37), .inr (.inl 1007)] s2) fun s17 =>
              cm_bi (run 151 [.inr (.inl 37), .inl x1] s17) fun z18 s18 =>
                cm_bv (run 155 [.inr (.inl 37), .inl z18, .inr (.inl 1010)] s18) fun s19 =>
                  some (.inl none, s19)
          else if z2 = 40 then
            cm_bv (run 156 [.inr (.inl 37), .inr (.inl 1006)] s2) fun s20 =>
              cm_bi (run 151 [.inr (.inl 37), .inl x1] s20) fun z21 s21 =>
                cm_bv (run 155 [.inr (.inl 37), .inl z21, .inr (.inl 1010)] s21) fun s22 =>
                  some (.inl none, s22)
          else if z2 = 41 then
            cm_bv (run 156 [.inr (.inl 37), .inr (.inl 1008)] s2) fun s23 =>
              cm_bv (run 159 [.inr (.inl 37), .inl x1] s23) fun s24 =>
                cm_bi (run 151 [.inr (.inl 37), .inl x1] s24) fun z25 s25 =>
                  cm_bv (run 155 [.inr (.inl 37), .inl z25, .inr (.inl 1010)] s25) fun s26 =>
                    some (.inl none, s26)
          else if z2 = 42 then
            if z1 = 1 then
              cm_bv (run 155 [.inr (.inl 37), .inl 1, .inr (.inl 1009)] s2) fun s27 =>
                cm_bv (run 156 [.inr (.inl 37), .inr (.inl 1010)] s27) fun s28 =>
                  cm_bi (run 151 [.inr (.inl 37), .inl x1] s28) fun z29 s29 =>
                    cm_bv (run 155 [.inr (.inl 37), .inl z29, .inr (.inl 1010)] s29) fun s30 =>
                      some (.inl none, s30)
            else
              cm_bv (run 155 [.inr (.inl 37), .inl 0, .inr (.inl 1009)] s2) fun s31 =>
                cm_bv (run 156 [.inr (.inl 37), .inr (.inl 1010)] s31) fun s32 =>
                  cm_bi (run 151 [.inr (.inl 37), .inl x1] s32) fun z33 s33 =>
                    cm_bv (run 155 [.inr (.inl 37), .inl z33, .inr (.inl 1010)] s33) fun s34 =>
                      some (.inl none, s34)
          else if z2 = 43 then
            if z1 = 1 then
              cm_bv (run 155 [.inr (.inl 37), .inl 1, .inr (.inl 1009)] s2) fun s35 =>
                cm_bv (run 156 [.inr (.inl 37), .inr (.inl 1010)] s35) fun s36 =>
                  cm_bi (run 151 [.inr (.inl 37), .inl x1] s36) fun z37 s37 =>
                    cm_bv (run 155 [.inr (.inl 37), .inl z37, .inr (.inl 1010)] s37) fun s38 =>
                      some (.inl none, s38)
            else
              cm_bv (run 155 [.inr (.inl 37), .inl 0, .inr (.inl 1009)] s2) fun s39 =>
                cm_bv (run 156 [.inr (.inl 37), .inr (.inl 1010)] s39) fun s40 =>
                  cm_bi (run 151 [.inr (.inl 37), .inl x1] s40) fun z41 s41 =>
                    cm_bv (run 155 [.inr (.inl 37), .inl z41, .inr (.inl 1010)] s41) fun s42 =>
                      some (.inl none, s42)
          else if z2 = 44 then
            cm_bv (run 159 [.inr (.inl 37), .inl x1] s2) fun s43 =>
              cm_bi (run 151 [.inr (.inl 37), .inl x1] s43) fun z44 s44 =>
                cm_bv (run 155 [.inr (.inl 37), .inl z44, .inr (.inl 1010)] s44) fun s45 =>
                  some (.inl none, s45)
          else 
            cm_bi (run 151 [.inr (.inl 37), .inl x1] s2) fun z46 s46 =>
              cm_bv (run 155 [.inr (.inl 37), .inl z46, .inr (.inl 1010)] s46) fun s47 =>
                some (.inl none, s47))
      else none)
  else none
set_option maxRecDepth 100000 in
theorem cE_154_0 (run : cm_RN) (x1 : Int) (x2 : Int) (s : cm_S) : cm_lp run cm_k154 0 [some (.inr (.inl 37)), some (.inl x1), some (.inl x2), none] [] s = cF_154_0 run (cm_lp run cm_k154) x1 x2 s := (cm_lp_eq run cm_k154 0 _ _ s).trans rfl
/-- ScriptFront$Printer.putIf, from 0 on -/
def cF_155_0 (run : cm_RN) (X : cm_X) (x1 : Int) (p2 : Nat) (s : cm_S) : Option cm_R :=
  if x1 = 0 then
    some (.inl none, s)
  else
    cm_bv (run 156 [.inr (.inl 37), .inr (.inl p2)] s) fun s1 =>
      some (.inl none, s1)
set_option maxRecDepth 100000 in
theorem cE_155_0 (run : cm_RN) (x1 : Int) (p2 : Nat) (s : cm_S) : cm_lp run cm_k155 0 [some (.inr (.inl 37)), some (.inl x1), some (.inr (.inl p2))] [] s = cF_155_0 run (cm_lp run cm_k155) x1 p2 s := (cm_lp_eq run cm_k155 0 _ _ s).trans rfl
/-- ScriptFront$Printer.put, from 0 on -/
def cF_156_0 (run : cm_RN) (X : cm_X) (p1 : Nat) (s : cm_S) : Option cm_R :=
  if (if cm_kn p1 = 0 then (1 : Int) else 0) = 0 then
    if (0 : Int) ≤ 0 ∧ 0 < cm_kn p1 then
      cm_bv (run 157 [.inr (.inl 37), .inl (cm_ka p1 0)] s) fun s1 =>
        X 12 [some (.inr (.inl 37)), some (.inr (.inl p1)), some (.inl 0)] [] s1
    else none
  else
    some (.inl none, s)
set_option maxRecDepth 100000 in
theorem cE_156_0 (run : cm_RN) (p1 : Nat) (s : cm_S) : cm_lp run cm_k156 0 [some (.inr (.inl 37)), some (.inr (.inl p1)), none] [] s = cF_156_0 run (cm_lp run cm_k156) p1 s := (cm_lp_eq run cm_k156 0 _ _ s).trans rfl
/-- ScriptFront$Printer.put, from 11 on -/
def cF_156_12 (run : cm_RN) (X : cm_X) (p1 : Nat) (x2 : Int) (s : cm_S) : Option cm_R :=
  if x2 < (cm_kn p1) then
    if (0 : Int) ≤ x2 ∧ x2 < cm_kn p1 then
      cm_bv (run 158 [.inr (.inl 37), .inl (cm_ka p1 x2)] s) fun s1 =>
        X 12 [some (.inr (.inl 37)), some (.inr (.inl p1)), some (.inl (cm_w (x2 + 1)))] [] s1
    else none
  else
    some (.inl none, s)
set_option maxRecDepth 100000 in
theorem cE_156_12 (run : cm_RN) (p1 : Nat) (x2 : Int) (s : cm_S) : cm_lp run cm_k156 12 [some (.inr (.inl 37)), some (.inr (.inl p1)), some (.inl x2)] [] s = cF_156_12 run (cm_lp run cm_k156) p1 x2 s := (cm_lp_eq run cm_k156 12 _ _ s).trans rfl
/-- ScriptFront$Printer.separateFrom, from 0 on -/
def cF_157_0 (run : cm_RN) (X : cm_X) (x1 : Int) (s : cm_S) : Option cm_R :=
  cm_bi (run 18 [.inr (.inl 37), .inl (cm_w ((s.1 3706) - 1))] s) fun z1 s1 =>
    cm_bi (run 37 [.inl x1] s1) fun z2 s2 =>
      if z2 = 0 then
        if x1 = z1 then
          if x1 = 43 then
            cm_bv (run 158 [.inr (.inl 37), .inl 32] s2) fun s3 =>
              some (.inl none, (cm_p s3 3705 0))
          else
            if x1 = 45 then
              cm_bv (run 158 [.inr (.inl 37), .inl 32] s2) fun s4 =>
                some (.inl none, (cm_p s4 3705 0))
            else
              if x1 = 47 then
                cm_bv (run 158 [.inr (.inl 37), .inl 32] s2) fun s5 =>
                  some (.inl none, (cm_p s5 3705 0))
              else
                some (.inl none, (cm_p s2 3705 0))
        else
          some (.inl none, (cm_p s2 3705 0))
      else
        if (s2.1 3705) = 0 then
          cm_bi (run 37 [.inl z1] s2) fun z6 s6 =>
            if z6 = 0 then
              some (.inl none, (cm_p s6 3705 0))
            else
              cm_bv (run 158 [.inr (.inl 37), .inl 32] s6) fun s7 =>
                some (.inl none, (cm_p s7 3705 0))
        else
          cm_bv (run 158 [.inr (.inl 37), .inl 32] s2) fun s8 =>
            some (.inl none, (cm_p s8 3705 0))
set_option maxRecDepth 100000 in
theorem cE_157_0 (run : cm_RN) (x1 : Int) (s : cm_S) : cm_lp run cm_k157 0 [some (.inr (.inl 37)), some (.inl x1), none, none] [] s = cF_157_0 run (cm_lp run cm_k157) x1 s := (cm_lp_eq run cm_k157 0 _ _ s).trans rfl
/-- ScriptFront$Printer.append, from 0 on -/
def cF_158_0 (run : cm_RN) (X : cm_X) (x1 : Int) (s : cm_S) : Option cm_R :=
  if (s.1 3706) < 0 then
    some (.inl none, s)
  else
    if (s.1 3706) < 1024 then
      if 0 ≤ x1 ∧ x1 < 65536 then
        if (0 : Int) ≤ (s.1 3706) ∧ (s.1 3706) < 1024 then
          (if 0 ≤ x1 ∧ x1 < 65536 then
            some (.inl none, (cm_p (cm_q s 38 (s.1 3706) x1) 3706 (cm_w ((s.1 3706) + 1))))
          else none)
        else none
      else none
    else
      some (.inl none, s)
set_option maxRecDepth 100000 in
theorem cE_158_0 (run : cm_RN) (x1 : Int) (s : cm_S) : cm_lp run cm_k158 0 [some (.inr (.inl 37)), some (.inl x1)] [] s = cF_158_0 run (cm_lp run cm_k158) x1 s := (cm_lp_eq run cm_k158 0 _ _ s).trans rfl
/-- ScriptFront$Printer.putText, from 0 on -/
def cF_159_0 (run : cm_RN) (X : cm_X) (x1 : Int) (s : cm_S) : Option cm_R :=
  if cm_cl ((s.1 3704).toNat) = 6 then
    (cm_bi (run 121 [.inr (.inl ((s.1 3704).toNat)), .inl x1] s) fun z1 s1 =>
      if cm_cl ((s1.1 3704).toNat) = 6 then
        (cm_bi (run 120 [.inr (.inl ((s1.1 3704).toNat)), .inl x1] s1) fun z2 s2 =>
          if 0 < z1 then
            cm_bi (run 28 [.inr (.inl 1), .inl z2] s2) fun z3 s3 =>
              cm_bv (run 157 [.inr (.inl 37), .inl z3] s3) fun s4 =>
                X 21 [some (.inr (.inl 37)), some (.inl x1), some (.inl z1), some (.inl z2), some (.inl 0)] [] s4
          else
            X 21 [some (.inr (.inl 37)), some (.inl x1), some (.inl z1), some (.inl z2), some (.inl 0)] [] s2)
      else none)
  else none
set_option maxRecDepth 100000 in
theorem cE_159_0 (run : cm_RN) (x1 : Int) (s : cm_S) : cm_lp run cm_k159 0 [some (.inr (.inl 37)), some (.inl x1), none, none, none] [] s = cF_159_0 run (cm_lp run cm_k159) x1 s := (cm_lp_eq run cm_k159 0 _ _ s).trans rfl
/-- ScriptFront$Printer.putText, from 20 on -/
def cF_159_21 (run : cm_RN) (X : cm_X) (o1 : Option cm_V) (x2 : Int) (x3 : Int) (x4 : Int) (s : cm_S) : Option cm_R :=
  if x4 < x2 then
    cm_bi (run 28 [.inr (.inl 1), .inl (cm_w (x3 + x4))] s) fun z1 s1 =>
      cm_bv (run 158 [.inr (.inl 37), .inl z1] s1) fun s2 =>
        X 21 [some (.inr (.inl 37)), o1, some (.inl x2), some (.inl x3), some (.inl (cm_w (x4 + 1)))] [] s2
  else
    some (.inl none, s)
set_option maxRecDepth 100000 in
theorem cE_159_21 (run : cm_RN) (o1 : Option cm_V) (x2 : Int) (x3 : Int) (x4 : Int) (s : cm_S) : cm_lp run cm_k159 21 [some (.inr (.inl 37)), o1, some (.inl x2), some (.inl x3), some (.inl x4)] [] s = cF_159_21 run (cm_lp run cm_k159) o1 x2 x3 x4 s := (cm_lp_eq run cm_k159 21 _ _ s).trans rfl
/-- ScriptFront$Printer.closeStatement, from 0 on -/
def cF_160_0 (run : cm_RN) (X : cm_X) (x1 : Int) (s : cm_S) : Option cm_R :=
  if cm_cl ((s.1 3704).toNat) = 6 then
    (cm_bi (run 124 [.inr (.inl ((s.1 3704).toNat)), .inl x1] s) fun z1 s1 =>
      if cm_cl ((s1.1 3704).toNat) = 6 then
        (cm_bi (run 15 [.inr (.inl ((s1.1 3704).toNat)), .inl x1] s1) fun z2 s2 =>
          if z2 = 1 then
            cm_bv (run 156 [.inr (.inl 37), .inr (.inl 1007)] s2) fun s3 =>
              some (.inl none, s3)
          else if z2 = 2 then
            cm_bi (run 161 [.inr (.inl 37), .inl x1] s2) fun z4 s4 =>
              if z4 = 0 then
                cm_bv (run 155 [.inr (.inl 37), .inl 1, .inr (.inl 1013)] s4) fun s5 =>
                  some (.inl none, s5)
              else
                cm_bv (run 155 [.inr (.inl 37), .inl 0, .inr (.inl 1013)] s4) fun s6 =>
                  some (.inl none, s6)
          else if z2 = 4 then
            cm_bv (run 156 [.inr (.inl 37), .inr (.inl 1013)] s2) fun s7 =>
              some (.inl none, s7)
          else if z2 = 5 then
            cm_bv (run 156 [.inr (.inl 37), .inr (.inl 1013)] s2) fun s8 =>
              some (.inl none, s8)
          else if z2 = 7 then
            cm_bv (run 156 [.inr (.inl 37), .inr (.inl 1010)] s2) fun s9 =>
              cm_bv (run 156 [.inr (.inl 37), .inr (.inl 1013)] s9) fun s10 =>
                some (.inl none, s10)
          else if z2 = 11 then
            cm_bv (run 156 [.inr (.inl 37), .inr (.inl 1013)] s2) fun s11 =>
              some (.inl none, s11)
          else if z2 = 12 then
            cm_bv (run 156 [.inr (.inl 37), .inr (.inl 1013)] s2) fun s12 =>
              some (.inl none, s12)
          else if z2 = 13 then
            cm_bv (run 156 [.inr (.inl 37), .inr (.inl 1013)] s2) fun s13 =>
              some (.inl none, s13)
          else if z2 = 14 then
            if z1 = 1 then
              cm_bv (run 155 [.inr (.inl 37), .inl 1, .inr (.inl 1010)] s2) fun s14 =>
                if z1 = 1 then
                  cm_bv (run 155 [.inr (.inl 37), .inl 1, .inr (.inl 1011)] s14) fun s15 =>
                    cm_bv (run 156 [.inr (.inl 37), .inr (.inl 1007)] s15) fun s16 =>
                      some (.inl none, s16)
                else
                  cm_bv (run 155 [.inr (.inl 37), .inl 0, .inr (.inl 1011)] s14) fun s17 =>
                    cm_bv (run 156 [.inr (.inl 37), .inr (.inl 1007)] s17) fun s18 =>
                      some (.inl none, s18)
            else
              cm_bv (run 155 [.inr (.inl 37), .inl 0, .inr (.inl 1010)] s2) fun s19 =>
                if z1 = 1 then
                  cm_bv (run 155 [.inr (.inl 37), .inl 1, .inr (.inl 1011)] s19) fun s20 =>
                    cm_bv (run 156 [.inr (.inl 37), .inr (.inl 1007)] s20) fun s21 =>
                      some (.inl none, s21)
                else
                  cm_bv (run 155 [.inr (.inl 37), .inl 0, .inr (.inl 1011)] s19) fun s22 =>
                    cm_bv (run 156 [.inr (.inl 37), .inr (.inl 1007)] s22) fun s23 =>
                      some (.inl none, s23)
          else if z2 = 15 then
            if z1 = 1 then
              cm_bv (run 155 [.inr (.inl 37), .inl 1, .inr (.inl 1012)] s2) fun s24 =>
                some (.inl none, s24)
            else
              cm_bv (run 155 [.inr (.inl 37), .inl 0, .inr (.inl 1012)] s2) fun s25 =>
                some (.inl none, s25)
          else if z2 = 17 then
            cm_bv (run 156 [.inr (.inl 37), .inr (.inl 1013)] s2) fun s26 =>
              some (.inl none, s26)
          else if z2 = 23 then
            cm_bv (run 156 [.inr (.inl 37), .inr (.inl 1007)] s2) fun s27 =>
              some (.inl none, s27)
          else 
            some (.inl none, s2))
      else none)
  else none
set_option maxRecDepth 100000 in
theorem cE_160_0 (run : cm_RN) (x1 : Int) (s : cm_S) : cm_lp run cm_k160 0 [some (.inr (.inl 37)), some (.inl x1), none] [] s = cF_160_0 run (cm_lp run cm_k160) x1 s := (cm_lp_eq run cm_k160 0 _ _ s).trans rfl
/-- ScriptFront$Printer.isForPart, from 0 on -/
def cF_161_0 (run : cm_RN) (X : cm_X) (x1 : Int) (s : cm_S) : Option cm_R :=
  if cm_cl ((s.1 3704).toNat) = 6 then
    (cm_bi (run 117 [.inr (.inl ((s.1 3704).toNat)), .inl x1] s) fun z1 s1 =>
      if cm_cl ((s.1 3704).toNat) = 6 then
        (cm_bi (run 15 [.inr (.inl ((s.1 3704).toNat)), .inl z1] s1) fun z2 s2 =>
          if z2 = 9 then
            if cm_cl ((s2.1 3704).toNat) = 6 then
              (cm_bi (run 145 [.inr (.inl ((s2.1 3704).toNat)), .inl x1] s2) fun z3 s3 =>
                if z3 = 0 then
                  some (.inl (some (.inl 1)), s3)
                else
                  some (.inl (some (.inl 0)), s3))
            else none
          else
            if z2 = 10 then
              if cm_cl ((s2.1 3704).toNat) = 6 then
                (cm_bi (run 145 [.inr (.inl ((s2.1 3704).toNat)), .inl x1] s2) fun z4 s4 =>
                  if z4 = 0 then
                    some (.inl (some (.inl 1)), s4)
                  else
                    some (.inl (some (.inl 0)), s4))
              else none
            else
              some (.inl (some (.inl 0)), s2))
      else none)
  else none
set_option maxRecDepth 100000 in
theorem cE_161_0 (run : cm_RN) (x1 : Int) (s : cm_S) : cm_lp run cm_k161 0 [some (.inr (.inl 37)), some (.inl x1), none] [] s = cF_161_0 run (cm_lp run cm_k161) x1 s := (cm_lp_eq run cm_k161 0 _ _ s).trans rfl
/-- ScriptFront$Printer.putAhead, from 0 on -/
def cF_162_0 (run : cm_RN) (X : cm_X) (x1 : Int) (s : cm_S) : Option cm_R :=
  if cm_cl ((s.1 3704).toNat) = 6 then
    (cm_bi (run 117 [.inr (.inl ((s.1 3704).toNat)), .inl x1] s) fun z1 s1 =>
      if cm_cl ((s1.1 3704).toNat) = 6 then
        (cm_bi (run 145 [.inr (.inl ((s1.1 3704).toNat)), .inl x1] s1) fun z2 s2 =>
          if cm_cl ((s2.1 3704).toNat) = 6 then
            (cm_bi (run 15 [.inr (.inl ((s2.1 3704).toNat)), .inl z1] s2) fun z3 s3 =>
              if z3 = 2 then
                if 0 < z2 then
                  cm_bv (run 155 [.inr (.inl 37), .inl 1, .inr (.inl 1005)] s3) fun s4 =>
                    some (.inl none, s4)
                else
                  cm_bv (run 155 [.inr (.inl 37), .inl 0, .inr (.inl 1005)] s3) fun s5 =>
                    some (.inl none, s5)
              else if z3 = 3 then
                cm_bv (run 156 [.inr (.inl 37), .inr (.inl 1014)] s3) fun s6 =>
                  some (.inl none, s6)
              else if z3 = 15 then
                if z2 = 1 then
                  cm_bv (run 155 [.inr (.inl 37), .inl 1, .inr (.inl 1012)] s3) fun s7 =>
                    some (.inl none, s7)
                else
                  cm_bv (run 155 [.inr (.inl 37), .inl 0, .inr (.inl 1012)] s3) fun s8 =>
                    some (.inl none, s8)
              else if z3 = 18 then
                if z2 = 2 then
                  if cm_cl ((s3.1 3704).toNat) = 6 then
                    (cm_bi (run 15 [.inr (.inl ((s3.1 3704).toNat)), .inl x1] s3) fun z9 s9 =>
                      if z9 = 1 then
                        cm_bv (run 155 [.inr (.inl 37), .inl 1, .inr (.inl 1015)] s9) fun s10 =>
                          some (.inl none, s10)
                      else
                        X 51 [some (.inr (.inl 37)), some (.inl x1), some (.inl z1), some (.inl z2)] [.inr (.inl 37)] s9)
                  else none
                else
                  X 51 [some (.inr (.inl 37)), some (.inl x1), some (.inl z1), some (.inl z2)] [.inr (.inl 37)] s3
              else if z3 = 20 then
                if cm_cl ((s3.1 3704).toNat) = 6 then
                  (cm_bi (run 15 [.inr (.inl ((s3.1 3704).toNat)), .inl x1] s3) fun z11 s11 =>
                    if z11 = 23 then
                      cm_bv (run 156 [.inr (.inl 37), .inr (.inl 1010)] s11) fun s12 =>
                        some (.inl none, s12)
                    else
                      if 0 < z2 then
                        cm_bv (run 155 [.inr (.inl 37), .inl 1, .inr (.inl 1005)] s11) fun s13 =>
                          some (.inl none, s13)
                      else
                        cm_bv (run 155 [.inr (.inl 37), .inl 0, .inr (.inl 1005)] s11) fun s14 =>
                          some (.inl none, s14))
                else none
              else if z3 = 36 then
                if 0 < z2 then
                  cm_bv (run 155 [.inr (.inl 37), .inl 1, .inr (.inl 1005)] s3) fun s15 =>
                    some (.inl none, s15)
                else
                  cm_bv (run 155 [.inr (.inl 37), .inl 0, .inr (.inl 1005)] s3) fun s16 =>
                    some (.inl none, s16)
              else if z3 = 37 then
                if 0 < z2 then
                  cm_bv (run 155 [.inr (.inl 37), .inl 1, .inr (.inl 1005)] s3) fun s17 =>
                    some (.inl none, s17)
                else
                  cm_bv (run 155 [.inr (.inl 37), .inl 0, .inr (.inl 1005)] s3) fun s18 =>
                    some (.inl none, s18)
              else if z3 = 39 then
                if cm_cl ((s3.1 3704).toNat) = 6 then
                  (cm_bi (run 15 [.inr (.inl ((s3.1 3704).toNat)), .inl x1] s3) fun z19 s19 =>
                    if z19 = 23 then
                      cm_bv (run 156 [.inr (.inl 37), .inr (.inl 1010)] s19) fun s20 =>
                        some (.inl none, s20)
                    else
                      if 0 < z2 then
                        cm_bv (run 155 [.inr (.inl 37), .inl 1, .inr (.inl 1005)] s19) fun s21 =>
                          some (.inl none, s21)
                      else
                        cm_bv (run 155 [.inr (.inl 37), .inl 0, .inr (.inl 1005)] s19) fun s22 =>
                          some (.inl none, s22))
                else none
              else if z3 = 40 then
                if z2 = 1 then
                  X 82 [some (.inr (.inl 37)), some (.inl x1), some (.inl z1), some (.inl z2)] [.inl 1, .inr (.inl 37)] s3
                else
                  X 82 [some (.inr (.inl 37)), some (.inl x1), some (.inl z1), some (.inl z2)] [.inl 0, .inr (.inl 37)] s3
              else if z3 = 42 then
                if 0 < z2 then
                  X 92 [some (.inr (.inl 37)), some (.inl x1), some (.inl z1), some (.inl z2)] [.inl 1, .inr (.inl 37)] s3
                else
                  X 92 [some (.inr (.inl 37)), some (.inl x1), some (.inl z1), some (.inl z2)] [.inl 0, .inr (.inl 37)] s3
              else if z3 = 43 then
                if 0 < z2 then
                  X 92 [some (.inr (.inl 37)), some (.inl x1), some (.inl z1), some (.inl z2)] [.inl 1, .inr (.inl 37)] s3
                else
                  X 92 [some (.inr (.inl 37)), some (.inl x1), some (.inl z1), some (.inl z2)] [.inl 0, .inr (.inl 37)] s3
              else if z3 = 46 then
                if z2 = 1 then
                  cm_bv (run 159 [.inr (.inl 37), .inl z1] s3) fun s23 =>
                    some (.inl none, s23)
                else
                  some (.inl none, s3)
              else if z3 = 47 then
                if 0 < z2 then
                  X 114 [some (.inr (.inl 37)), some (.inl x1), some (.inl z1), some (.inl z2)] [.inl 1, .inr (.inl 37)] s3
                else
                  X 114 [some (.inr (.inl 37)), some (.inl x1), some (.inl z1), some (.inl z2)] [.inl 0, .inr (.inl 37)] s3
              else if z3 = 48 then
                if z2 = 1 then
                  cm_bv (run 159 [.inr (.inl 37), .inl z1] s3) fun s24 =>
                    some (.inl none, s24)
                else
                  some (.inl none, s3)
              else if z3 = 49 then
                if 0 < z2 then
                  cm_bv (run 155 [.inr (.inl 37), .inl 1, .inr (.inl 1005)] s3) fun s25 =>
                    some (.inl none, s25)
                else
                  cm_bv (run 155 [.inr (.inl 37), .inl 0, .inr (.inl 1005)] s3) fun s26 =>
                    some (.inl none, s26)
              else 
                if cm_cl ((s3.1 3704).toNat) = 6 then
                  (cm_bi (run 15 [.inr (.inl ((s3.1 3704).toNat)), .inl z1] s3) fun z27 s27 =>
                    cm_bv (run 163 [.inr (.inl 37), .inl z27, .inl z2] s27) fun s28 =>
                      some (.inl none, s28))
                else none)
          else none)
      else none)
  else none
set_option maxRecDepth 100000 in
theorem cE_162_0 (run : cm_RN) (x1 : Int) (s : cm_S) : cm_lp run cm_k162 0 [some (.inr (.inl 37)), some (.inl x1), none, none] [] s = cF_162_0 run (cm_lp run cm_k162) x1 s := (cm_lp_eq run cm_k162 0 _ _ s).trans rfl
/-- ScriptFront$Printer.putAhead, from 50 on -/
def cF_162_51 (run : cm_RN) (X : cm_X) (o0 : Option cm_V) (o1 : Option cm_V) (o2 : Option cm_V) (o3 : Option cm_V) (s : cm_S) : Option cm_R :=
  cm_bv (run 155 [.inr (.inl 37), .inl 0, .inr (.inl 1015)] s) fun s1 =>
    some (.inl none, s1)
set_option maxRecDepth 100000 in
theorem cE_162_51 (run : cm_RN) (o0 : Option cm_V) (o1 : Option cm_V) (o2 : Option cm_V) (o3 : Option cm_V) (s : cm_S) : cm_lp run cm_k162 51 [o0, o1, o2, o3] [.inr (.inl 37)] s = cF_162_51 run (cm_lp run cm_k162) o0 o1 o2 o3 s := (cm_lp_eq run cm_k162 51 _ _ s).trans rfl
/-- ScriptFront$Printer.putAhead, from 80 on -/
def cF_162_82 (run : cm_RN) (X : cm_X) (o0 : Option cm_V) (o1 : Option cm_V) (o2 : Option cm_V) (o3 : Option cm_V) (y0 : Int) (s : cm_S) : Option cm_R :=
  cm_bv (run 155 [.inr (.inl 37), .inl y0, .inr (.inl 1016)] s) fun s1 =>
    some (.inl none, s1)
set_option maxRecDepth 100000 in
theorem cE_162_82 (run : cm_RN) (o0 : Option cm_V) (o1 : Option cm_V) (o2 : Option cm_V) (o3 : Option cm_V) (y0 : Int) (s : cm_S) : cm_lp run cm_k162 82 [o0, o1, o2, o3] [.inl y0, .inr (.inl 37)] s = cF_162_82 run (cm_lp run cm_k162) o0 o1 o2 o3 y0 s := (cm_lp_eq run cm_k162 82 _ _ s).trans rfl
/-- ScriptFront$Printer.putAhead, from 89 on -/
def cF_162_92 (run : cm_RN) (X : cm_X) (o0 : Option cm_V) (o1 : Option cm_V) (o2 : Option cm_V) (x3 : Int) (y0 : Int) (s : cm_S) : Option cm_R :=
  if x3 = 1 then
    cm_bv (run 155 [.inr (.inl 37), .inl y0, .inr (.inl 1009)] s) fun s1 =>
      some (.inl none, s1)
  else
    cm_bv (run 155 [.inr (.inl 37), .inl y0, .inr (.inl 1005)] s) fun s2 =>
      some (.inl none, s2)
set_option maxRecDepth 100000 in
theorem cE_162_92 (run : cm_RN) (o0 : Option cm_V) (o1 : Option cm_V) (o2 : Option cm_V) (x3 : Int) (y0 : Int) (s : cm_S) : cm_lp run cm_k162 92 [o0, o1, o2, some (.inl x3)] [.inl y0, .inr (.inl 37)] s = cF_162_92 run (cm_lp run cm_k162) o0 o1 o2 x3 y0 s := (cm_lp_eq run cm_k162 92 _ _ s).trans rfl
/-- ScriptFront$Printer.putAhead, from 110 on -/
def cF_162_114 (run : cm_RN) (X : cm_X) (o0 : Option cm_V) (o1 : Option cm_V) (o2 : Option cm_V) (x3 : Int) (y0 : Int) (s : cm_S) : Option cm_R :=
  if x3 = 1 then
    cm_bv (run 155 [.inr (.inl 37), .inl y0, .inr (.inl 1017)] s) fun s1 =>
      some (.inl none, s1)
  else
    cm_bv (run 155 [.inr (.inl 37), .inl y0, .inr (.inl 1012)] s) fun s2 =>
      some (.inl none, s2)
set_option maxRecDepth 100000 in
theorem cE_162_114 (run : cm_RN) (o0 : Option cm_V) (o1 : Option cm_V) (o2 : Option cm_V) (x3 : Int) (y0 : Int) (s : cm_S) : cm_lp run cm_k162 114 [o0, o1, o2, some (.inl x3)] [.inl y0, .inr (.inl 37)] s = cF_162_114 run (cm_lp run cm_k162) o0 o1 o2 x3 y0 s := (cm_lp_eq run cm_k162 114 _ _ s).trans rfl
/-- ScriptFront$Printer.putAheadInHead, from 0 on -/
def cF_163_0 (run : cm_RN) (X : cm_X) (x1 : Int) (x2 : Int) (s : cm_S) : Option cm_R :=
  if x1 = 6 then
    if 0 < x2 then
      if x2 = 1 then
        cm_bv (run 155 [.inr (.inl 37), .inl 1, .inr (.inl 1010)] s) fun s1 =>
          some (.inl none, s1)
      else
        cm_bv (run 155 [.inr (.inl 37), .inl 1, .inr (.inl 1018)] s) fun s2 =>
          some (.inl none, s2)
    else
      if x2 = 1 then
        cm_bv (run 155 [.inr (.inl 37), .inl 0, .inr (.inl 1010)] s) fun s3 =>
          some (.inl none, s3)
      else
        cm_bv (run 155 [.inr (.inl 37), .inl 0, .inr (.inl 1018)] s) fun s4 =>
          some (.inl none, s4)
  else if x1 = 7 then
    if x2 = 1 then
      cm_bv (run 155 [.inr (.inl 37), .inl 1, .inr (.inl 1019)] s) fun s5 =>
        if x2 = 1 then
          cm_bv (run 155 [.inr (.inl 37), .inl 1, .inr (.inl 1009)] s5) fun s6 =>
            some (.inl none, s6)
        else
          cm_bv (run 155 [.inr (.inl 37), .inl 0, .inr (.inl 1009)] s5) fun s7 =>
            some (.inl none, s7)
    else
      cm_bv (run 155 [.inr (.inl 37), .inl 0, .inr (.inl 1019)] s) fun s8 =>
        if x2 = 1 then
          cm_bv (run 155 [.inr (.inl 37), .inl 1, .inr (.inl 1009)] s8) fun s9 =>
            some (.inl none, s9)
        else
          cm_bv (run 155 [.inr (.inl 37), .inl 0, .inr (.inl 1009)] s8) fun s10 =>
            some (.inl none, s10)
  else if x1 = 8 then
    if x2 = 1 then
      cm_bv (run 155 [.inr (.inl 37), .inl 1, .inr (.inl 1010)] s) fun s11 =>
        some (.inl none, s11)
    else
      cm_bv (run 155 [.inr (.inl 37), .inl 0, .inr (.inl 1010)] s) fun s12 =>
        some (.inl none, s12)
  else if x1 = 9 then
    if 0 < x2 then
      if x2 = 3 then
        cm_bv (run 155 [.inr (.inl 37), .inl 1, .inr (.inl 1010)] s) fun s13 =>
          some (.inl none, s13)
      else
        cm_bv (run 155 [.inr (.inl 37), .inl 1, .inr (.inl 1013)] s) fun s14 =>
          some (.inl none, s14)
    else
      if x2 = 3 then
        cm_bv (run 155 [.inr (.inl 37), .inl 0, .inr (.inl 1010)] s) fun s15 =>
          some (.inl none, s15)
      else
        cm_bv (run 155 [.inr (.inl 37), .inl 0, .inr (.inl 1013)] s) fun s16 =>
          some (.inl none, s16)
  else if x1 = 10 then
    if 0 < x2 then
      if x2 = 1 then
        cm_bv (run 155 [.inr (.inl 37), .inl 1, .inr (.inl 1020)] s) fun s17 =>
          some (.inl none, s17)
      else
        cm_bv (run 155 [.inr (.inl 37), .inl 1, .inr (.inl 1010)] s) fun s18 =>
          some (.inl none, s18)
    else
      if x2 = 1 then
        cm_bv (run 155 [.inr (.inl 37), .inl 0, .inr (.inl 1020)] s) fun s19 =>
          some (.inl none, s19)
      else
        cm_bv (run 155 [.inr (.inl 37), .inl 0, .inr (.inl 1010)] s) fun s20 =>
          some (.inl none, s20)
  else if x1 = 14 then
    if x2 = 1 then
      cm_bv (run 155 [.inr (.inl 37), .inl 1, .inr (.inl 1010)] s) fun s21 =>
        if x2 = 1 then
          cm_bv (run 155 [.inr (.inl 37), .inl 1, .inr (.inl 1011)] s21) fun s22 =>
            some (.inl none, s22)
        else
          cm_bv (run 155 [.inr (.inl 37), .inl 0, .inr (.inl 1011)] s21) fun s23 =>
            some (.inl none, s23)
    else
      cm_bv (run 155 [.inr (.inl 37), .inl 0, .inr (.inl 1010)] s) fun s24 =>
        if x2 = 1 then
          cm_bv (run 155 [.inr (.inl 37), .inl 1, .inr (.inl 1011)] s24) fun s25 =>
            some (.inl none, s25)
        else
          cm_bv (run 155 [.inr (.inl 37), .inl 0, .inr (.inl 1011)] s24) fun s26 =>
            some (.inl none, s26)
  else 
    some (.inl none, s)
set_option maxRecDepth 100000 in
theorem cE_163_0 (run : cm_RN) (x1 : Int) (x2 : Int) (s : cm_S) : cm_lp run cm_k163 0 [some (.inr (.inl 37)), some (.inl x1), some (.inl x2)] [] s = cF_163_0 run (cm_lp run cm_k163) x1 x2 s := (cm_lp_eq run cm_k163 0 _ _ s).trans rfl
/-- ScriptFront$Printer.open, from 0 on -/
def cF_164_0 (run : cm_RN) (X : cm_X) (x1 : Int) (s : cm_S) : Option cm_R :=
  cm_bi (run 151 [.inr (.inl 37), .inl x1] s) fun z1 s1 =>
    cm_bv (run 155 [.inr (.inl 37), .inl z1, .inr (.inl 1009)] s1) fun s2 =>
      if cm_cl ((s2.1 3704).toNat) = 6 then
        (cm_bi (run 15 [.inr (.inl ((s2.1 3704).toNat)), .inl x1] s2) fun z3 s3 =>
          if z3 < 30 then
            cm_bv (run 167 [.inr (.inl 37), .inl x1, .inl z3] s3) fun s4 =>
              some (.inl none, s4)
          else
            cm_bv (run 165 [.inr (.inl 37), .inl x1, .inl z3] s3) fun s5 =>
              some (.inl none, s5))
      else none
set_option maxRecDepth 100000 in
theorem cE_164_0 (run : cm_RN) (x1 : Int) (s : cm_S) : cm_lp run cm_k164 0 [some (.inr (.inl 37)), some (.inl x1), none] [] s = cF_164_0 run (cm_lp run cm_k164) x1 s := (cm_lp_eq run cm_k164 0 _ _ s).trans rfl
/-- ScriptFront$Printer.openExpression, from 0 on -/
def cF_165_0 (run : cm_RN) (X : cm_X) (x1 : Int) (x2 : Int) (s : cm_S) : Option cm_R :=
  if x2 = 30 then
    cm_bv (run 156 [.inr (.inl 37), .inr (.inl 1021)] s) fun s1 =>
      some (.inl none, s1)
  else if x2 = 31 then
    cm_bv (run 159 [.inr (.inl 37), .inl x1] s) fun s2 =>
      if x2 = 33 then
        some (.inl none, (cm_p s2 3705 1))
      else
        if x2 = 35 then
          some (.inl none, (cm_p s2 3705 1))
        else
          some (.inl none, (cm_p s2 3705 0))
  else if x2 = 32 then
    cm_bv (run 159 [.inr (.inl 37), .inl x1] s) fun s3 =>
      if x2 = 33 then
        some (.inl none, (cm_p s3 3705 1))
      else
        if x2 = 35 then
          some (.inl none, (cm_p s3 3705 1))
        else
          some (.inl none, (cm_p s3 3705 0))
  else if x2 = 33 then
    cm_bv (run 159 [.inr (.inl 37), .inl x1] s) fun s4 =>
      if x2 = 33 then
        some (.inl none, (cm_p s4 3705 1))
      else
        if x2 = 35 then
          some (.inl none, (cm_p s4 3705 1))
        else
          some (.inl none, (cm_p s4 3705 0))
  else if x2 = 34 then
    cm_bv (run 159 [.inr (.inl 37), .inl x1] s) fun s5 =>
      if x2 = 33 then
        some (.inl none, (cm_p s5 3705 1))
      else
        if x2 = 35 then
          some (.inl none, (cm_p s5 3705 1))
        else
          some (.inl none, (cm_p s5 3705 0))
  else if x2 = 35 then
    cm_bv (run 159 [.inr (.inl 37), .inl x1] s) fun s6 =>
      if x2 = 33 then
        some (.inl none, (cm_p s6 3705 1))
      else
        if x2 = 35 then
          some (.inl none, (cm_p s6 3705 1))
        else
          some (.inl none, (cm_p s6 3705 0))
  else if x2 = 36 then
    cm_bv (run 156 [.inr (.inl 37), .inr (.inl 1016)] s) fun s7 =>
      some (.inl none, s7)
  else if x2 = 37 then
    cm_bv (run 156 [.inr (.inl 37), .inr (.inl 1011)] s) fun s8 =>
      some (.inl none, s8)
  else if x2 = 38 then
    cm_bv (run 159 [.inr (.inl 37), .inl x1] s) fun s9 =>
      cm_bv (run 156 [.inr (.inl 37), .inr (.inl 1012)] s9) fun s10 =>
        some (.inl none, s10)
  else if x2 = 39 then
    cm_bv (run 166 [.inr (.inl 37), .inl x1] s) fun s11 =>
      some (.inl none, s11)
  else if x2 = 42 then
    cm_bv (run 156 [.inr (.inl 37), .inr (.inl 1023)] s) fun s12 =>
      some (.inl none, s12)
  else if x2 = 45 then
    cm_bv (run 159 [.inr (.inl 37), .inl x1] s) fun s13 =>
      some (.inl none, s13)
  else 
    some (.inl none, s)
set_option maxRecDepth 100000 in
theorem cE_165_0 (run : cm_RN) (x1 : Int) (x2 : Int) (s : cm_S) : cm_lp run cm_k165 0 [some (.inr (.inl 37)), some (.inl x1), some (.inl x2)] [] s = cF_165_0 run (cm_lp run cm_k165) x1 x2 s := (cm_lp_eq run cm_k165 0 _ _ s).trans rfl
/-- ScriptFront$Printer.openFunction, from 0 on -/
def cF_166_0 (run : cm_RN) (X : cm_X) (x1 : Int) (s : cm_S) : Option cm_R :=
  cm_bv (run 156 [.inr (.inl 37), .inr (.inl 1022)] s) fun s1 =>
    cm_bv (run 159 [.inr (.inl 37), .inl x1] s1) fun s2 =>
      cm_bv (run 156 [.inr (.inl 37), .inr (.inl 1009)] s2) fun s3 =>
        some (.inl none, s3)
set_option maxRecDepth 100000 in
theorem cE_166_0 (run : cm_RN) (x1 : Int) (s : cm_S) : cm_lp run cm_k166 0 [some (.inr (.inl 37)), some (.inl x1)] [] s = cF_166_0 run (cm_lp run cm_k166) x1 s := (cm_lp_eq run cm_k166 0 _ _ s).trans rfl
/-- ScriptFront$Printer.openStatement, from 0 on -/
def cF_167_0 (run : cm_RN) (X : cm_X) (x1 : Int) (x2 : Int) (s : cm_S) : Option cm_R :=
  if x2 = 1 then
    cm_bv (run 156 [.inr (.inl 37), .inr (.inl 1011)] s) fun s1 =>
      some (.inl none, s1)
  else if x2 = 2 then
    cm_bv (run 156 [.inr (.inl 37), .inr (.inl 1024)] s) fun s2 =>
      some (.inl none, s2)
  else if x2 = 3 then
    cm_bv (run 159 [.inr (.inl 37), .inl x1] s) fun s3 =>
      some (.inl none, s3)
  else if x2 = 11 then
    cm_bv (run 156 [.inr (.inl 37), .inr (.inl 1025)] s) fun s4 =>
      cm_bv (run 159 [.inr (.inl 37), .inl x1] s4) fun s5 =>
        some (.inl none, s5)
  else if x2 = 12 then
    cm_bv (run 156 [.inr (.inl 37), .inr (.inl 1026)] s) fun s6 =>
      cm_bv (run 159 [.inr (.inl 37), .inl x1] s6) fun s7 =>
        some (.inl none, s7)
  else if x2 = 13 then
    cm_bv (run 156 [.inr (.inl 37), .inr (.inl 1027)] s) fun s8 =>
      some (.inl none, s8)
  else if x2 = 15 then
    if cm_cl ((s.1 3704).toNat) = 6 then
      (cm_bi (run 15 [.inr (.inl ((s.1 3704).toNat)), .inl (cm_w (x1 + 1))] s) fun z9 s9 =>
        if z9 = 21 then
          cm_bv (run 156 [.inr (.inl 37), .inr (.inl 1028)] s9) fun s10 =>
            some (.inl none, s10)
        else
          cm_bv (run 156 [.inr (.inl 37), .inr (.inl 1029)] s9) fun s11 =>
            some (.inl none, s11))
    else none
  else if x2 = 16 then
    cm_bv (run 159 [.inr (.inl 37), .inl x1] s) fun s12 =>
      cm_bv (run 156 [.inr (.inl 37), .inr (.inl 1012)] s12) fun s13 =>
        some (.inl none, s13)
  else if x2 = 17 then
    cm_bv (run 156 [.inr (.inl 37), .inr (.inl 1030)] s) fun s14 =>
      some (.inl none, s14)
  else if x2 = 18 then
    cm_bv (run 156 [.inr (.inl 37), .inr (.inl 1031)] s) fun s15 =>
      some (.inl none, s15)
  else if x2 = 20 then
    cm_bv (run 166 [.inr (.inl 37), .inl x1] s) fun s16 =>
      some (.inl none, s16)
  else if x2 = 22 then
    cm_bv (run 159 [.inr (.inl 37), .inl x1] s) fun s17 =>
      some (.inl none, s17)
  else if x2 = 23 then
    cm_bv (run 156 [.inr (.inl 37), .inr (.inl 1011)] s) fun s18 =>
      some (.inl none, s18)
  else 
    cm_bv (run 168 [.inr (.inl 37), .inl x1, .inl x2] s) fun s19 =>
      some (.inl none, s19)
set_option maxRecDepth 100000 in
theorem cE_167_0 (run : cm_RN) (x1 : Int) (x2 : Int) (s : cm_S) : cm_lp run cm_k167 0 [some (.inr (.inl 37)), some (.inl x1), some (.inl x2)] [] s = cF_167_0 run (cm_lp run cm_k167) x1 x2 s := (cm_lp_eq run cm_k167 0 _ _ s).trans rfl
/-- ScriptFront$Printer.openHead, from 0 on -/
def cF_168_0 (run : cm_RN) (X : cm_X) (x1 : Int) (x2 : Int) (s : cm_S) : Option cm_R :=
  if x2 = 6 then
    cm_bv (run 156 [.inr (.inl 37), .inr (.inl 1032)] s) fun s1 =>
      cm_bv (run 156 [.inr (.inl 37), .inr (.inl 1009)] s1) fun s2 =>
        some (.inl none, s2)
  else if x2 = 7 then
    cm_bv (run 156 [.inr (.inl 37), .inr (.inl 1033)] s) fun s3 =>
      some (.inl none, s3)
  else if x2 = 8 then
    cm_bv (run 156 [.inr (.inl 37), .inr (.inl 1019)] s) fun s4 =>
      cm_bv (run 156 [.inr (.inl 37), .inr (.inl 1009)] s4) fun s5 =>
        some (.inl none, s5)
  else if x2 = 9 then
    cm_bv (run 156 [.inr (.inl 37), .inr (.inl 1034)] s) fun s6 =>
      cm_bv (run 156 [.inr (.inl 37), .inr (.inl 1009)] s6) fun s7 =>
        some (.inl none, s7)
  else if x2 = 10 then
    cm_bv (run 156 [.inr (.inl 37), .inr (.inl 1034)] s) fun s8 =>
      cm_bv (run 156 [.inr (.inl 37), .inr (.inl 1009)] s8) fun s9 =>
        some (.inl none, s9)
  else if x2 = 14 then
    cm_bv (run 156 [.inr (.inl 37), .inr (.inl 1035)] s) fun s10 =>
      cm_bv (run 156 [.inr (.inl 37), .inr (.inl 1009)] s10) fun s11 =>
        some (.inl none, s11)
  else if x2 = 19 then
    cm_bv (run 156 [.inr (.inl 37), .inr (.inl 1036)] s) fun s12 =>
      cm_bv (run 156 [.inr (.inl 37), .inr (.inl 1009)] s12) fun s13 =>
        cm_bv (run 159 [.inr (.inl 37), .inl x1] s13) fun s14 =>
          cm_bv (run 156 [.inr (.inl 37), .inr (.inl 1010)] s14) fun s15 =>
            some (.inl none, s15)
  else 
    some (.inl none, s)
set_option maxRecDepth 100000 in
theorem cE_168_0 (run : cm_RN) (x1 : Int) (x2 : Int) (s : cm_S) : cm_lp run cm_k168 0 [some (.inr (.inl 37)), some (.inl x1), some (.inl x2)] [] s = cF_168_0 run (cm_lp run cm_k168) x1 x2 s := (cm_lp_eq run cm_k168 0 _ _ s).trans rfl
/-- ScriptFront.node, from 0 on -/
def cF_169_0 (run : cm_RN) (X : cm_X) (x1 : Int) (x2 : Int) (s : cm_S) : Option cm_R :=
  if x1 < 0 then
    some (.inr 1, s)
  else
    if cm_cl ((s.1 6).toNat) = 6 then
      if x1 < (s.1 (100 * ((s.1 6).toNat) + 8)) then
        if x2 = 0 then
          if cm_cl ((s.1 6).toNat) = 6 then
            (cm_bi (run 15 [.inr (.inl ((s.1 6).toNat)), .inl x1] s) fun z1 s1 =>
              some (.inl (some (.inl z1)), s1))
          else none
        else if x2 = 1 then
          if cm_cl ((s.1 6).toNat) = 6 then
            (cm_bi (run 120 [.inr (.inl ((s.1 6).toNat)), .inl x1] s) fun z2 s2 =>
              some (.inl (some (.inl z2)), s2))
          else none
        else if x2 = 2 then
          if cm_cl ((s.1 6).toNat) = 6 then
            (cm_bi (run 121 [.inr (.inl ((s.1 6).toNat)), .inl x1] s) fun z3 s3 =>
              some (.inl (some (.inl z3)), s3))
          else none
        else if x2 = 3 then
          if cm_cl ((s.1 6).toNat) = 6 then
            (cm_bi (run 124 [.inr (.inl ((s.1 6).toNat)), .inl x1] s) fun z4 s4 =>
              some (.inl (some (.inl z4)), s4))
          else none
        else if x2 = 4 then
          if cm_cl ((s.1 6).toNat) = 6 then
            (cm_bi (run 117 [.inr (.inl ((s.1 6).toNat)), .inl x1] s) fun z5 s5 =>
              some (.inl (some (.inl z5)), s5))
          else none
        else if x2 = 5 then
          if cm_cl ((s.1 6).toNat) = 6 then
            (cm_bi (run 123 [.inr (.inl ((s.1 6).toNat)), .inl x1] s) fun z6 s6 =>
              if z6 = 0 then
                some (.inl (some (.inl 0)), s6)
              else
                some (.inl (some (.inl 1)), s6))
          else none
        else 
          some (.inr 1, s)
      else
        some (.inr 1, s)
    else none
set_option maxRecDepth 100000 in
theorem cE_169_0 (run : cm_RN) (x1 : Int) (x2 : Int) (s : cm_S) : cm_lp run cm_k169 0 [some (.inr (.inl 0)), some (.inl x1), some (.inl x2)] [] s = cF_169_0 run (cm_lp run cm_k169) x1 x2 s := (cm_lp_eq run cm_k169 0 _ _ s).trans rfl
