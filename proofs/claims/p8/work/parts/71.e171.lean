/-! ===== methods as expressions, printed by wip/gen/cm/pr.py ===== -/
/-- ScriptFrontModel.thrown, from 0 on -/
def cF_171_0 (run : cm_RN) (X : cm_X) (s : cm_S) : Option cm_R :=
  some (.inl (some (.inl (s.1 4103))), s)
set_option maxRecDepth 100000 in
theorem cE_171_0 (run : cm_RN) (s : cm_S) : cm_lp run cm_k171 0 [some (.inr (.inl 41))] [] s = cF_171_0 run (cm_lp run cm_k171) s := (cm_lp_eq run cm_k171 0 _ _ s).trans rfl
/-- ScriptFrontModel.isBlank, from 0 on -/
def cF_173_0 (run : cm_RN) (X : cm_X) (x0 : Int) (s : cm_S) : Option cm_R :=
  if x0 = 9 then
    some (.inl (some (.inl 1)), s)
  else
    if x0 = 10 then
      some (.inl (some (.inl 1)), s)
    else
      if x0 = 13 then
        some (.inl (some (.inl 1)), s)
      else
        if x0 = 32 then
          some (.inl (some (.inl 1)), s)
        else
          some (.inl (some (.inl 0)), s)
set_option maxRecDepth 100000 in
theorem cE_173_0 (run : cm_RN) (x0 : Int) (s : cm_S) : cm_lp run cm_k173 0 [some (.inl x0)] [] s = cF_173_0 run (cm_lp run cm_k173) x0 s := (cm_lp_eq run cm_k173 0 _ _ s).trans rfl
/-- ScriptFrontModel.parse, from 0 on -/
def cF_174_0 (run : cm_RN) (X : cm_X) (s : cm_S) : Option cm_R :=
  X 10 [some (.inr (.inl 41)), some (.inl 0), none, none, none] [] (cm_p (cm_p s 4107 (s.1 4106)) 4106 0)
set_option maxRecDepth 100000 in
theorem cE_174_0 (run : cm_RN) (s : cm_S) : cm_lp run cm_k174 0 [some (.inr (.inl 41)), none, none, none, none] [] s = cF_174_0 run (cm_lp run cm_k174) s := (cm_lp_eq run cm_k174 0 _ _ s).trans rfl
/-- ScriptFrontModel.parse, from 9 on -/
def cF_174_10 (run : cm_RN) (X : cm_X) (x1 : Int) (o2 : Option cm_V) (o3 : Option cm_V) (o4 : Option cm_V) (s : cm_S) : Option cm_R :=
  if x1 < (s.1 4107) then
    if (0 : Int) ≤ x1 ∧ x1 < 480 then
      if (0 : Int) ≤ x1 ∧ x1 < 480 then
        (if (-128) ≤ (s.2 45 x1) ∧ (s.2 45 x1) < 128 then
          X 10 [some (.inr (.inl 41)), some (.inl (cm_w (x1 + 1))), o2, o3, o4] [] (cm_q s 46 x1 (s.2 45 x1))
        else none)
      else none
    else none
  else
    cm_bi (run 175 [.inr (.inl 41)] s) fun z1 s1 =>
      if 0 < (s1.1 4108) then
        if 0 < (s1.1 4108) then
          if 0 < (s1.1 4108) then
            some (.inl (some (.inl 0)), (cm_p (cm_p s1 4110 0) 4103 1))
          else
            X 62 [some (.inr (.inl 41)), some (.inl z1), some (.inl 0), some (.inl 0), o4] [] (cm_p (cm_p s1 4110 0) 4103 1)
        else
          if 0 < (s1.1 4108) then
            some (.inl (some (.inl 0)), (cm_p (cm_p s1 4110 0) 4103 0))
          else
            X 62 [some (.inr (.inl 41)), some (.inl z1), some (.inl 0), some (.inl 0), o4] [] (cm_p (cm_p s1 4110 0) 4103 0)
      else
        cm_bi (run 253 [.inr (.inl 41), .inl z1] s1) fun z2 s2 =>
          cm_bv (run 254 [.inr (.inl 41), .inl z2] s2) fun s3 =>
            cm_bv (run 260 [.inr (.inl 41), .inl z2] s3) fun s4 =>
              if 0 < (s4.1 4108) then
                if 0 < (s4.1 4108) then
                  some (.inl (some (.inl 0)), (cm_p s4 4103 1))
                else
                  X 62 [some (.inr (.inl 41)), some (.inl z1), some (.inl z2), some (.inl 0), o4] [] (cm_p s4 4103 1)
              else
                if 0 < (s4.1 4108) then
                  some (.inl (some (.inl 0)), (cm_p s4 4103 0))
                else
                  X 62 [some (.inr (.inl 41)), some (.inl z1), some (.inl z2), some (.inl 0), o4] [] (cm_p s4 4103 0)
set_option maxRecDepth 100000 in
theorem cE_174_10 (run : cm_RN) (x1 : Int) (o2 : Option cm_V) (o3 : Option cm_V) (o4 : Option cm_V) (s : cm_S) : cm_lp run cm_k174 10 [some (.inr (.inl 41)), some (.inl x1), o2, o3, o4] [] s = cF_174_10 run (cm_lp run cm_k174) x1 o2 o3 o4 s := (cm_lp_eq run cm_k174 10 _ _ s).trans rfl
/-- ScriptFrontModel.parse, from 60 on -/
def cF_174_62 (run : cm_RN) (X : cm_X) (x1 : Int) (x2 : Int) (x3 : Int) (o4 : Option cm_V) (s : cm_S) : Option cm_R :=
  if x3 < x2 then
    if (0 : Int) ≤ x3 ∧ x3 < 500 then
      if (0 : Int) ≤ (s.2 65 x3) ∧ (s.2 65 x3) < 500 then
        if (0 : Int) ≤ (cm_w (6 * x3)) ∧ (cm_w (6 * x3)) < 3000 then
          (if (0 : Int) ≤ (s.2 65 x3) ∧ (s.2 65 x3) < 500 then
            if (0 : Int) ≤ (cm_w ((cm_w (6 * x3)) + 1)) ∧ (cm_w ((cm_w (6 * x3)) + 1)) < 3000 then
              (if (0 : Int) ≤ (s.2 65 x3) ∧ (s.2 65 x3) < 500 then
                if (0 : Int) ≤ (cm_w ((cm_w (6 * x3)) + 2)) ∧ (cm_w ((cm_w (6 * x3)) + 2)) < 3000 then
                  (if (0 : Int) ≤ (s.2 65 x3) ∧ (s.2 65 x3) < 500 then
                    if (0 : Int) ≤ (cm_w ((cm_w (6 * x3)) + 3)) ∧ (cm_w ((cm_w (6 * x3)) + 3)) < 3000 then
                      (if x3 = 0 then
                        if (0 : Int) ≤ (cm_w ((cm_w (6 * x3)) + 4)) ∧ (cm_w ((cm_w (6 * x3)) + 4)) < 3000 then
                          (if (0 : Int) ≤ (s.2 65 x3) ∧ (s.2 65 x3) < 500 then
                            if (s.2 55 (s.2 65 x3)) = 0 then
                              if (0 : Int) ≤ (cm_w ((cm_w (6 * x3)) + 5)) ∧ (cm_w ((cm_w (6 * x3)) + 5)) < 3000 then
                                (X 62 [some (.inr (.inl 41)), some (.inl x1), some (.inl x2), some (.inl (cm_w (x3 + 1))), some (.inl (s.2 65 x3))] [] (cm_q (cm_q (cm_q (cm_q (cm_q (cm_q s 67 (cm_w (6 * x3)) (s.2 47 (s.2 65 x3))) 67 (cm_w ((cm_w (6 * x3)) + 1)) (s.2 48 (s.2 65 x3))) 67 (cm_w ((cm_w (6 * x3)) + 2)) (s.2 49 (s.2 65 x3))) 67 (cm_w ((cm_w (6 * x3)) + 3)) (s.2 53 (s.2 65 x3))) 67 (cm_w ((cm_w (6 * x3)) + 4)) (-1)) 67 (cm_w ((cm_w (6 * x3)) + 5)) 0))
                              else none
                            else
                              if (0 : Int) ≤ (cm_w ((cm_w (6 * x3)) + 5)) ∧ (cm_w ((cm_w (6 * x3)) + 5)) < 3000 then
                                (X 62 [some (.inr (.inl 41)), some (.inl x1), some (.inl x2), some (.inl (cm_w (x3 + 1))), some (.inl (s.2 65 x3))] [] (cm_q (cm_q (cm_q (cm_q (cm_q (cm_q s 67 (cm_w (6 * x3)) (s.2 47 (s.2 65 x3))) 67 (cm_w ((cm_w (6 * x3)) + 1)) (s.2 48 (s.2 65 x3))) 67 (cm_w ((cm_w (6 * x3)) + 2)) (s.2 49 (s.2 65 x3))) 67 (cm_w ((cm_w (6 * x3)) + 3)) (s.2 53 (s.2 65 x3))) 67 (cm_w ((cm_w (6 * x3)) + 4)) (-1)) 67 (cm_w ((cm_w (6 * x3)) + 5)) 1))
                              else none
                          else none)
                        else none
                      else
                        if (0 : Int) ≤ (s.2 65 x3) ∧ (s.2 65 x3) < 500 then
                          if (0 : Int) ≤ (s.2 52 (s.2 65 x3)) ∧ (s.2 52 (s.2 65 x3)) < 500 then
                            if (0 : Int) ≤ (cm_w ((cm_w (6 * x3)) + 4)) ∧ (cm_w ((cm_w (6 * x3)) + 4)) < 3000 then
                              (if (0 : Int) ≤ (s.2 65 x3) ∧ (s.2 65 x3) < 500 then
                                if (s.2 55 (s.2 65 x3)) = 0 then
                                  if (0 : Int) ≤ (cm_w ((cm_w (6 * x3)) + 5)) ∧ (cm_w ((cm_w (6 * x3)) + 5)) < 3000 then
                                    (X 62 [some (.inr (.inl 41)), some (.inl x1), some (.inl x2), some (.inl (cm_w (x3 + 1))), some (.inl (s.2 65 x3))] [] (cm_q (cm_q (cm_q (cm_q (cm_q (cm_q s 67 (cm_w (6 * x3)) (s.2 47 (s.2 65 x3))) 67 (cm_w ((cm_w (6 * x3)) + 1)) (s.2 48 (s.2 65 x3))) 67 (cm_w ((cm_w (6 * x3)) + 2)) (s.2 49 (s.2 65 x3))) 67 (cm_w ((cm_w (6 * x3)) + 3)) (s.2 53 (s.2 65 x3))) 67 (cm_w ((cm_w (6 * x3)) + 4)) (s.2 66 (s.2 52 (s.2 65 x3)))) 67 (cm_w ((cm_w (6 * x3)) + 5)) 0))
                                  else none
                                else
                                  if (0 : Int) ≤ (cm_w ((cm_w (6 * x3)) + 5)) ∧ (cm_w ((cm_w (6 * x3)) + 5)) < 3000 then
                                    (X 62 [some (.inr (.inl 41)), some (.inl x1), some (.inl x2), some (.inl (cm_w (x3 + 1))), some (.inl (s.2 65 x3))] [] (cm_q (cm_q (cm_q (cm_q (cm_q (cm_q s 67 (cm_w (6 * x3)) (s.2 47 (s.2 65 x3))) 67 (cm_w ((cm_w (6 * x3)) + 1)) (s.2 48 (s.2 65 x3))) 67 (cm_w ((cm_w (6 * x3)) + 2)) (s.2 49 (s.2 65 x3))) 67 (cm_w ((cm_w (6 * x3)) + 3)) (s.2 53 (s.2 65 x3))) 67 (cm_w ((cm_w (6 * x3)) + 4)) (s.2 66 (s.2 52 (s.2 65 x3)))) 67 (cm_w ((cm_w (6 * x3)) + 5)) 1))
                                  else none
                              else none)
                            else none
                          else none
                        else none)
                    else none
                  else none)
                else none
              else none)
            else none
          else none)
        else none
      else none
    else none
  else
    cm_bv (run 270 [.inr (.inl 41), .inl x1] (cm_p s 4143 x2)) fun s1 =>
      some (.inl (some (.inl x2)), (cm_p s1 4142 1))
set_option maxRecDepth 100000 in
theorem cE_174_62 (run : cm_RN) (x1 : Int) (x2 : Int) (x3 : Int) (o4 : Option cm_V) (s : cm_S) : cm_lp run cm_k174 62 [some (.inr (.inl 41)), some (.inl x1), some (.inl x2), some (.inl x3), o4] [] s = cF_174_62 run (cm_lp run cm_k174) x1 x2 x3 o4 s := (cm_lp_eq run cm_k174 62 _ _ s).trans rfl
/-- ScriptFrontModel.readAll, from 0 on -/
def cF_175_0 (run : cm_RN) (X : cm_X) (s : cm_S) : Option cm_R :=
  cm_bv (run 176 [.inr (.inl 41), .inl 3, .inl 0, .inl 0, .inl 0, .inl 0] (cm_p (cm_p (cm_p (cm_p (cm_p (cm_p (cm_p (cm_p (cm_p (cm_p (cm_p s 4114 0) 4116 0) 4108 0) 4109 (-1)) 4110 0) 4118 0) 4128 0) 4134 0) 4136 0) 4140 0) 4141 0)) fun s1 =>
    cm_bv (run 177 [.inr (.inl 41), .inl 1, .inl 0] s1) fun s2 =>
      X 45 [some (.inr (.inl 41))] [] s2
set_option maxRecDepth 100000 in
theorem cE_175_0 (run : cm_RN) (s : cm_S) : cm_lp run cm_k175 0 [some (.inr (.inl 41))] [] s = cF_175_0 run (cm_lp run cm_k175) s := (cm_lp_eq run cm_k175 0 _ _ s).trans rfl
/-- ScriptFrontModel.readAll, from 44 on -/
def cF_175_45 (run : cm_RN) (X : cm_X) (s : cm_S) : Option cm_R :=
  if 0 < (s.1 4128) then
    if (s.1 4108) = 0 then
      cm_bv (run 178 [.inr (.inl 41)] s) fun s1 =>
        X 45 [some (.inr (.inl 41))] [] s1
    else
      some (.inl (some (.inl (cm_w ((s.1 4118) - 1)))), s)
  else
    some (.inl (some (.inl (cm_w ((s.1 4118) - 1)))), s)
set_option maxRecDepth 100000 in
theorem cE_175_45 (run : cm_RN) (s : cm_S) : cm_lp run cm_k175 45 [some (.inr (.inl 41))] [] s = cF_175_45 run (cm_lp run cm_k175) s := (cm_lp_eq run cm_k175 45 _ _ s).trans rfl
/-- ScriptFrontModel.push, from 0 on -/
def cF_176_0 (run : cm_RN) (X : cm_X) (x1 : Int) (x2 : Int) (x3 : Int) (x4 : Int) (x5 : Int) (s : cm_S) : Option cm_R :=
  if (0 : Int) ≤ (s.1 4128) ∧ (s.1 4128) < 900 then
    (if (0 : Int) ≤ (s.1 4128) ∧ (s.1 4128) < 900 then
      (if (0 : Int) ≤ (s.1 4128) ∧ (s.1 4128) < 900 then
        (if (0 : Int) ≤ (s.1 4128) ∧ (s.1 4128) < 900 then
          (if (0 : Int) ≤ (s.1 4128) ∧ (s.1 4128) < 900 then
            (some (.inl none, (cm_p (cm_q (cm_q (cm_q (cm_q (cm_q s 56 (s.1 4128) x1) 57 (s.1 4128) x2) 58 (s.1 4128) x3) 59 (s.1 4128) x4) 60 (s.1 4128) x5) 4128 (cm_w ((s.1 4128) + 1)))))
          else none)
        else none)
      else none)
    else none)
  else none
set_option maxRecDepth 100000 in
theorem cE_176_0 (run : cm_RN) (x1 : Int) (x2 : Int) (x3 : Int) (x4 : Int) (x5 : Int) (s : cm_S) : cm_lp run cm_k176 0 [some (.inr (.inl 41)), some (.inl x1), some (.inl x2), some (.inl x3), some (.inl x4), some (.inl x5)] [] s = cF_176_0 run (cm_lp run cm_k176) x1 x2 x3 x4 x5 s := (cm_lp_eq run cm_k176 0 _ _ s).trans rfl
/-- ScriptFrontModel.later, from 0 on -/
def cF_177_0 (run : cm_RN) (X : cm_X) (x1 : Int) (x2 : Int) (s : cm_S) : Option cm_R :=
  cm_bv (run 176 [.inr (.inl 41), .inl x1, .inl x2, .inl 0, .inl 0, .inl 0] s) fun s1 =>
    some (.inl none, s1)
set_option maxRecDepth 100000 in
theorem cE_177_0 (run : cm_RN) (x1 : Int) (x2 : Int) (s : cm_S) : cm_lp run cm_k177 0 [some (.inr (.inl 41)), some (.inl x1), some (.inl x2)] [] s = cF_177_0 run (cm_lp run cm_k177) x1 x2 s := (cm_lp_eq run cm_k177 0 _ _ s).trans rfl
/-- ScriptFrontModel.step, from 0 on -/
def cF_178_0 (run : cm_RN) (X : cm_X) (s : cm_S) : Option cm_R :=
  if (0 : Int) ≤ (cm_w ((s.1 4128) - 1)) ∧ (cm_w ((s.1 4128) - 1)) < 900 then
    if (0 : Int) ≤ (cm_w ((s.1 4128) - 1)) ∧ (cm_w ((s.1 4128) - 1)) < 900 then
      if (0 : Int) ≤ (cm_w ((s.1 4128) - 1)) ∧ (cm_w ((s.1 4128) - 1)) < 900 then
        if (0 : Int) ≤ (cm_w ((s.1 4128) - 1)) ∧ (cm_w ((s.1 4128) - 1)) < 900 then
          if (0 : Int) ≤ (cm_w ((s.1 4128) - 1)) ∧ (cm_w ((s.1 4128) - 1)) < 900 then
            if (s.2 56 (cm_w ((s.1 4128) - 1))) = 1 then
              cm_bv (run 179 [.inr (.inl 41), .inl (s.2 57 (cm_w ((s.1 4128) - 1)))] (cm_p s 4128 (cm_w ((s.1 4128) - 1)))) fun s1 =>
                some (.inl none, s1)
            else if (s.2 56 (cm_w ((s.1 4128) - 1))) = 2 then
              if (s.2 57 (cm_w ((s.1 4128) - 1))) = 1 then
                cm_bv (run 199 [.inr (.inl 41), .inl 1] (cm_p s 4128 (cm_w ((s.1 4128) - 1)))) fun s2 =>
                  some (.inl none, s2)
              else
                cm_bv (run 199 [.inr (.inl 41), .inl 0] (cm_p s 4128 (cm_w ((s.1 4128) - 1)))) fun s3 =>
                  some (.inl none, s3)
            else if (s.2 56 (cm_w ((s.1 4128) - 1))) = 3 then
              cm_bv (run 202 [.inr (.inl 41), .inl (s.2 57 (cm_w ((s.1 4128) - 1))), .inl (s.2 58 (cm_w ((s.1 4128) - 1))), .inl (s.2 59 (cm_w ((s.1 4128) - 1))), .inl (s.2 60 (cm_w ((s.1 4128) - 1)))] (cm_p s 4128 (cm_w ((s.1 4128) - 1)))) fun s4 =>
                some (.inl none, s4)
            else if (s.2 56 (cm_w ((s.1 4128) - 1))) = 4 then
              some (.inl none, (cm_p (cm_p s 4128 (cm_w ((s.1 4128) - 1))) 4140 (cm_w ((s.1 4140) - 1))))
            else if (s.2 56 (cm_w ((s.1 4128) - 1))) = 5 then
              cm_bv (run 210 [.inr (.inl 41), .inl (s.2 57 (cm_w ((s.1 4128) - 1)))] (cm_p s 4128 (cm_w ((s.1 4128) - 1)))) fun s5 =>
                some (.inl none, s5)
            else if (s.2 56 (cm_w ((s.1 4128) - 1))) = 6 then
              cm_bv (run 211 [.inr (.inl 41)] (cm_p s 4128 (cm_w ((s.1 4128) - 1)))) fun s6 =>
                some (.inl none, s6)
            else if (s.2 56 (cm_w ((s.1 4128) - 1))) = 25 then
              if (s.2 57 (cm_w ((s.1 4128) - 1))) = 1 then
                cm_bv (run 228 [.inr (.inl 41), .inl 1] (cm_p s 4128 (cm_w ((s.1 4128) - 1)))) fun s7 =>
                  some (.inl none, s7)
              else
                cm_bv (run 228 [.inr (.inl 41), .inl 0] (cm_p s 4128 (cm_w ((s.1 4128) - 1)))) fun s8 =>
                  some (.inl none, s8)
            else if (s.2 56 (cm_w ((s.1 4128) - 1))) = 26 then
              cm_bv (run 229 [.inr (.inl 41)] (cm_p s 4128 (cm_w ((s.1 4128) - 1)))) fun s9 =>
                some (.inl none, s9)
            else if (s.2 56 (cm_w ((s.1 4128) - 1))) = 27 then
              cm_bv (run 230 [.inr (.inl 41)] (cm_p s 4128 (cm_w ((s.1 4128) - 1)))) fun s10 =>
                some (.inl none, s10)
            else if (s.2 56 (cm_w ((s.1 4128) - 1))) = 29 then
              cm_bv (run 225 [.inr (.inl 41), .inl (s.2 57 (cm_w ((s.1 4128) - 1)))] (cm_p s 4128 (cm_w ((s.1 4128) - 1)))) fun s11 =>
                some (.inl none, s11)
            else if (s.2 56 (cm_w ((s.1 4128) - 1))) = 30 then
              cm_bv (run 226 [.inr (.inl 41), .inl (s.2 57 (cm_w ((s.1 4128) - 1)))] (cm_p s 4128 (cm_w ((s.1 4128) - 1)))) fun s12 =>
                some (.inl none, s12)
            else if (s.2 56 (cm_w ((s.1 4128) - 1))) = 31 then
              cm_bv (run 227 [.inr (.inl 41), .inl (s.2 57 (cm_w ((s.1 4128) - 1)))] (cm_p s 4128 (cm_w ((s.1 4128) - 1)))) fun s13 =>
                some (.inl none, s13)
            else if (s.2 56 (cm_w ((s.1 4128) - 1))) = 32 then
              cm_bv (run 212 [.inr (.inl 41)] (cm_p s 4128 (cm_w ((s.1 4128) - 1)))) fun s14 =>
                some (.inl none, s14)
            else if (s.2 56 (cm_w ((s.1 4128) - 1))) = 33 then
              cm_bv (run 213 [.inr (.inl 41), .inl (s.2 57 (cm_w ((s.1 4128) - 1))), .inl (s.2 58 (cm_w ((s.1 4128) - 1)))] (cm_p s 4128 (cm_w ((s.1 4128) - 1)))) fun s15 =>
                some (.inl none, s15)
            else if (s.2 56 (cm_w ((s.1 4128) - 1))) = 34 then
              cm_bv (run 216 [.inr (.inl 41), .inl (s.2 57 (cm_w ((s.1 4128) - 1))), .inl (s.2 58 (cm_w ((s.1 4128) - 1))), .inl (s.2 59 (cm_w ((s.1 4128) - 1))), .inl (s.2 60 (cm_w ((s.1 4128) - 1)))] (cm_p s 4128 (cm_w ((s.1 4128) - 1)))) fun s16 =>
                some (.inl none, s16)
            else if (s.2 56 (cm_w ((s.1 4128) - 1))) = 35 then
              cm_bv (run 217 [.inr (.inl 41), .inl (s.2 57 (cm_w ((s.1 4128) - 1))), .inl (s.2 58 (cm_w ((s.1 4128) - 1))), .inl (s.1 4141)] (cm_p s 4128 (cm_w ((s.1 4128) - 1)))) fun s17 =>
                some (.inl none, s17)
            else if (s.2 56 (cm_w ((s.1 4128) - 1))) = 36 then
              cm_bv (run 219 [.inr (.inl 41), .inl (s.2 57 (cm_w ((s.1 4128) - 1)))] (cm_p s 4128 (cm_w ((s.1 4128) - 1)))) fun s18 =>
                some (.inl none, s18)
            else if (s.2 56 (cm_w ((s.1 4128) - 1))) = 37 then
              cm_bv (run 220 [.inr (.inl 41)] (cm_p s 4128 (cm_w ((s.1 4128) - 1)))) fun s19 =>
                some (.inl none, s19)
            else if (s.2 56 (cm_w ((s.1 4128) - 1))) = 38 then
              cm_bv (run 221 [.inr (.inl 41)] (cm_p s 4128 (cm_w ((s.1 4128) - 1)))) fun s20 =>
                some (.inl none, s20)
            else if (s.2 56 (cm_w ((s.1 4128) - 1))) = 39 then
              cm_bv (run 222 [.inr (.inl 41), .inl (s.2 57 (cm_w ((s.1 4128) - 1))), .inl (s.2 58 (cm_w ((s.1 4128) - 1)))] (cm_p s 4128 (cm_w ((s.1 4128) - 1)))) fun s21 =>
                some (.inl none, s21)
            else if (s.2 56 (cm_w ((s.1 4128) - 1))) = 40 then
              if (s.2 59 (cm_w ((s.1 4128) - 1))) = 1 then
                cm_bv (run 224 [.inr (.inl 41), .inl (s.2 57 (cm_w ((s.1 4128) - 1))), .inl (s.2 58 (cm_w ((s.1 4128) - 1))), .inl 1] (cm_p s 4128 (cm_w ((s.1 4128) - 1)))) fun s22 =>
                  some (.inl none, s22)
              else
                cm_bv (run 224 [.inr (.inl 41), .inl (s.2 57 (cm_w ((s.1 4128) - 1))), .inl (s.2 58 (cm_w ((s.1 4128) - 1))), .inl 0] (cm_p s 4128 (cm_w ((s.1 4128) - 1)))) fun s23 =>
                  some (.inl none, s23)
            else if (s.2 56 (cm_w ((s.1 4128) - 1))) = 41 then
              cm_bv (run 223 [.inr (.inl 41)] (cm_p s 4128 (cm_w ((s.1 4128) - 1)))) fun s24 =>
                some (.inl none, s24)
            else 
              if (0 : Int) ≤ (cm_w ((s.1 4128) - 1)) ∧ (cm_w ((s.1 4128) - 1)) < 900 then
                cm_bv (run 231 [.inr (.inl 41), .inl (s.2 56 (cm_w ((s.1 4128) - 1))), .inl (s.2 57 (cm_w ((s.1 4128) - 1))), .inl (s.2 58 (cm_w ((s.1 4128) - 1))), .inl (s.2 59 (cm_w ((s.1 4128) - 1)))] (cm_p s 4128 (cm_w ((s.1 4128) - 1)))) fun s25 =>
                  some (.inl none, s25)
              else none
          else none
        else none
      else none
    else none
  else none
set_option maxRecDepth 100000 in
theorem cE_178_0 (run : cm_RN) (s : cm_S) : cm_lp run cm_k178 0 [some (.inr (.inl 41)), none, none, none, none] [] s = cF_178_0 run (cm_lp run cm_k178) s := (cm_lp_eq run cm_k178 0 _ _ s).trans rfl
/-- ScriptFrontModel.statements, from 0 on -/
def cF_179_0 (run : cm_RN) (X : cm_X) (x1 : Int) (s : cm_S) : Option cm_R :=
  cm_bv (run 180 [.inr (.inl 41), .inl 1] s) fun s1 =>
    if x1 = 0 then
      if (s1.1 4111) = 0 then
        if 0 < (s1.1 4108) then
          some (.inl none, s1)
        else
          if x1 = 1 then
            cm_bv (run 198 [.inr (.inl 41)] s1) fun s2 =>
              some (.inl none, s2)
          else
            if x1 = 3 then
              cm_bv (run 198 [.inr (.inl 41)] s1) fun s3 =>
                some (.inl none, s3)
            else
              some (.inl none, s1)
      else
        if 0 < (s1.1 4108) then
          some (.inl none, s1)
        else
          cm_bv (run 177 [.inr (.inl 41), .inl 1, .inl x1] s1) fun s4 =>
            if x1 = 0 then
              cm_bv (run 177 [.inr (.inl 41), .inl 2, .inl 1] s4) fun s5 =>
                some (.inl none, s5)
            else
              if x1 = 3 then
                cm_bv (run 177 [.inr (.inl 41), .inl 2, .inl 1] s4) fun s6 =>
                  some (.inl none, s6)
              else
                cm_bv (run 177 [.inr (.inl 41), .inl 2, .inl 0] s4) fun s7 =>
                  some (.inl none, s7)
    else
      if x1 = 2 then
        if (s1.1 4111) = 1001 then
          X 28 [some (.inr (.inl 41)), some (.inl x1), none] [] s1
        else
          if (s1.1 4111) = 1004 then
            X 28 [some (.inr (.inl 41)), some (.inl x1), none] [] s1
          else
            if (s1.1 4111) = 125 then
              X 28 [some (.inr (.inl 41)), some (.inl x1), none] [] s1
            else
              if 0 < (s1.1 4108) then
                some (.inl none, s1)
              else
                cm_bv (run 177 [.inr (.inl 41), .inl 1, .inl x1] s1) fun s8 =>
                  if x1 = 0 then
                    cm_bv (run 177 [.inr (.inl 41), .inl 2, .inl 1] s8) fun s9 =>
                      some (.inl none, s9)
                  else
                    if x1 = 3 then
                      cm_bv (run 177 [.inr (.inl 41), .inl 2, .inl 1] s8) fun s10 =>
                        some (.inl none, s10)
                    else
                      cm_bv (run 177 [.inr (.inl 41), .inl 2, .inl 0] s8) fun s11 =>
                        some (.inl none, s11)
      else
        if (s1.1 4111) = 125 then
          if 0 < (s1.1 4108) then
            some (.inl none, s1)
          else
            if x1 = 1 then
              cm_bv (run 198 [.inr (.inl 41)] s1) fun s12 =>
                some (.inl none, s12)
            else
              if x1 = 3 then
                cm_bv (run 198 [.inr (.inl 41)] s1) fun s13 =>
                  some (.inl none, s13)
              else
                some (.inl none, s1)
        else
          if 0 < (s1.1 4108) then
            some (.inl none, s1)
          else
            cm_bv (run 177 [.inr (.inl 41), .inl 1, .inl x1] s1) fun s14 =>
              if x1 = 0 then
                cm_bv (run 177 [.inr (.inl 41), .inl 2, .inl 1] s14) fun s15 =>
                  some (.inl none, s15)
              else
                if x1 = 3 then
                  cm_bv (run 177 [.inr (.inl 41), .inl 2, .inl 1] s14) fun s16 =>
                    some (.inl none, s16)
                else
                  cm_bv (run 177 [.inr (.inl 41), .inl 2, .inl 0] s14) fun s17 =>
                    some (.inl none, s17)
set_option maxRecDepth 100000 in
theorem cE_179_0 (run : cm_RN) (x1 : Int) (s : cm_S) : cm_lp run cm_k179 0 [some (.inr (.inl 41)), some (.inl x1), none] [] s = cF_179_0 run (cm_lp run cm_k179) x1 s := (cm_lp_eq run cm_k179 0 _ _ s).trans rfl
/-- ScriptFrontModel.statements, from 27 on -/
def cF_179_28 (run : cm_RN) (X : cm_X) (x1 : Int) (o2 : Option cm_V) (s : cm_S) : Option cm_R :=
  if 0 < (s.1 4108) then
    some (.inl none, s)
  else
    if x1 = 1 then
      cm_bv (run 198 [.inr (.inl 41)] s) fun s1 =>
        some (.inl none, s1)
    else
      if x1 = 3 then
        cm_bv (run 198 [.inr (.inl 41)] s) fun s2 =>
          some (.inl none, s2)
      else
        some (.inl none, s)
set_option maxRecDepth 100000 in
theorem cE_179_28 (run : cm_RN) (x1 : Int) (o2 : Option cm_V) (s : cm_S) : cm_lp run cm_k179 28 [some (.inr (.inl 41)), some (.inl x1), o2] [] s = cF_179_28 run (cm_lp run cm_k179) x1 o2 s := (cm_lp_eq run cm_k179 28 _ _ s).trans rfl
/-- ScriptFrontModel.look, from 0 on -/
def cF_180_0 (run : cm_RN) (X : cm_X) (x1 : Int) (s : cm_S) : Option cm_R :=
  if (s.1 4116) = 0 then
    X 14 [some (.inr (.inl 41)), some (.inl x1), none, none] [] s
  else
    if (s.1 4117) = x1 then
      some (.inl none, s)
    else
      cm_bi (run 181 [.inr (.inl 41), .inl (s.1 4112)] s) fun z1 s1 =>
        if z1 = 47 then
          X 14 [some (.inr (.inl 41)), some (.inl x1), none, none] [] s1
        else
          some (.inl none, s1)
set_option maxRecDepth 100000 in
theorem cE_180_0 (run : cm_RN) (x1 : Int) (s : cm_S) : cm_lp run cm_k180 0 [some (.inr (.inl 41)), some (.inl x1), none, none] [] s = cF_180_0 run (cm_lp run cm_k180) x1 s := (cm_lp_eq run cm_k180 0 _ _ s).trans rfl
/-- ScriptFrontModel.look, from 13 on -/
def cF_180_14 (run : cm_RN) (X : cm_X) (x1 : Int) (o2 : Option cm_V) (o3 : Option cm_V) (s : cm_S) : Option cm_R :=
  if 0 < (s.1 4108) then
    some (.inl none, s)
  else
    if (0 : Int) ≤ x1 ∧ x1 < 2 then
      cm_bv (run 182 [.inr (.inl 41)] (cm_p (cm_p s 4116 1) 4117 x1)) fun s1 =>
        if 0 < (s1.1 4108) then
          some (.inl none, s1)
        else
          cm_bi (run 181 [.inr (.inl 41), .inl (s1.1 4112)] s1) fun z2 s2 =>
            if (s2.1 4112) < (s2.1 4107) then
              cm_bi (run 186 [.inl z2] s2) fun z3 s3 =>
                if z3 = 0 then
                  cm_bi (run 188 [.inl z2] s3) fun z4 s4 =>
                    if z4 = 0 then
                      if z2 = 46 then
                        cm_bi (run 181 [.inr (.inl 41), .inl (cm_w ((s4.1 4112) + 1))] s4) fun z5 s5 =>
                          cm_bi (run 188 [.inl z5] s5) fun z6 s6 =>
                            if z6 = 0 then
                              X 90 [some (.inr (.inl 41)), some (.inl x1), some (.inl z2), some (.inl (s2.1 4112))] [] s6
                            else
                              cm_bi (run 190 [.inr (.inl 41), .inl (s6.1 4112)] (cm_p s6 4111 2)) fun z7 s7 =>
                                if z7 = (-1) then
                                  cm_bv (run 185 [.inr (.inl 41), .inl 1, .inl (s7.1 4112)] (cm_p s7 4113 z7)) fun s8 =>
                                    some (.inl none, s8)
                                else
                                  some (.inl none, (cm_p s7 4113 z7))
                      else
                        X 90 [some (.inr (.inl 41)), some (.inl x1), some (.inl z2), some (.inl (s2.1 4112))] [] s4
                    else
                      cm_bi (run 190 [.inr (.inl 41), .inl (s4.1 4112)] (cm_p s4 4111 2)) fun z9 s9 =>
                        if z9 = (-1) then
                          cm_bv (run 185 [.inr (.inl 41), .inl 1, .inl (s9.1 4112)] (cm_p s9 4113 z9)) fun s10 =>
                            some (.inl none, s10)
                        else
                          some (.inl none, (cm_p s9 4113 z9))
                else
                  X 51 [some (.inr (.inl 41)), some (.inl x1), some (.inl z2), some (.inl (s2.1 4112))] [] s3
            else
              if (s2.1 4112) = (-1) then
                cm_bv (run 185 [.inr (.inl 41), .inl 1, .inl (s2.1 4112)] (cm_p (cm_p s2 4111 0) 4113 (s2.1 4112))) fun s11 =>
                  some (.inl none, s11)
              else
                some (.inl none, (cm_p (cm_p s2 4111 0) 4113 (s2.1 4112)))
    else none
set_option maxRecDepth 100000 in
theorem cE_180_14 (run : cm_RN) (x1 : Int) (o2 : Option cm_V) (o3 : Option cm_V) (s : cm_S) : cm_lp run cm_k180 14 [some (.inr (.inl 41)), some (.inl x1), o2, o3] [] s = cF_180_14 run (cm_lp run cm_k180) x1 o2 o3 s := (cm_lp_eq run cm_k180 14 _ _ s).trans rfl
/-- ScriptFrontModel.look, from 49 on -/
def cF_180_51 (run : cm_RN) (X : cm_X) (o1 : Option cm_V) (o2 : Option cm_V) (x3 : Int) (s : cm_S) : Option cm_R :=
  cm_bi (run 181 [.inr (.inl 41), .inl x3] s) fun z1 s1 =>
    cm_bi (run 187 [.inl z1] s1) fun z2 s2 =>
      if z2 = 0 then
        cm_bi (run 189 [.inr (.inl 41), .inl (s2.1 4112), .inl x3] s2) fun z3 s3 =>
          if x3 = (-1) then
            cm_bv (run 185 [.inr (.inl 41), .inl 1, .inl (s3.1 4112)] (cm_p (cm_p s3 4111 z3) 4113 x3)) fun s4 =>
              some (.inl none, s4)
          else
            some (.inl none, (cm_p (cm_p s3 4111 z3) 4113 x3))
      else
        X 51 [some (.inr (.inl 41)), o1, o2, some (.inl (cm_w (x3 + 1)))] [] s2
set_option maxRecDepth 100000 in
theorem cE_180_51 (run : cm_RN) (o1 : Option cm_V) (o2 : Option cm_V) (x3 : Int) (s : cm_S) : cm_lp run cm_k180 51 [some (.inr (.inl 41)), o1, o2, some (.inl x3)] [] s = cF_180_51 run (cm_lp run cm_k180) o1 o2 x3 s := (cm_lp_eq run cm_k180 51 _ _ s).trans rfl
/-- ScriptFrontModel.look, from 87 on -/
def cF_180_90 (run : cm_RN) (X : cm_X) (x1 : Int) (x2 : Int) (o3 : Option cm_V) (s : cm_S) : Option cm_R :=
  if x2 = 39 then
    cm_bi (run 193 [.inr (.inl 41), .inl (s.1 4112)] (cm_p s 4111 3)) fun z1 s1 =>
      if z1 = (-1) then
        cm_bv (run 185 [.inr (.inl 41), .inl 1, .inl (s1.1 4112)] (cm_p s1 4113 z1)) fun s2 =>
          some (.inl none, s2)
      else
        some (.inl none, (cm_p s1 4113 z1))
  else
    if x2 = 34 then
      cm_bi (run 193 [.inr (.inl 41), .inl (s.1 4112)] (cm_p s 4111 3)) fun z3 s3 =>
        if z3 = (-1) then
          cm_bv (run 185 [.inr (.inl 41), .inl 1, .inl (s3.1 4112)] (cm_p s3 4113 z3)) fun s4 =>
            some (.inl none, s4)
        else
          some (.inl none, (cm_p s3 4113 z3))
    else
      if x2 = 47 then
        if x1 = 0 then
          cm_bi (run 196 [.inr (.inl 41), .inl (s.1 4112)] s) fun z5 s5 =>
            if z5 = 0 then
              cm_bv (run 185 [.inr (.inl 41), .inl 1, .inl (s5.1 4112)] (cm_p (cm_p s5 4111 z5) 4113 (-1))) fun s6 =>
                some (.inl none, s6)
            else
              cm_bi (run 197 [.inl z5] (cm_p s5 4111 z5)) fun z7 s7 =>
                if (cm_w ((s5.1 4112) + z7)) = (-1) then
                  cm_bv (run 185 [.inr (.inl 41), .inl 1, .inl (s7.1 4112)] (cm_p s7 4113 (cm_w ((s5.1 4112) + z7)))) fun s8 =>
                    some (.inl none, s8)
                else
                  some (.inl none, (cm_p s7 4113 (cm_w ((s5.1 4112) + z7))))
        else
          cm_bi (run 194 [.inr (.inl 41), .inl (s.1 4112)] (cm_p s 4111 4)) fun z9 s9 =>
            if z9 = (-1) then
              cm_bv (run 185 [.inr (.inl 41), .inl 1, .inl (s9.1 4112)] (cm_p s9 4113 z9)) fun s10 =>
                some (.inl none, s10)
            else
              some (.inl none, (cm_p s9 4113 z9))
      else
        cm_bi (run 196 [.inr (.inl 41), .inl (s.1 4112)] s) fun z11 s11 =>
          if z11 = 0 then
            cm_bv (run 185 [.inr (.inl 41), .inl 1, .inl (s11.1 4112)] (cm_p (cm_p s11 4111 z11) 4113 (-1))) fun s12 =>
              some (.inl none, s12)
          else
            cm_bi (run 197 [.inl z11] (cm_p s11 4111 z11)) fun z13 s13 =>
              if (cm_w ((s11.1 4112) + z13)) = (-1) then
                cm_bv (run 185 [.inr (.inl 41), .inl 1, .inl (s13.1 4112)] (cm_p s13 4113 (cm_w ((s11.1 4112) + z13)))) fun s14 =>
                  some (.inl none, s14)
              else
                some (.inl none, (cm_p s13 4113 (cm_w ((s11.1 4112) + z13))))
set_option maxRecDepth 100000 in
theorem cE_180_90 (run : cm_RN) (x1 : Int) (x2 : Int) (o3 : Option cm_V) (s : cm_S) : cm_lp run cm_k180 90 [some (.inr (.inl 41)), some (.inl x1), some (.inl x2), o3] [] s = cF_180_90 run (cm_lp run cm_k180) x1 x2 o3 s := (cm_lp_eq run cm_k180 90 _ _ s).trans rfl
/-- ScriptFrontModel.here, from 0 on -/
def cF_181_0 (run : cm_RN) (X : cm_X) (x1 : Int) (s : cm_S) : Option cm_R :=
  if x1 < (s.1 4107) then
    if (0 : Int) ≤ x1 ∧ x1 < 480 then
      some (.inl (some (.inl (s.2 46 x1))), s)
    else none
  else
    some (.inl (some (.inl 0)), s)
set_option maxRecDepth 100000 in
theorem cE_181_0 (run : cm_RN) (x1 : Int) (s : cm_S) : cm_lp run cm_k181 0 [some (.inr (.inl 41)), some (.inl x1)] [] s = cF_181_0 run (cm_lp run cm_k181) x1 s := (cm_lp_eq run cm_k181 0 _ _ s).trans rfl
/-- ScriptFrontModel.skip, from 0 on -/
def cF_182_0 (run : cm_RN) (X : cm_X) (s : cm_S) : Option cm_R :=
  X 10 [some (.inr (.inl 41)), some (.inl 1), none] [] (cm_p (cm_p s 4115 0) 4112 (s.1 4114))
set_option maxRecDepth 100000 in
theorem cE_182_0 (run : cm_RN) (s : cm_S) : cm_lp run cm_k182 0 [some (.inr (.inl 41)), none, none] [] s = cF_182_0 run (cm_lp run cm_k182) s := (cm_lp_eq run cm_k182 0 _ _ s).trans rfl
/-- ScriptFrontModel.skip, from 9 on -/
def cF_182_10 (run : cm_RN) (X : cm_X) (x1 : Int) (o2 : Option cm_V) (s : cm_S) : Option cm_R :=
  if x1 = 0 then
    some (.inl none, s)
  else
    if (s.1 4108) = 0 then
      if (s.1 4112) < (s.1 4107) then
        if (0 : Int) ≤ (s.1 4112) ∧ (s.1 4112) < 480 then
          cm_bi (run 173 [.inl (s.2 46 (s.1 4112))] s) fun z1 s1 =>
            if z1 = 0 then
              cm_bi (run 181 [.inr (.inl 41), .inl (s1.1 4112)] s1) fun z2 s2 =>
                if z2 = 47 then
                  cm_bi (run 181 [.inr (.inl 41), .inl (cm_w ((s2.1 4112) + 1))] s2) fun z3 s3 =>
                    if z3 = 47 then
                      cm_bi (run 184 [.inr (.inl 41), .inl (s3.1 4112)] s3) fun z4 s4 =>
                        if (s4.1 4107) < z4 then
                          cm_bv (run 185 [.inr (.inl 41), .inl 1, .inl (s4.1 4112)] s4) fun s5 =>
                            X 10 [some (.inr (.inl 41)), some (.inl 0), some (.inl z4)] [] s5
                        else
                          X 10 [some (.inr (.inl 41)), some (.inl 1), some (.inl z4)] [] (cm_p s4 4112 z4)
                    else
                      cm_bi (run 181 [.inr (.inl 41), .inl (cm_w ((s3.1 4112) + 1))] s3) fun z6 s6 =>
                        if z6 = 42 then
                          cm_bi (run 184 [.inr (.inl 41), .inl (s6.1 4112)] s6) fun z7 s7 =>
                            if (s7.1 4107) < z7 then
                              cm_bv (run 185 [.inr (.inl 41), .inl 1, .inl (s7.1 4112)] s7) fun s8 =>
                                X 10 [some (.inr (.inl 41)), some (.inl 0), some (.inl z7)] [] s8
                            else
                              X 10 [some (.inr (.inl 41)), some (.inl 1), some (.inl z7)] [] (cm_p s7 4112 z7)
                        else
                          X 10 [some (.inr (.inl 41)), some (.inl 0), o2] [] s6
                else
                  X 10 [some (.inr (.inl 41)), some (.inl 0), o2] [] s2
            else
              if (s1.1 4115) = 0 then
                if (0 : Int) ≤ (s1.1 4112) ∧ (s1.1 4112) < 480 then
                  cm_bi (run 183 [.inl (s1.2 46 (s1.1 4112))] s1) fun z9 s9 =>
                    if z9 = 0 then
                      X 10 [some (.inr (.inl 41)), some (.inl 1), o2] [] (cm_p (cm_p s9 4115 0) 4112 (cm_w ((s9.1 4112) + 1)))
                    else
                      X 10 [some (.inr (.inl 41)), some (.inl 1), o2] [] (cm_p (cm_p s9 4115 1) 4112 (cm_w ((s9.1 4112) + 1)))
                else none
              else
                X 10 [some (.inr (.inl 41)), some (.inl 1), o2] [] (cm_p (cm_p s1 4115 1) 4112 (cm_w ((s1.1 4112) + 1)))
        else none
      else
        cm_bi (run 181 [.inr (.inl 41), .inl (s.1 4112)] s) fun z10 s10 =>
          if z10 = 47 then
            cm_bi (run 181 [.inr (.inl 41), .inl (cm_w ((s10.1 4112) + 1))] s10) fun z11 s11 =>
              if z11 = 47 then
                cm_bi (run 184 [.inr (.inl 41), .inl (s11.1 4112)] s11) fun z12 s12 =>
                  if (s12.1 4107) < z12 then
                    cm_bv (run 185 [.inr (.inl 41), .inl 1, .inl (s12.1 4112)] s12) fun s13 =>
                      X 10 [some (.inr (.inl 41)), some (.inl 0), some (.inl z12)] [] s13
                  else
                    X 10 [some (.inr (.inl 41)), some (.inl 1), some (.inl z12)] [] (cm_p s12 4112 z12)
              else
                cm_bi (run 181 [.inr (.inl 41), .inl (cm_w ((s11.1 4112) + 1))] s11) fun z14 s14 =>
                  if z14 = 42 then
                    cm_bi (run 184 [.inr (.inl 41), .inl (s14.1 4112)] s14) fun z15 s15 =>
                      if (s15.1 4107) < z15 then
                        cm_bv (run 185 [.inr (.inl 41), .inl 1, .inl (s15.1 4112)] s15) fun s16 =>
                          X 10 [some (.inr (.inl 41)), some (.inl 0), some (.inl z15)] [] s16
                      else
                        X 10 [some (.inr (.inl 41)), some (.inl 1), some (.inl z15)] [] (cm_p s15 4112 z15)
                  else
                    X 10 [some (.inr (.inl 41)), some (.inl 0), o2] [] s14
          else
            X 10 [some (.inr (.inl 41)), some (.inl 0), o2] [] s10
    else
      some (.inl none, s)
set_option maxRecDepth 100000 in
theorem cE_182_10 (run : cm_RN) (x1 : Int) (o2 : Option cm_V) (s : cm_S) : cm_lp run cm_k182 10 [some (.inr (.inl 41)), some (.inl x1), o2] [] s = cF_182_10 run (cm_lp run cm_k182) x1 o2 s := (cm_lp_eq run cm_k182 10 _ _ s).trans rfl
/-- ScriptFrontModel.isEnd, from 0 on -/
def cF_183_0 (run : cm_RN) (X : cm_X) (x0 : Int) (s : cm_S) : Option cm_R :=
  if x0 = 10 then
    some (.inl (some (.inl 1)), s)
  else
    if x0 = 13 then
      some (.inl (some (.inl 1)), s)
    else
      some (.inl (some (.inl 0)), s)
set_option maxRecDepth 100000 in
theorem cE_183_0 (run : cm_RN) (x0 : Int) (s : cm_S) : cm_lp run cm_k183 0 [some (.inl x0)] [] s = cF_183_0 run (cm_lp run cm_k183) x0 s := (cm_lp_eq run cm_k183 0 _ _ s).trans rfl
/-- ScriptFrontModel.commentEnd, from 0 on -/
def cF_184_0 (run : cm_RN) (X : cm_X) (x1 : Int) (s : cm_S) : Option cm_R :=
  cm_bi (run 181 [.inr (.inl 41), .inl (cm_w (x1 + 1))] s) fun z1 s1 =>
    if z1 = 47 then
      X 12 [some (.inr (.inl 41)), some (.inl x1), some (.inl (cm_w (x1 + 2)))] [] s1
    else
      X 27 [some (.inr (.inl 41)), some (.inl x1), some (.inl (cm_w (x1 + 2)))] [] s1
set_option maxRecDepth 100000 in
theorem cE_184_0 (run : cm_RN) (x1 : Int) (s : cm_S) : cm_lp run cm_k184 0 [some (.inr (.inl 41)), some (.inl x1), none] [] s = cF_184_0 run (cm_lp run cm_k184) x1 s := (cm_lp_eq run cm_k184 0 _ _ s).trans rfl
/-- ScriptFrontModel.commentEnd, from 11 on -/
def cF_184_12 (run : cm_RN) (X : cm_X) (o1 : Option cm_V) (x2 : Int) (s : cm_S) : Option cm_R :=
  if x2 < (s.1 4107) then
    if (0 : Int) ≤ x2 ∧ x2 < 480 then
      cm_bi (run 183 [.inl (s.2 46 x2)] s) fun z1 s1 =>
        if z1 = 0 then
          X 12 [some (.inr (.inl 41)), o1, some (.inl (cm_w (x2 + 1)))] [] s1
        else
          some (.inl (some (.inl x2)), s1)
    else none
  else
    some (.inl (some (.inl x2)), s)
set_option maxRecDepth 100000 in
theorem cE_184_12 (run : cm_RN) (o1 : Option cm_V) (x2 : Int) (s : cm_S) : cm_lp run cm_k184 12 [some (.inr (.inl 41)), o1, some (.inl x2)] [] s = cF_184_12 run (cm_lp run cm_k184) o1 x2 s := (cm_lp_eq run cm_k184 12 _ _ s).trans rfl
/-- ScriptFrontModel.commentEnd, from 25 on -/
def cF_184_27 (run : cm_RN) (X : cm_X) (o1 : Option cm_V) (x2 : Int) (s : cm_S) : Option cm_R :=
  if x2 < (s.1 4107) then
    if (0 : Int) ≤ x2 ∧ x2 < 480 then
      if (s.2 46 x2) = 42 then
        cm_bi (run 181 [.inr (.inl 41), .inl (cm_w (x2 + 1))] s) fun z1 s1 =>
          if z1 = 47 then
            if x2 < (s1.1 4107) then
              some (.inl (some (.inl (cm_w (x2 + 2)))), s1)
            else
              some (.inl (some (.inl (cm_w ((s1.1 4107) + 1)))), s1)
          else
            if (s1.1 4115) = 0 then
              if (0 : Int) ≤ x2 ∧ x2 < 480 then
                cm_bi (run 183 [.inl (s1.2 46 x2)] s1) fun z2 s2 =>
                  if z2 = 0 then
                    X 27 [some (.inr (.inl 41)), o1, some (.inl (cm_w (x2 + 1)))] [] (cm_p s2 4115 0)
                  else
                    X 27 [some (.inr (.inl 41)), o1, some (.inl (cm_w (x2 + 1)))] [] (cm_p s2 4115 1)
              else none
            else
              X 27 [some (.inr (.inl 41)), o1, some (.inl (cm_w (x2 + 1)))] [] (cm_p s1 4115 1)
      else
        if (s.1 4115) = 0 then
          if (0 : Int) ≤ x2 ∧ x2 < 480 then
            cm_bi (run 183 [.inl (s.2 46 x2)] s) fun z3 s3 =>
              if z3 = 0 then
                X 27 [some (.inr (.inl 41)), o1, some (.inl (cm_w (x2 + 1)))] [] (cm_p s3 4115 0)
              else
                X 27 [some (.inr (.inl 41)), o1, some (.inl (cm_w (x2 + 1)))] [] (cm_p s3 4115 1)
          else none
        else
          X 27 [some (.inr (.inl 41)), o1, some (.inl (cm_w (x2 + 1)))] [] (cm_p s 4115 1)
    else none
  else
    if x2 < (s.1 4107) then
      some (.inl (some (.inl (cm_w (x2 + 2)))), s)
    else
      some (.inl (some (.inl (cm_w ((s.1 4107) + 1)))), s)
set_option maxRecDepth 100000 in
theorem cE_184_27 (run : cm_RN) (o1 : Option cm_V) (x2 : Int) (s : cm_S) : cm_lp run cm_k184 27 [some (.inr (.inl 41)), o1, some (.inl x2)] [] s = cF_184_27 run (cm_lp run cm_k184) o1 x2 s := (cm_lp_eq run cm_k184 27 _ _ s).trans rfl
/-- ScriptFrontModel.wrong, from 0 on -/
def cF_185_0 (run : cm_RN) (X : cm_X) (x1 : Int) (x2 : Int) (s : cm_S) : Option cm_R :=
  if (s.1 4108) = 0 then
    some (.inl none, (cm_p (cm_p s 4108 x1) 4109 x2))
  else
    some (.inl none, s)
set_option maxRecDepth 100000 in
theorem cE_185_0 (run : cm_RN) (x1 : Int) (x2 : Int) (s : cm_S) : cm_lp run cm_k185 0 [some (.inr (.inl 41)), some (.inl x1), some (.inl x2)] [] s = cF_185_0 run (cm_lp run cm_k185) x1 x2 s := (cm_lp_eq run cm_k185 0 _ _ s).trans rfl
/-- ScriptFrontModel.isLetter, from 0 on -/
def cF_186_0 (run : cm_RN) (X : cm_X) (x0 : Int) (s : cm_S) : Option cm_R :=
  if x0 < 97 then
    if x0 < 65 then
      if x0 = 36 then
        some (.inl (some (.inl 1)), s)
      else
        if x0 = 95 then
          some (.inl (some (.inl 1)), s)
        else
          some (.inl (some (.inl 0)), s)
    else
      if 90 < x0 then
        if x0 = 36 then
          some (.inl (some (.inl 1)), s)
        else
          if x0 = 95 then
            some (.inl (some (.inl 1)), s)
          else
            some (.inl (some (.inl 0)), s)
      else
        some (.inl (some (.inl 1)), s)
  else
    if 122 < x0 then
      if x0 < 65 then
        if x0 = 36 then
          some (.inl (some (.inl 1)), s)
        else
          if x0 = 95 then
            some (.inl (some (.inl 1)), s)
          else
            some (.inl (some (.inl 0)), s)
      else
        if 90 < x0 then
          if x0 = 36 then
            some (.inl (some (.inl 1)), s)
          else
            if x0 = 95 then
              some (.inl (some (.inl 1)), s)
            else
              some (.inl (some (.inl 0)), s)
        else
          some (.inl (some (.inl 1)), s)
    else
      some (.inl (some (.inl 1)), s)
set_option maxRecDepth 100000 in
theorem cE_186_0 (run : cm_RN) (x0 : Int) (s : cm_S) : cm_lp run cm_k186 0 [some (.inl x0)] [] s = cF_186_0 run (cm_lp run cm_k186) x0 s := (cm_lp_eq run cm_k186 0 _ _ s).trans rfl
/-- ScriptFrontModel.isNameChar, from 0 on -/
def cF_187_0 (run : cm_RN) (X : cm_X) (x0 : Int) (s : cm_S) : Option cm_R :=
  cm_bi (run 186 [.inl x0] s) fun z1 s1 =>
    if z1 = 0 then
      cm_bi (run 188 [.inl x0] s1) fun z2 s2 =>
        if z2 = 0 then
          some (.inl (some (.inl 0)), s2)
        else
          some (.inl (some (.inl 1)), s2)
    else
      some (.inl (some (.inl 1)), s1)
set_option maxRecDepth 100000 in
theorem cE_187_0 (run : cm_RN) (x0 : Int) (s : cm_S) : cm_lp run cm_k187 0 [some (.inl x0)] [] s = cF_187_0 run (cm_lp run cm_k187) x0 s := (cm_lp_eq run cm_k187 0 _ _ s).trans rfl
/-- ScriptFrontModel.isDigit, from 0 on -/
def cF_188_0 (run : cm_RN) (X : cm_X) (x0 : Int) (s : cm_S) : Option cm_R :=
  if x0 < 48 then
    some (.inl (some (.inl 0)), s)
  else
    if 57 < x0 then
      some (.inl (some (.inl 0)), s)
    else
      some (.inl (some (.inl 1)), s)
set_option maxRecDepth 100000 in
theorem cE_188_0 (run : cm_RN) (x0 : Int) (s : cm_S) : cm_lp run cm_k188 0 [some (.inl x0)] [] s = cF_188_0 run (cm_lp run cm_k188) x0 s := (cm_lp_eq run cm_k188 0 _ _ s).trans rfl
/-- ScriptFrontModel.wordOf, from 0 on -/
def cF_189_0 (run : cm_RN) (X : cm_X) (x1 : Int) (x2 : Int) (s : cm_S) : Option cm_R :=
  if 10 < (cm_w (x2 - x1)) then
    some (.inl (some (.inl 1)), s)
  else
    X 12 [some (.inr (.inl 41)), some (.inl x1), some (.inl x2), some (.inr (.inr 0)), none, some (.inl x1)] [] s
set_option maxRecDepth 100000 in
theorem cE_189_0 (run : cm_RN) (x1 : Int) (x2 : Int) (s : cm_S) : cm_lp run cm_k189 0 [some (.inr (.inl 41)), some (.inl x1), some (.inl x2), none, none, none] [] s = cF_189_0 run (cm_lp run cm_k189) x1 x2 s := (cm_lp_eq run cm_k189 0 _ _ s).trans rfl
/-- ScriptFrontModel.wordOf, from 11 on -/
def cF_189_12 (run : cm_RN) (X : cm_X) (o1 : Option cm_V) (x2 : Int) (l3 : Int) (o4 : Option cm_V) (x5 : Int) (s : cm_S) : Option cm_R :=
  if x5 < x2 then
    if (0 : Int) ≤ x5 ∧ x5 < 480 then
      if (s.2 46 x5) < 97 then
        some (.inl (some (.inl 1)), s)
      else
        if (0 : Int) ≤ x5 ∧ x5 < 480 then
          if 122 < (s.2 46 x5) then
            some (.inl (some (.inl 1)), s)
          else
            if (0 : Int) ≤ x5 ∧ x5 < 480 then
              X 12 [some (.inr (.inl 41)), o1, some (.inl x2), some (.inr (.inr (cm_wl ((cm_wl ((cm_wl (32 * l3)) + (s.2 46 x5))) - 96)))), none, some (.inl (cm_w (x5 + 1)))] [] s
            else none
        else none
    else none
  else
    X 46 [some (.inr (.inl 41)), o1, some (.inl x2), some (.inr (.inr l3)), o4, some (.inl 0)] [] s
set_option maxRecDepth 100000 in
theorem cE_189_12 (run : cm_RN) (o1 : Option cm_V) (x2 : Int) (l3 : Int) (o4 : Option cm_V) (x5 : Int) (s : cm_S) : cm_lp run cm_k189 12 [some (.inr (.inl 41)), o1, some (.inl x2), some (.inr (.inr l3)), o4, some (.inl x5)] [] s = cF_189_12 run (cm_lp run cm_k189) o1 x2 l3 o4 x5 s := (cm_lp_eq run cm_k189 12 _ _ s).trans rfl
/-- ScriptFrontModel.wordOf, from 44 on -/
def cF_189_46 (run : cm_RN) (X : cm_X) (o1 : Option cm_V) (o2 : Option cm_V) (l3 : Int) (o4 : Option cm_V) (x5 : Int) (s : cm_S) : Option cm_R :=
  if x5 < 27 then
    if (0 : Int) ≤ x5 ∧ x5 < 27 then
      if (if (cm_kr 42 x5) < l3 then (-1 : Int) else if (cm_kr 42 x5) = l3 then 0 else 1) = 0 then
        some (.inl (some (.inl (cm_w (1000 + x5)))), s)
      else
        X 46 [some (.inr (.inl 41)), o1, o2, some (.inr (.inr l3)), o4, some (.inl (cm_w (x5 + 1)))] [] s
    else none
  else
    some (.inl (some (.inl 1)), s)
set_option maxRecDepth 100000 in
theorem cE_189_46 (run : cm_RN) (o1 : Option cm_V) (o2 : Option cm_V) (l3 : Int) (o4 : Option cm_V) (x5 : Int) (s : cm_S) : cm_lp run cm_k189 46 [some (.inr (.inl 41)), o1, o2, some (.inr (.inr l3)), o4, some (.inl x5)] [] s = cF_189_46 run (cm_lp run cm_k189) o1 o2 l3 o4 x5 s := (cm_lp_eq run cm_k189 46 _ _ s).trans rfl
/-- ScriptFrontModel.numberEnd, from 0 on -/
def cF_190_0 (run : cm_RN) (X : cm_X) (x1 : Int) (s : cm_S) : Option cm_R :=
  cm_bi (run 181 [.inr (.inl 41), .inl x1] s) fun z1 s1 =>
    if z1 = 48 then
      cm_bi (run 181 [.inr (.inl 41), .inl (cm_w (x1 + 1))] s1) fun z2 s2 =>
        if z2 = 120 then
          X 24 [some (.inr (.inl 41)), some (.inl x1), some (.inl (cm_w (x1 + 2))), none] [] s2
        else
          cm_bi (run 181 [.inr (.inl 41), .inl (cm_w (x1 + 1))] s2) fun z3 s3 =>
            if z3 = 88 then
              X 24 [some (.inr (.inl 41)), some (.inl x1), some (.inl (cm_w (x1 + 2))), none] [] s3
            else
              X 46 [some (.inr (.inl 41)), some (.inl x1), none, none] [] s3
    else
      X 46 [some (.inr (.inl 41)), some (.inl x1), none, none] [] s1
set_option maxRecDepth 100000 in
theorem cE_190_0 (run : cm_RN) (x1 : Int) (s : cm_S) : cm_lp run cm_k190 0 [some (.inr (.inl 41)), some (.inl x1), none, none] [] s = cF_190_0 run (cm_lp run cm_k190) x1 s := (cm_lp_eq run cm_k190 0 _ _ s).trans rfl
/-- ScriptFrontModel.numberEnd, from 23 on -/
def cF_190_24 (run : cm_RN) (X : cm_X) (x1 : Int) (x2 : Int) (o3 : Option cm_V) (s : cm_S) : Option cm_R :=
  cm_bi (run 181 [.inr (.inl 41), .inl x2] s) fun z1 s1 =>
    cm_bi (run 191 [.inl z1] s1) fun z2 s2 =>
      if z2 = 0 then
        if x2 = (cm_w (x1 + 2)) then
          some (.inl (some (.inl (-1))), s2)
        else
          cm_bi (run 181 [.inr (.inl 41), .inl x2] s2) fun z3 s3 =>
            cm_bi (run 187 [.inl z3] s3) fun z4 s4 =>
              if z4 = 0 then
                some (.inl (some (.inl x2)), s4)
              else
                some (.inl (some (.inl (-1))), s4)
      else
        X 24 [some (.inr (.inl 41)), some (.inl x1), some (.inl (cm_w (x2 + 1))), o3] [] s2
set_option maxRecDepth 100000 in
theorem cE_190_24 (run : cm_RN) (x1 : Int) (x2 : Int) (o3 : Option cm_V) (s : cm_S) : cm_lp run cm_k190 24 [some (.inr (.inl 41)), some (.inl x1), some (.inl x2), o3] [] s = cF_190_24 run (cm_lp run cm_k190) x1 x2 o3 s := (cm_lp_eq run cm_k190 24 _ _ s).trans rfl
/-- ScriptFrontModel.numberEnd, from 44 on -/
def cF_190_46 (run : cm_RN) (X : cm_X) (x1 : Int) (o2 : Option cm_V) (o3 : Option cm_V) (s : cm_S) : Option cm_R :=
  cm_bi (run 192 [.inr (.inl 41), .inl x1] s) fun z1 s1 =>
    cm_bi (run 181 [.inr (.inl 41), .inl x1] s1) fun z2 s2 =>
      if z2 = 48 then
        if (cm_w (x1 + 1)) < z1 then
          some (.inl (some (.inl (-1))), s2)
        else
          X 63 [some (.inr (.inl 41)), some (.inl x1), some (.inl z1), o3] [] s2
      else
        X 63 [some (.inr (.inl 41)), some (.inl x1), some (.inl z1), o3] [] s2
set_option maxRecDepth 100000 in
theorem cE_190_46 (run : cm_RN) (x1 : Int) (o2 : Option cm_V) (o3 : Option cm_V) (s : cm_S) : cm_lp run cm_k190 46 [some (.inr (.inl 41)), some (.inl x1), o2, o3] [] s = cF_190_46 run (cm_lp run cm_k190) x1 o2 o3 s := (cm_lp_eq run cm_k190 46 _ _ s).trans rfl
/-- ScriptFrontModel.numberEnd, from 60 on -/
def cF_190_63 (run : cm_RN) (X : cm_X) (o1 : Option cm_V) (x2 : Int) (o3 : Option cm_V) (s : cm_S) : Option cm_R :=
  cm_bi (run 181 [.inr (.inl 41), .inl x2] s) fun z1 s1 =>
    if z1 = 46 then
      cm_bi (run 192 [.inr (.inl 41), .inl (cm_w (x2 + 1))] s1) fun z2 s2 =>
        X 75 [some (.inr (.inl 41)), o1, some (.inl z2), o3] [] s2
    else
      X 75 [some (.inr (.inl 41)), o1, some (.inl x2), o3] [] s1
set_option maxRecDepth 100000 in
theorem cE_190_63 (run : cm_RN) (o1 : Option cm_V) (x2 : Int) (o3 : Option cm_V) (s : cm_S) : cm_lp run cm_k190 63 [some (.inr (.inl 41)), o1, some (.inl x2), o3] [] s = cF_190_63 run (cm_lp run cm_k190) o1 x2 o3 s := (cm_lp_eq run cm_k190 63 _ _ s).trans rfl
/-- ScriptFrontModel.numberEnd, from 71 on -/
def cF_190_75 (run : cm_RN) (X : cm_X) (o1 : Option cm_V) (x2 : Int) (o3 : Option cm_V) (s : cm_S) : Option cm_R :=
  cm_bi (run 181 [.inr (.inl 41), .inl x2] s) fun z1 s1 =>
    if z1 = 101 then
      X 86 [some (.inr (.inl 41)), o1, some (.inl x2), o3] [] s1
    else
      cm_bi (run 181 [.inr (.inl 41), .inl x2] s1) fun z2 s2 =>
        if z2 = 69 then
          X 86 [some (.inr (.inl 41)), o1, some (.inl x2), o3] [] s2
        else
          cm_bi (run 181 [.inr (.inl 41), .inl x2] s2) fun z3 s3 =>
            cm_bi (run 187 [.inl z3] s3) fun z4 s4 =>
              if z4 = 0 then
                some (.inl (some (.inl x2)), s4)
              else
                some (.inl (some (.inl (-1))), s4)
set_option maxRecDepth 100000 in
theorem cE_190_75 (run : cm_RN) (o1 : Option cm_V) (x2 : Int) (o3 : Option cm_V) (s : cm_S) : cm_lp run cm_k190 75 [some (.inr (.inl 41)), o1, some (.inl x2), o3] [] s = cF_190_75 run (cm_lp run cm_k190) o1 x2 o3 s := (cm_lp_eq run cm_k190 75 _ _ s).trans rfl
/-- ScriptFrontModel.numberEnd, from 81 on -/
def cF_190_86 (run : cm_RN) (X : cm_X) (o1 : Option cm_V) (x2 : Int) (o3 : Option cm_V) (s : cm_S) : Option cm_R :=
  cm_bi (run 181 [.inr (.inl 41), .inl (cm_w (x2 + 1))] s) fun z1 s1 =>
    if z1 = 43 then
      cm_bi (run 181 [.inr (.inl 41), .inl (cm_w (x2 + 2))] s1) fun z2 s2 =>
        cm_bi (run 188 [.inl z2] s2) fun z3 s3 =>
          if z3 = 0 then
            cm_bi (run 181 [.inr (.inl 41), .inl x2] s3) fun z4 s4 =>
              cm_bi (run 187 [.inl z4] s4) fun z5 s5 =>
                if z5 = 0 then
                  some (.inl (some (.inl x2)), s5)
                else
                  some (.inl (some (.inl (-1))), s5)
          else
            cm_bi (run 192 [.inr (.inl 41), .inl (cm_w (x2 + 2))] s3) fun z6 s6 =>
              cm_bi (run 181 [.inr (.inl 41), .inl z6] s6) fun z7 s7 =>
                cm_bi (run 187 [.inl z7] s7) fun z8 s8 =>
                  if z8 = 0 then
                    some (.inl (some (.inl z6)), s8)
                  else
                    some (.inl (some (.inl (-1))), s8)
    else
      cm_bi (run 181 [.inr (.inl 41), .inl (cm_w (x2 + 1))] s1) fun z9 s9 =>
        if z9 = 45 then
          cm_bi (run 181 [.inr (.inl 41), .inl (cm_w (x2 + 2))] s9) fun z10 s10 =>
            cm_bi (run 188 [.inl z10] s10) fun z11 s11 =>
              if z11 = 0 then
                cm_bi (run 181 [.inr (.inl 41), .inl x2] s11) fun z12 s12 =>
                  cm_bi (run 187 [.inl z12] s12) fun z13 s13 =>
                    if z13 = 0 then
                      some (.inl (some (.inl x2)), s13)
                    else
                      some (.inl (some (.inl (-1))), s13)
              else
                cm_bi (run 192 [.inr (.inl 41), .inl (cm_w (x2 + 2))] s11) fun z14 s14 =>
                  cm_bi (run 181 [.inr (.inl 41), .inl z14] s14) fun z15 s15 =>
                    cm_bi (run 187 [.inl z15] s15) fun z16 s16 =>
                      if z16 = 0 then
                        some (.inl (some (.inl z14)), s16)
                      else
                        some (.inl (some (.inl (-1))), s16)
        else
          cm_bi (run 181 [.inr (.inl 41), .inl (cm_w (x2 + 1))] s9) fun z17 s17 =>
            cm_bi (run 188 [.inl z17] s17) fun z18 s18 =>
              if z18 = 0 then
                cm_bi (run 181 [.inr (.inl 41), .inl x2] s18) fun z19 s19 =>
                  cm_bi (run 187 [.inl z19] s19) fun z20 s20 =>
                    if z20 = 0 then
                      some (.inl (some (.inl x2)), s20)
                    else
                      some (.inl (some (.inl (-1))), s20)
              else
                cm_bi (run 192 [.inr (.inl 41), .inl (cm_w (x2 + 1))] s18) fun z21 s21 =>
                  cm_bi (run 181 [.inr (.inl 41), .inl z21] s21) fun z22 s22 =>
                    cm_bi (run 187 [.inl z22] s22) fun z23 s23 =>
                      if z23 = 0 then
                        some (.inl (some (.inl z21)), s23)
                      else
                        some (.inl (some (.inl (-1))), s23)
set_option maxRecDepth 100000 in
theorem cE_190_86 (run : cm_RN) (o1 : Option cm_V) (x2 : Int) (o3 : Option cm_V) (s : cm_S) : cm_lp run cm_k190 86 [some (.inr (.inl 41)), o1, some (.inl x2), o3] [] s = cF_190_86 run (cm_lp run cm_k190) o1 x2 o3 s := (cm_lp_eq run cm_k190 86 _ _ s).trans rfl
/-- ScriptFrontModel.isHex, from 0 on -/
def cF_191_0 (run : cm_RN) (X : cm_X) (x0 : Int) (s : cm_S) : Option cm_R :=
  cm_bi (run 188 [.inl x0] s) fun z1 s1 =>
    if z1 = 0 then
      if x0 < 97 then
        if x0 < 65 then
          some (.inl (some (.inl 0)), s1)
        else
          if 70 < x0 then
            some (.inl (some (.inl 0)), s1)
          else
            some (.inl (some (.inl 1)), s1)
      else
        if 102 < x0 then
          if x0 < 65 then
            some (.inl (some (.inl 0)), s1)
          else
            if 70 < x0 then
              some (.inl (some (.inl 0)), s1)
            else
              some (.inl (some (.inl 1)), s1)
        else
          some (.inl (some (.inl 1)), s1)
    else
      some (.inl (some (.inl 1)), s1)
set_option maxRecDepth 100000 in
theorem cE_191_0 (run : cm_RN) (x0 : Int) (s : cm_S) : cm_lp run cm_k191 0 [some (.inl x0)] [] s = cF_191_0 run (cm_lp run cm_k191) x0 s := (cm_lp_eq run cm_k191 0 _ _ s).trans rfl
/-- ScriptFrontModel.digits, from 0 on -/
def cF_192_0 (run : cm_RN) (X : cm_X) (x1 : Int) (s : cm_S) : Option cm_R :=
  X 3 [some (.inr (.inl 41)), some (.inl x1), some (.inl x1)] [] s
set_option maxRecDepth 100000 in
theorem cE_192_0 (run : cm_RN) (x1 : Int) (s : cm_S) : cm_lp run cm_k192 0 [some (.inr (.inl 41)), some (.inl x1), none] [] s = cF_192_0 run (cm_lp run cm_k192) x1 s := (cm_lp_eq run cm_k192 0 _ _ s).trans rfl
/-- ScriptFrontModel.digits, from 2 on -/
def cF_192_3 (run : cm_RN) (X : cm_X) (o1 : Option cm_V) (x2 : Int) (s : cm_S) : Option cm_R :=
  cm_bi (run 181 [.inr (.inl 41), .inl x2] s) fun z1 s1 =>
    cm_bi (run 188 [.inl z1] s1) fun z2 s2 =>
      if z2 = 0 then
        some (.inl (some (.inl x2)), s2)
      else
        X 3 [some (.inr (.inl 41)), o1, some (.inl (cm_w (x2 + 1)))] [] s2
set_option maxRecDepth 100000 in
theorem cE_192_3 (run : cm_RN) (o1 : Option cm_V) (x2 : Int) (s : cm_S) : cm_lp run cm_k192 3 [some (.inr (.inl 41)), o1, some (.inl x2)] [] s = cF_192_3 run (cm_lp run cm_k192) o1 x2 s := (cm_lp_eq run cm_k192 3 _ _ s).trans rfl
/-- ScriptFrontModel.stringEnd, from 0 on -/
def cF_193_0 (run : cm_RN) (X : cm_X) (x1 : Int) (s : cm_S) : Option cm_R :=
  X 5 [some (.inr (.inl 41)), some (.inl x1), some (.inl (cm_w (x1 + 1)))] [] s
set_option maxRecDepth 100000 in
theorem cE_193_0 (run : cm_RN) (x1 : Int) (s : cm_S) : cm_lp run cm_k193 0 [some (.inr (.inl 41)), some (.inl x1), none] [] s = cF_193_0 run (cm_lp run cm_k193) x1 s := (cm_lp_eq run cm_k193 0 _ _ s).trans rfl
/-- ScriptFrontModel.stringEnd, from 4 on -/
def cF_193_5 (run : cm_RN) (X : cm_X) (x1 : Int) (x2 : Int) (s : cm_S) : Option cm_R :=
  if x2 < (s.1 4107) then
    if (0 : Int) ≤ x2 ∧ x2 < 480 then
      if (0 : Int) ≤ x1 ∧ x1 < 480 then
        if (s.2 46 x2) = (s.2 46 x1) then
          if x2 < (s.1 4107) then
            some (.inl (some (.inl (cm_w (x2 + 1)))), s)
          else
            some (.inl (some (.inl (-1))), s)
        else
          if (0 : Int) ≤ x2 ∧ x2 < 480 then
            if (s.2 46 x2) = 92 then
              if (cm_w (x2 + 1)) < (s.1 4107) then
                if (0 : Int) ≤ (cm_w (x2 + 1)) ∧ (cm_w (x2 + 1)) < 480 then
                  if (s.2 46 (cm_w (x2 + 1))) = 13 then
                    cm_bi (run 181 [.inr (.inl 41), .inl (cm_w (x2 + 2))] s) fun z1 s1 =>
                      if z1 = 10 then
                        X 5 [some (.inr (.inl 41)), some (.inl x1), some (.inl (cm_w (x2 + 3)))] [] s1
                      else
                        X 5 [some (.inr (.inl 41)), some (.inl x1), some (.inl (cm_w (x2 + 2)))] [] s1
                  else
                    X 5 [some (.inr (.inl 41)), some (.inl x1), some (.inl (cm_w (x2 + 2)))] [] s
                else none
              else
                some (.inl (some (.inl (-1))), s)
            else
              if (0 : Int) ≤ x2 ∧ x2 < 480 then
                cm_bi (run 183 [.inl (s.2 46 x2)] s) fun z2 s2 =>
                  if z2 = 0 then
                    X 5 [some (.inr (.inl 41)), some (.inl x1), some (.inl (cm_w (x2 + 1)))] [] s2
                  else
                    some (.inl (some (.inl (-1))), s2)
              else none
          else none
      else none
    else none
  else
    if x2 < (s.1 4107) then
      some (.inl (some (.inl (cm_w (x2 + 1)))), s)
    else
      some (.inl (some (.inl (-1))), s)
set_option maxRecDepth 100000 in
theorem cE_193_5 (run : cm_RN) (x1 : Int) (x2 : Int) (s : cm_S) : cm_lp run cm_k193 5 [some (.inr (.inl 41)), some (.inl x1), some (.inl x2)] [] s = cF_193_5 run (cm_lp run cm_k193) x1 x2 s := (cm_lp_eq run cm_k193 5 _ _ s).trans rfl
/-- ScriptFrontModel.patternEnd, from 0 on -/
def cF_194_0 (run : cm_RN) (X : cm_X) (x1 : Int) (s : cm_S) : Option cm_R :=
  X 7 [some (.inr (.inl 41)), some (.inl x1), some (.inl (cm_w (x1 + 1))), some (.inl 0)] [] s
set_option maxRecDepth 100000 in
theorem cE_194_0 (run : cm_RN) (x1 : Int) (s : cm_S) : cm_lp run cm_k194 0 [some (.inr (.inl 41)), some (.inl x1), none, none] [] s = cF_194_0 run (cm_lp run cm_k194) x1 s := (cm_lp_eq run cm_k194 0 _ _ s).trans rfl
/-- ScriptFrontModel.patternEnd, from 6 on -/
def cF_194_7 (run : cm_RN) (X : cm_X) (o1 : Option cm_V) (x2 : Int) (x3 : Int) (s : cm_S) : Option cm_R :=
  if x2 < (s.1 4107) then
    if (0 : Int) ≤ x2 ∧ x2 < 480 then
      if (s.2 46 x2) = 47 then
        if x3 = 0 then
          if x2 < (s.1 4107) then
            cm_bi (run 195 [.inr (.inl 41), .inl (cm_w (x2 + 1))] s) fun z1 s1 =>
              some (.inl (some (.inl z1)), s1)
          else
            some (.inl (some (.inl (-1))), s)
        else
          if (0 : Int) ≤ x2 ∧ x2 < 480 then
            cm_bi (run 183 [.inl (s.2 46 x2)] s) fun z2 s2 =>
              if z2 = 0 then
                if (0 : Int) ≤ x2 ∧ x2 < 480 then
                  if (s2.2 46 x2) = 92 then
                    if (cm_w (x2 + 1)) < (s2.1 4107) then
                      if (0 : Int) ≤ (cm_w (x2 + 1)) ∧ (cm_w (x2 + 1)) < 480 then
                        cm_bi (run 183 [.inl (s2.2 46 (cm_w (x2 + 1)))] s2) fun z3 s3 =>
                          if z3 = 0 then
                            X 7 [some (.inr (.inl 41)), o1, some (.inl (cm_w ((cm_w (x2 + 1)) + 1))), some (.inl x3)] [] s3
                          else
                            some (.inl (some (.inl (-1))), s3)
                      else none
                    else
                      some (.inl (some (.inl (-1))), s2)
                  else
                    if (0 : Int) ≤ x2 ∧ x2 < 480 then
                      if (s2.2 46 x2) = 91 then
                        X 7 [some (.inr (.inl 41)), o1, some (.inl (cm_w (x2 + 1))), some (.inl 1)] [] s2
                      else
                        if x3 = 0 then
                          X 7 [some (.inr (.inl 41)), o1, some (.inl (cm_w (x2 + 1))), some (.inl 0)] [] s2
                        else
                          if (0 : Int) ≤ x2 ∧ x2 < 480 then
                            if (s2.2 46 x2) = 93 then
                              X 7 [some (.inr (.inl 41)), o1, some (.inl (cm_w (x2 + 1))), some (.inl 0)] [] s2
                            else
                              X 7 [some (.inr (.inl 41)), o1, some (.inl (cm_w (x2 + 1))), some (.inl 1)] [] s2
                          else none
                    else none
                else none
              else
                some (.inl (some (.inl (-1))), s2)
          else none
      else
        if (0 : Int) ≤ x2 ∧ x2 < 480 then
          cm_bi (run 183 [.inl (s.2 46 x2)] s) fun z4 s4 =>
            if z4 = 0 then
              if (0 : Int) ≤ x2 ∧ x2 < 480 then
                if (s4.2 46 x2) = 92 then
                  if (cm_w (x2 + 1)) < (s4.1 4107) then
                    if (0 : Int) ≤ (cm_w (x2 + 1)) ∧ (cm_w (x2 + 1)) < 480 then
                      cm_bi (run 183 [.inl (s4.2 46 (cm_w (x2 + 1)))] s4) fun z5 s5 =>
                        if z5 = 0 then
                          X 7 [some (.inr (.inl 41)), o1, some (.inl (cm_w ((cm_w (x2 + 1)) + 1))), some (.inl x3)] [] s5
                        else
                          some (.inl (some (.inl (-1))), s5)
                    else none
                  else
                    some (.inl (some (.inl (-1))), s4)
                else
                  if (0 : Int) ≤ x2 ∧ x2 < 480 then
                    if (s4.2 46 x2) = 91 then
                      X 7 [some (.inr (.inl 41)), o1, some (.inl (cm_w (x2 + 1))), some (.inl 1)] [] s4
                    else
                      if x3 = 0 then
                        X 7 [some (.inr (.inl 41)), o1, some (.inl (cm_w (x2 + 1))), some (.inl 0)] [] s4
                      else
                        if (0 : Int) ≤ x2 ∧ x2 < 480 then
                          if (s4.2 46 x2) = 93 then
                            X 7 [some (.inr (.inl 41)), o1, some (.inl (cm_w (x2 + 1))), some (.inl 0)] [] s4
                          else
                            X 7 [some (.inr (.inl 41)), o1, some (.inl (cm_w (x2 + 1))), some (.inl 1)] [] s4
                        else none
                  else none
              else none
            else
              some (.inl (some (.inl (-1))), s4)
        else none
    else none
  else
    if x2 < (s.1 4107) then
      cm_bi (run 195 [.inr (.inl 41), .inl (cm_w (x2 + 1))] s) fun z6 s6 =>
        some (.inl (some (.inl z6)), s6)
    else
      some (.inl (some (.inl (-1))), s)
set_option maxRecDepth 100000 in
theorem cE_194_7 (run : cm_RN) (o1 : Option cm_V) (x2 : Int) (x3 : Int) (s : cm_S) : cm_lp run cm_k194 7 [some (.inr (.inl 41)), o1, some (.inl x2), some (.inl x3)] [] s = cF_194_7 run (cm_lp run cm_k194) o1 x2 x3 s := (cm_lp_eq run cm_k194 7 _ _ s).trans rfl
/-- ScriptFrontModel.flagsEnd, from 0 on -/
def cF_195_0 (run : cm_RN) (X : cm_X) (x1 : Int) (s : cm_S) : Option cm_R :=
  X 5 [some (.inr (.inl 41)), some (.inl x1), some (.inl x1), some (.inl 0), none] [] s
set_option maxRecDepth 100000 in
theorem cE_195_0 (run : cm_RN) (x1 : Int) (s : cm_S) : cm_lp run cm_k195 0 [some (.inr (.inl 41)), some (.inl x1), none, none, none] [] s = cF_195_0 run (cm_lp run cm_k195) x1 s := (cm_lp_eq run cm_k195 0 _ _ s).trans rfl
/-- ScriptFrontModel.flagsEnd, from 4 on -/
def cF_195_5 (run : cm_RN) (X : cm_X) (o1 : Option cm_V) (x2 : Int) (x3 : Int) (o4 : Option cm_V) (s : cm_S) : Option cm_R :=
  cm_bi (run 181 [.inr (.inl 41), .inl x2] s) fun z1 s1 =>
    if z1 = 103 then
      cm_bi (run 181 [.inr (.inl 41), .inl x2] s1) fun z2 s2 =>
        if z2 = 103 then
          if 0 < (cm_and x3 1) then
            some (.inl (some (.inl (-1))), s2)
          else
            X 5 [some (.inr (.inl 41)), o1, some (.inl (cm_w (x2 + 1))), some (.inl (cm_or x3 1)), some (.inl 1)] [] s2
        else
          cm_bi (run 181 [.inr (.inl 41), .inl x2] s2) fun z3 s3 =>
            if z3 = 105 then
              if 0 < (cm_and x3 2) then
                some (.inl (some (.inl (-1))), s3)
              else
                X 5 [some (.inr (.inl 41)), o1, some (.inl (cm_w (x2 + 1))), some (.inl (cm_or x3 2)), some (.inl 2)] [] s3
            else
              if 0 < (cm_and x3 4) then
                some (.inl (some (.inl (-1))), s3)
              else
                X 5 [some (.inr (.inl 41)), o1, some (.inl (cm_w (x2 + 1))), some (.inl (cm_or x3 4)), some (.inl 4)] [] s3
    else
      cm_bi (run 181 [.inr (.inl 41), .inl x2] s1) fun z4 s4 =>
        if z4 = 105 then
          cm_bi (run 181 [.inr (.inl 41), .inl x2] s4) fun z5 s5 =>
            if z5 = 103 then
              if 0 < (cm_and x3 1) then
                some (.inl (some (.inl (-1))), s5)
              else
                X 5 [some (.inr (.inl 41)), o1, some (.inl (cm_w (x2 + 1))), some (.inl (cm_or x3 1)), some (.inl 1)] [] s5
            else
              cm_bi (run 181 [.inr (.inl 41), .inl x2] s5) fun z6 s6 =>
                if z6 = 105 then
                  if 0 < (cm_and x3 2) then
                    some (.inl (some (.inl (-1))), s6)
                  else
                    X 5 [some (.inr (.inl 41)), o1, some (.inl (cm_w (x2 + 1))), some (.inl (cm_or x3 2)), some (.inl 2)] [] s6
                else
                  if 0 < (cm_and x3 4) then
                    some (.inl (some (.inl (-1))), s6)
                  else
                    X 5 [some (.inr (.inl 41)), o1, some (.inl (cm_w (x2 + 1))), some (.inl (cm_or x3 4)), some (.inl 4)] [] s6
        else
          cm_bi (run 181 [.inr (.inl 41), .inl x2] s4) fun z7 s7 =>
            if z7 = 109 then
              cm_bi (run 181 [.inr (.inl 41), .inl x2] s7) fun z8 s8 =>
                if z8 = 103 then
                  if 0 < (cm_and x3 1) then
                    some (.inl (some (.inl (-1))), s8)
                  else
                    X 5 [some (.inr (.inl 41)), o1, some (.inl (cm_w (x2 + 1))), some (.inl (cm_or x3 1)), some (.inl 1)] [] s8
                else
                  cm_bi (run 181 [.inr (.inl 41), .inl x2] s8) fun z9 s9 =>
                    if z9 = 105 then
                      if 0 < (cm_and x3 2) then
                        some (.inl (some (.inl (-1))), s9)
                      else
                        X 5 [some (.inr (.inl 41)), o1, some (.inl (cm_w (x2 + 1))), some (.inl (cm_or x3 2)), some (.inl 2)] [] s9
                    else
                      if 0 < (cm_and x3 4) then
                        some (.inl (some (.inl (-1))), s9)
                      else
                        X 5 [some (.inr (.inl 41)), o1, some (.inl (cm_w (x2 + 1))), some (.inl (cm_or x3 4)), some (.inl 4)] [] s9
            else
              cm_bi (run 181 [.inr (.inl 41), .inl x2] s7) fun z10 s10 =>
                cm_bi (run 187 [.inl z10] s10) fun z11 s11 =>
                  if z11 = 0 then
                    some (.inl (some (.inl x2)), s11)
                  else
                    some (.inl (some (.inl (-1))), s11)
set_option maxRecDepth 100000 in
theorem cE_195_5 (run : cm_RN) (o1 : Option cm_V) (x2 : Int) (x3 : Int) (o4 : Option cm_V) (s : cm_S) : cm_lp run cm_k195 5 [some (.inr (.inl 41)), o1, some (.inl x2), some (.inl x3), o4] [] s = cF_195_5 run (cm_lp run cm_k195) o1 x2 x3 o4 s := (cm_lp_eq run cm_k195 5 _ _ s).trans rfl
/-- ScriptFrontModel.signAt, from 0 on -/
def cF_196_0 (run : cm_RN) (X : cm_X) (x1 : Int) (s : cm_S) : Option cm_R :=
  X 7 [some (.inr (.inl 41)), some (.inl x1), some (.inl 0), some (.inl 0), some (.inl 0), none] [] s
set_option maxRecDepth 100000 in
theorem cE_196_0 (run : cm_RN) (x1 : Int) (s : cm_S) : cm_lp run cm_k196 0 [some (.inr (.inl 41)), some (.inl x1), none, none, none, none] [] s = cF_196_0 run (cm_lp run cm_k196) x1 s := (cm_lp_eq run cm_k196 0 _ _ s).trans rfl
/-- ScriptFrontModel.signAt, from 6 on -/
def cF_196_7 (run : cm_RN) (X : cm_X) (x1 : Int) (x2 : Int) (x3 : Int) (x4 : Int) (o5 : Option cm_V) (s : cm_S) : Option cm_R :=
  if x4 < 4 then
    if (cm_w (x1 + x4)) < (s.1 4107) then
      if (0 : Int) ≤ (cm_w (x1 + x4)) ∧ (cm_w (x1 + x4)) < 480 then
        X 30 [some (.inr (.inl 41)), some (.inl x1), some (.inl (cm_or (cm_shl x2 8) (s.2 46 (cm_w (x1 + x4))))), some (.inl x3), some (.inl x4), some (.inl 0)] [] s
      else none
    else
      some (.inl (some (.inl x3)), s)
  else
    some (.inl (some (.inl x3)), s)
set_option maxRecDepth 100000 in
theorem cE_196_7 (run : cm_RN) (x1 : Int) (x2 : Int) (x3 : Int) (x4 : Int) (o5 : Option cm_V) (s : cm_S) : cm_lp run cm_k196 7 [some (.inr (.inl 41)), some (.inl x1), some (.inl x2), some (.inl x3), some (.inl x4), o5] [] s = cF_196_7 run (cm_lp run cm_k196) x1 x2 x3 x4 o5 s := (cm_lp_eq run cm_k196 7 _ _ s).trans rfl
/-- ScriptFrontModel.signAt, from 28 on -/
def cF_196_30 (run : cm_RN) (X : cm_X) (x1 : Int) (x2 : Int) (x3 : Int) (x4 : Int) (x5 : Int) (s : cm_S) : Option cm_R :=
  if x5 < 24 then
    if x4 = 0 then
      if (0 : Int) ≤ x5 ∧ x5 < 24 then
        if (cm_kr 44 x5) = x2 then
          X 30 [some (.inr (.inl 41)), some (.inl x1), some (.inl x2), some (.inl x2), some (.inl x4), some (.inl (cm_w (x5 + 1)))] [] s
        else
          if 0 < x4 then
            if (0 : Int) ≤ x5 ∧ x5 < 24 then
              if (cm_kr 43 x5) = x2 then
                X 30 [some (.inr (.inl 41)), some (.inl x1), some (.inl x2), some (.inl x2), some (.inl x4), some (.inl (cm_w (x5 + 1)))] [] s
              else
                X 30 [some (.inr (.inl 41)), some (.inl x1), some (.inl x2), some (.inl x3), some (.inl x4), some (.inl (cm_w (x5 + 1)))] [] s
            else none
          else
            X 30 [some (.inr (.inl 41)), some (.inl x1), some (.inl x2), some (.inl x3), some (.inl x4), some (.inl (cm_w (x5 + 1)))] [] s
      else none
    else
      if 0 < x4 then
        if (0 : Int) ≤ x5 ∧ x5 < 24 then
          if (cm_kr 43 x5) = x2 then
            X 30 [some (.inr (.inl 41)), some (.inl x1), some (.inl x2), some (.inl x2), some (.inl x4), some (.inl (cm_w (x5 + 1)))] [] s
          else
            X 30 [some (.inr (.inl 41)), some (.inl x1), some (.inl x2), some (.inl x3), some (.inl x4), some (.inl (cm_w (x5 + 1)))] [] s
        else none
      else
        X 30 [some (.inr (.inl 41)), some (.inl x1), some (.inl x2), some (.inl x3), some (.inl x4), some (.inl (cm_w (x5 + 1)))] [] s
  else
    X 7 [some (.inr (.inl 41)), some (.inl x1), some (.inl x2), some (.inl x3), some (.inl (cm_w (x4 + 1))), some (.inl x5)] [] s
set_option maxRecDepth 100000 in
theorem cE_196_30 (run : cm_RN) (x1 : Int) (x2 : Int) (x3 : Int) (x4 : Int) (x5 : Int) (s : cm_S) : cm_lp run cm_k196 30 [some (.inr (.inl 41)), some (.inl x1), some (.inl x2), some (.inl x3), some (.inl x4), some (.inl x5)] [] s = cF_196_30 run (cm_lp run cm_k196) x1 x2 x3 x4 x5 s := (cm_lp_eq run cm_k196 30 _ _ s).trans rfl
/-- ScriptFrontModel.signLengthOf, from 0 on -/
def cF_197_0 (run : cm_RN) (X : cm_X) (x0 : Int) (s : cm_S) : Option cm_R :=
  if 16777215 < x0 then
    some (.inl (some (.inl 4)), s)
  else
    if 65535 < x0 then
      some (.inl (some (.inl 3)), s)
    else
      if 255 < x0 then
        some (.inl (some (.inl 2)), s)
      else
        some (.inl (some (.inl 1)), s)
set_option maxRecDepth 100000 in
theorem cE_197_0 (run : cm_RN) (x0 : Int) (s : cm_S) : cm_lp run cm_k197 0 [some (.inl x0)] [] s = cF_197_0 run (cm_lp run cm_k197) x0 s := (cm_lp_eq run cm_k197 0 _ _ s).trans rfl
/-- ScriptFrontModel.take, from 0 on -/
def cF_198_0 (run : cm_RN) (X : cm_X) (s : cm_S) : Option cm_R :=
  some (.inl none, (cm_p (cm_p s 4114 (s.1 4113)) 4116 0))
set_option maxRecDepth 100000 in
theorem cE_198_0 (run : cm_RN) (s : cm_S) : cm_lp run cm_k198 0 [some (.inr (.inl 41))] [] s = cF_198_0 run (cm_lp run cm_k198) s := (cm_lp_eq run cm_k198 0 _ _ s).trans rfl
/-- ScriptFrontModel.statement, from 0 on -/
def cF_199_0 (run : cm_RN) (X : cm_X) (x1 : Int) (s : cm_S) : Option cm_R :=
  cm_bi (run 200 [.inr (.inl 41)] s) fun z1 s1 =>
    if z1 = 0 then
      some (.inl none, s1)
    else
      cm_bv (run 177 [.inr (.inl 41), .inl 4, .inl 0] s1) fun s2 =>
        if (s2.1 4111) = 123 then
          cm_bv (run 177 [.inr (.inl 41), .inl 38, .inl 0] s2) fun s3 =>
            some (.inl none, s3)
        else
          if (s2.1 4111) = 59 then
            cm_bv (run 201 [.inr (.inl 41), .inl 4, .inl 0] s2) fun s4 =>
              some (.inl none, s4)
          else
            if (s2.1 4111) = 1 then
              cm_bi (run 203 [.inr (.inl 41)] s2) fun z5 s5 =>
                if z5 = 0 then
                  X 41 [some (.inr (.inl 41)), some (.inl x1), some (.inl (s2.1 4112)), some (.inl (s2.1 4134))] [] s5
                else
                  some (.inl none, s5)
            else
              X 41 [some (.inr (.inl 41)), some (.inl x1), some (.inl (s2.1 4112)), some (.inl (s2.1 4134))] [] s2
set_option maxRecDepth 100000 in
theorem cE_199_0 (run : cm_RN) (x1 : Int) (s : cm_S) : cm_lp run cm_k199 0 [some (.inr (.inl 41)), some (.inl x1), none, none] [] s = cF_199_0 run (cm_lp run cm_k199) x1 s := (cm_lp_eq run cm_k199 0 _ _ s).trans rfl
/-- ScriptFrontModel.statement, from 40 on -/
def cF_199_41 (run : cm_RN) (X : cm_X) (x1 : Int) (x2 : Int) (x3 : Int) (s : cm_S) : Option cm_R :=
  if (s.1 4111) = 1011 then
    if x1 = 0 then
      cm_bv (run 205 [.inr (.inl 41)] s) fun s1 =>
        some (.inl none, s1)
    else
      cm_bv (run 204 [.inr (.inl 41), .inl 20] s) fun s2 =>
        some (.inl none, s2)
  else
    if (s.1 4111) = 1024 then
      cm_bv (run 206 [.inr (.inl 41), .inl x2, .inl x3] s) fun s3 =>
        some (.inl none, s3)
    else
      if (s.1 4111) = 1020 then
        cm_bv (run 206 [.inr (.inl 41), .inl x2, .inl x3] s) fun s4 =>
          some (.inl none, s4)
      else
        if (s.1 4111) = 1017 then
          cm_bv (run 206 [.inr (.inl 41), .inl x2, .inl x3] s) fun s5 =>
            some (.inl none, s5)
        else
          if (s.1 4111) = 1000 then
            cm_bv (run 206 [.inr (.inl 41), .inl x2, .inl x3] s) fun s6 =>
              some (.inl none, s6)
          else
            if (s.1 4111) = 1003 then
              cm_bv (run 206 [.inr (.inl 41), .inl x2, .inl x3] s) fun s7 =>
                some (.inl none, s7)
            else
              if (s.1 4111) < 1000 then
                cm_bv (run 176 [.inr (.inl 41), .inl 3, .inl 5, .inl x2, .inl 0, .inl x3] s) fun s8 =>
                  cm_bv (run 177 [.inr (.inl 41), .inl 6, .inl 0] s8) fun s9 =>
                    cm_bv (run 177 [.inr (.inl 41), .inl 7, .inl 0] s9) fun s10 =>
                      some (.inl none, s10)
              else
                cm_bi (run 207 [.inr (.inl 41)] s) fun z11 s11 =>
                  if z11 = 0 then
                    cm_bv (run 176 [.inr (.inl 41), .inl 3, .inl 5, .inl x2, .inl 0, .inl x3] s11) fun s12 =>
                      cm_bv (run 177 [.inr (.inl 41), .inl 6, .inl 0] s12) fun s13 =>
                        cm_bv (run 177 [.inr (.inl 41), .inl 7, .inl 0] s13) fun s14 =>
                          some (.inl none, s14)
                  else
                    cm_bv (run 208 [.inr (.inl 41), .inl x2, .inl x3] s11) fun s15 =>
                      some (.inl none, s15)
set_option maxRecDepth 100000 in
theorem cE_199_41 (run : cm_RN) (x1 : Int) (x2 : Int) (x3 : Int) (s : cm_S) : cm_lp run cm_k199 41 [some (.inr (.inl 41)), some (.inl x1), some (.inl x2), some (.inl x3)] [] s = cF_199_41 run (cm_lp run cm_k199) x1 x2 x3 s := (cm_lp_eq run cm_k199 41 _ _ s).trans rfl
/-- ScriptFrontModel.enters, from 0 on -/
def cF_200_0 (run : cm_RN) (X : cm_X) (s : cm_S) : Option cm_R :=
  cm_bv (run 180 [.inr (.inl 41), .inl 1] s) fun s1 =>
    if (s1.1 4108) = 0 then
      if (s1.1 4140) = 20 then
        if (s1.1 4111) = 0 then
          if (s1.1 4108) = 0 then
            some (.inl (some (.inl 1)), (cm_p s1 4140 (cm_w ((s1.1 4140) + 1))))
          else
            some (.inl (some (.inl 0)), (cm_p s1 4140 (cm_w ((s1.1 4140) + 1))))
        else
          cm_bv (run 185 [.inr (.inl 41), .inl 3, .inl (s1.1 4112)] s1) fun s2 =>
            if (s2.1 4108) = 0 then
              some (.inl (some (.inl 1)), (cm_p s2 4140 (cm_w ((s2.1 4140) + 1))))
            else
              some (.inl (some (.inl 0)), (cm_p s2 4140 (cm_w ((s2.1 4140) + 1))))
      else
        if (s1.1 4108) = 0 then
          some (.inl (some (.inl 1)), (cm_p s1 4140 (cm_w ((s1.1 4140) + 1))))
        else
          some (.inl (some (.inl 0)), (cm_p s1 4140 (cm_w ((s1.1 4140) + 1))))
    else
      if (s1.1 4108) = 0 then
        some (.inl (some (.inl 1)), (cm_p s1 4140 (cm_w ((s1.1 4140) + 1))))
      else
        some (.inl (some (.inl 0)), (cm_p s1 4140 (cm_w ((s1.1 4140) + 1))))
set_option maxRecDepth 100000 in
theorem cE_200_0 (run : cm_RN) (s : cm_S) : cm_lp run cm_k200 0 [some (.inr (.inl 41))] [] s = cF_200_0 run (cm_lp run cm_k200) s := (cm_lp_eq run cm_k200 0 _ _ s).trans rfl
/-- ScriptFrontModel.leaf, from 0 on -/
def cF_201_0 (run : cm_RN) (X : cm_X) (x1 : Int) (x2 : Int) (s : cm_S) : Option cm_R :=
  cm_bv (run 202 [.inr (.inl 41), .inl x1, .inl (s.1 4112), .inl x2, .inl (s.1 4134)] s) fun s1 =>
    cm_bv (run 198 [.inr (.inl 41)] s1) fun s2 =>
      some (.inl none, s2)
set_option maxRecDepth 100000 in
theorem cE_201_0 (run : cm_RN) (x1 : Int) (x2 : Int) (s : cm_S) : cm_lp run cm_k201 0 [some (.inr (.inl 41)), some (.inl x1), some (.inl x2)] [] s = cF_201_0 run (cm_lp run cm_k201) x1 x2 s := (cm_lp_eq run cm_k201 0 _ _ s).trans rfl
/-- ScriptFrontModel.reduce, from 0 on -/
def cF_202_0 (run : cm_RN) (X : cm_X) (x1 : Int) (x2 : Int) (x3 : Int) (x4 : Int) (s : cm_S) : Option cm_R :=
  if (0 : Int) ≤ (s.1 4118) ∧ (s.1 4118) < 500 then
    (if (0 : Int) ≤ (s.1 4118) ∧ (s.1 4118) < 500 then
      (if (0 : Int) ≤ (s.1 4118) ∧ (s.1 4118) < 500 then
        (if x4 < (s.1 4134) then
          if (0 : Int) ≤ x4 ∧ x4 < 500 then
            if (0 : Int) ≤ (s.1 4118) ∧ (s.1 4118) < 500 then
              (if (0 : Int) ≤ (s.1 4118) ∧ (s.1 4118) < 500 then
                (if (0 : Int) ≤ (s.1 4118) ∧ (s.1 4118) < 500 then
                  (if (0 : Int) ≤ (s.1 4118) ∧ (s.1 4118) < 500 then
                    (X 59 [some (.inr (.inl 41)), some (.inl x1), some (.inl x2), some (.inl x3), some (.inl x4), some (.inl (s.1 4118)), some (.inl x4)] [] (cm_q (cm_q (cm_q (cm_q (cm_q (cm_q (cm_q (cm_p s 4118 (cm_w ((s.1 4118) + 1))) 47 (s.1 4118) x1) 48 (s.1 4118) x2) 49 (s.1 4118) x3) 50 (s.1 4118) (s.2 61 x4)) 51 (s.1 4118) (-1)) 53 (s.1 4118) (cm_w ((s.1 4134) - x4))) 54 (s.1 4118) 0))
                  else none)
                else none)
              else none)
            else none
          else none
        else
          if (0 : Int) ≤ (s.1 4118) ∧ (s.1 4118) < 500 then
            (if (0 : Int) ≤ (s.1 4118) ∧ (s.1 4118) < 500 then
              (if (0 : Int) ≤ (s.1 4118) ∧ (s.1 4118) < 500 then
                (if (0 : Int) ≤ (s.1 4118) ∧ (s.1 4118) < 500 then
                  (X 59 [some (.inr (.inl 41)), some (.inl x1), some (.inl x2), some (.inl x3), some (.inl x4), some (.inl (s.1 4118)), some (.inl x4)] [] (cm_q (cm_q (cm_q (cm_q (cm_q (cm_q (cm_q (cm_p s 4118 (cm_w ((s.1 4118) + 1))) 47 (s.1 4118) x1) 48 (s.1 4118) x2) 49 (s.1 4118) x3) 50 (s.1 4118) (-1)) 51 (s.1 4118) (-1)) 53 (s.1 4118) (cm_w ((s.1 4134) - x4))) 54 (s.1 4118) 0))
                else none)
              else none)
            else none)
          else none)
      else none)
    else none)
  else none
set_option maxRecDepth 100000 in
theorem cE_202_0 (run : cm_RN) (x1 : Int) (x2 : Int) (x3 : Int) (x4 : Int) (s : cm_S) : cm_lp run cm_k202 0 [some (.inr (.inl 41)), some (.inl x1), some (.inl x2), some (.inl x3), some (.inl x4), none, none] [] s = cF_202_0 run (cm_lp run cm_k202) x1 x2 x3 x4 s := (cm_lp_eq run cm_k202 0 _ _ s).trans rfl
/-- ScriptFrontModel.reduce, from 58 on -/
def cF_202_59 (run : cm_RN) (X : cm_X) (x1 : Int) (o2 : Option cm_V) (o3 : Option cm_V) (x4 : Int) (x5 : Int) (x6 : Int) (s : cm_S) : Option cm_R :=
  if x6 < (s.1 4134) then
    if (0 : Int) ≤ x6 ∧ x6 < 500 then
      if (0 : Int) ≤ (s.2 61 x6) ∧ (s.2 61 x6) < 500 then
        (if (0 : Int) ≤ x6 ∧ x6 < 500 then
          if (cm_w (x6 + 1)) < (s.1 4134) then
            if (0 : Int) ≤ (cm_w (x6 + 1)) ∧ (cm_w (x6 + 1)) < 500 then
              if (0 : Int) ≤ (s.2 61 x6) ∧ (s.2 61 x6) < 500 then
                (X 59 [some (.inr (.inl 41)), some (.inl x1), o2, o3, some (.inl x4), some (.inl x5), some (.inl (cm_w (x6 + 1)))] [] (cm_q (cm_q s 52 (s.2 61 x6) x5) 51 (s.2 61 x6) (s.2 61 (cm_w (x6 + 1)))))
              else none
            else none
          else
            if (0 : Int) ≤ (s.2 61 x6) ∧ (s.2 61 x6) < 500 then
              (X 59 [some (.inr (.inl 41)), some (.inl x1), o2, o3, some (.inl x4), some (.inl x5), some (.inl (cm_w (x6 + 1)))] [] (cm_q (cm_q s 52 (s.2 61 x6) x5) 51 (s.2 61 x6) (-1)))
            else none
        else none)
      else none
    else none
  else
    if (0 : Int) ≤ x4 ∧ x4 < 500 then
      (if (s.1 4141) = 0 then
        some (.inl none, (cm_p (cm_p (cm_q (cm_p s 4134 x4) 61 x4 x5) 4134 (cm_w (x4 + 1))) 4141 0))
      else
        if x1 < 44 then
          some (.inl none, (cm_p (cm_p (cm_q (cm_p s 4134 x4) 61 x4 x5) 4134 (cm_w (x4 + 1))) 4141 1))
        else
          if 49 < x1 then
            some (.inl none, (cm_p (cm_p (cm_q (cm_p s 4134 x4) 61 x4 x5) 4134 (cm_w (x4 + 1))) 4141 1))
          else
            some (.inl none, (cm_p (cm_p (cm_q (cm_p s 4134 x4) 61 x4 x5) 4134 (cm_w (x4 + 1))) 4141 0)))
    else none
set_option maxRecDepth 100000 in
theorem cE_202_59 (run : cm_RN) (x1 : Int) (o2 : Option cm_V) (o3 : Option cm_V) (x4 : Int) (x5 : Int) (x6 : Int) (s : cm_S) : cm_lp run cm_k202 59 [some (.inr (.inl 41)), some (.inl x1), o2, o3, some (.inl x4), some (.inl x5), some (.inl x6)] [] s = cF_202_59 run (cm_lp run cm_k202) x1 o2 o3 x4 x5 x6 s := (cm_lp_eq run cm_k202 59 _ _ s).trans rfl
/-- ScriptFrontModel.labels, from 0 on -/
def cF_203_0 (run : cm_RN) (X : cm_X) (s : cm_S) : Option cm_R :=
  cm_bv (run 198 [.inr (.inl 41)] s) fun s1 =>
    cm_bv (run 180 [.inr (.inl 41), .inl 0] s1) fun s2 =>
      if (s2.1 4111) = 58 then
        if (s2.1 4108) = 0 then
          cm_bv (run 198 [.inr (.inl 41)] s2) fun s3 =>
            cm_bv (run 176 [.inr (.inl 41), .inl 3, .inl 16, .inl (s.1 4112), .inl (cm_w ((s.1 4113) - (s.1 4112))), .inl (s3.1 4134)] s3) fun s4 =>
              cm_bv (run 177 [.inr (.inl 41), .inl 2, .inl 0] s4) fun s5 =>
                some (.inl (some (.inl 1)), s5)
        else
          if (s2.1 4108) = 0 then
            cm_bv (run 180 [.inr (.inl 41), .inl 1] (cm_p (cm_p s2 4114 (s.1 4114)) 4116 0)) fun s6 =>
              if 0 < (s6.1 4108) then
                some (.inl (some (.inl 1)), s6)
              else
                some (.inl (some (.inl 0)), s6)
          else
            if 0 < (s2.1 4108) then
              some (.inl (some (.inl 1)), (cm_p (cm_p s2 4114 (s.1 4114)) 4116 0))
            else
              some (.inl (some (.inl 0)), (cm_p (cm_p s2 4114 (s.1 4114)) 4116 0))
      else
        if (s2.1 4108) = 0 then
          cm_bv (run 180 [.inr (.inl 41), .inl 1] (cm_p (cm_p s2 4114 (s.1 4114)) 4116 0)) fun s7 =>
            if 0 < (s7.1 4108) then
              some (.inl (some (.inl 1)), s7)
            else
              some (.inl (some (.inl 0)), s7)
        else
          if 0 < (s2.1 4108) then
            some (.inl (some (.inl 1)), (cm_p (cm_p s2 4114 (s.1 4114)) 4116 0))
          else
            some (.inl (some (.inl 0)), (cm_p (cm_p s2 4114 (s.1 4114)) 4116 0))
set_option maxRecDepth 100000 in
theorem cE_203_0 (run : cm_RN) (s : cm_S) : cm_lp run cm_k203 0 [some (.inr (.inl 41)), none, none, none] [] s = cF_203_0 run (cm_lp run cm_k203) s := (cm_lp_eq run cm_k203 0 _ _ s).trans rfl
/-- ScriptFrontModel.function, from 0 on -/
def cF_204_0 (run : cm_RN) (X : cm_X) (x1 : Int) (s : cm_S) : Option cm_R :=
  cm_bv (run 198 [.inr (.inl 41)] s) fun s1 =>
    cm_bv (run 180 [.inr (.inl 41), .inl 0] s1) fun s2 =>
      if (s2.1 4111) = 1 then
        cm_bv (run 198 [.inr (.inl 41)] s2) fun s3 =>
          cm_bv (run 176 [.inr (.inl 41), .inl 3, .inl x1, .inl (s2.1 4112), .inl (cm_w ((s2.1 4113) - (s2.1 4112))), .inl (s3.1 4134)] s3) fun s4 =>
            cm_bv (run 177 [.inr (.inl 41), .inl 27, .inl 0] s4) fun s5 =>
              cm_bv (run 177 [.inr (.inl 41), .inl 25, .inl 1] s5) fun s6 =>
                cm_bv (run 177 [.inr (.inl 41), .inl 5, .inl 40] s6) fun s7 =>
                  some (.inl none, s7)
      else
        if x1 = 20 then
          cm_bv (run 205 [.inr (.inl 41)] s2) fun s8 =>
            cm_bv (run 176 [.inr (.inl 41), .inl 3, .inl x1, .inl (s.1 4112), .inl 0, .inl (s8.1 4134)] s8) fun s9 =>
              cm_bv (run 177 [.inr (.inl 41), .inl 27, .inl 0] s9) fun s10 =>
                cm_bv (run 177 [.inr (.inl 41), .inl 25, .inl 1] s10) fun s11 =>
                  cm_bv (run 177 [.inr (.inl 41), .inl 5, .inl 40] s11) fun s12 =>
                    some (.inl none, s12)
        else
          cm_bv (run 176 [.inr (.inl 41), .inl 3, .inl x1, .inl (s.1 4112), .inl 0, .inl (s2.1 4134)] s2) fun s13 =>
            cm_bv (run 177 [.inr (.inl 41), .inl 27, .inl 0] s13) fun s14 =>
              cm_bv (run 177 [.inr (.inl 41), .inl 25, .inl 1] s14) fun s15 =>
                cm_bv (run 177 [.inr (.inl 41), .inl 5, .inl 40] s15) fun s16 =>
                  some (.inl none, s16)
set_option maxRecDepth 100000 in
theorem cE_204_0 (run : cm_RN) (x1 : Int) (s : cm_S) : cm_lp run cm_k204 0 [some (.inr (.inl 41)), some (.inl x1), none, none] [] s = cF_204_0 run (cm_lp run cm_k204) x1 s := (cm_lp_eq run cm_k204 0 _ _ s).trans rfl
/-- ScriptFrontModel.bad, from 0 on -/
def cF_205_0 (run : cm_RN) (X : cm_X) (s : cm_S) : Option cm_R :=
  cm_bv (run 185 [.inr (.inl 41), .inl 2, .inl (s.1 4112)] s) fun s1 =>
    some (.inl none, s1)
set_option maxRecDepth 100000 in
theorem cE_205_0 (run : cm_RN) (s : cm_S) : cm_lp run cm_k205 0 [some (.inr (.inl 41))] [] s = cF_205_0 run (cm_lp run cm_k205) s := (cm_lp_eq run cm_k205 0 _ _ s).trans rfl
/-- ScriptFrontModel.line, from 0 on -/
def cF_206_0 (run : cm_RN) (X : cm_X) (x1 : Int) (x2 : Int) (s : cm_S) : Option cm_R :=
  cm_bv (run 198 [.inr (.inl 41)] s) fun s1 =>
    if (s.1 4111) = 1024 then
      cm_bv (run 176 [.inr (.inl 41), .inl 3, .inl 2, .inl x1, .inl 0, .inl x2] s1) fun s2 =>
        cm_bv (run 177 [.inr (.inl 41), .inl 6, .inl 0] s2) fun s3 =>
          cm_bv (run 177 [.inr (.inl 41), .inl 29, .inl 0] s3) fun s4 =>
            some (.inl none, s4)
    else
      if (s.1 4111) = 1020 then
        cm_bv (run 180 [.inr (.inl 41), .inl 0] s1) fun s5 =>
          if (s5.1 4115) = 0 then
            cm_bv (run 176 [.inr (.inl 41), .inl 3, .inl 17, .inl x1, .inl 0, .inl x2] s5) fun s6 =>
              cm_bv (run 177 [.inr (.inl 41), .inl 6, .inl 0] s6) fun s7 =>
                cm_bv (run 177 [.inr (.inl 41), .inl 7, .inl 0] s7) fun s8 =>
                  some (.inl none, s8)
          else
            cm_bv (run 205 [.inr (.inl 41)] s5) fun s9 =>
              cm_bv (run 176 [.inr (.inl 41), .inl 3, .inl 17, .inl x1, .inl 0, .inl x2] s9) fun s10 =>
                cm_bv (run 177 [.inr (.inl 41), .inl 6, .inl 0] s10) fun s11 =>
                  cm_bv (run 177 [.inr (.inl 41), .inl 7, .inl 0] s11) fun s12 =>
                    some (.inl none, s12)
      else
        if (s.1 4111) = 1017 then
          cm_bv (run 180 [.inr (.inl 41), .inl 0] s1) fun s13 =>
            cm_bv (run 176 [.inr (.inl 41), .inl 3, .inl 13, .inl x1, .inl 0, .inl x2] s13) fun s14 =>
              cm_bv (run 177 [.inr (.inl 41), .inl 6, .inl 0] s14) fun s15 =>
                if (s15.1 4115) = 0 then
                  if (s15.1 4111) = 59 then
                    some (.inl none, s15)
                  else
                    if (s15.1 4111) = 125 then
                      some (.inl none, s15)
                    else
                      if (s15.1 4111) = 0 then
                        some (.inl none, s15)
                      else
                        cm_bv (run 177 [.inr (.inl 41), .inl 7, .inl 0] s15) fun s16 =>
                          some (.inl none, s16)
                else
                  some (.inl none, s15)
        else
          cm_bv (run 180 [.inr (.inl 41), .inl 0] s1) fun s17 =>
            if (s.1 4111) = 1000 then
              cm_bv (run 177 [.inr (.inl 41), .inl 6, .inl 0] s17) fun s18 =>
                if (s18.1 4111) = 1 then
                  if (s18.1 4115) = 0 then
                    if (s18.1 4108) = 0 then
                      cm_bv (run 201 [.inr (.inl 41), .inl 12, .inl (cm_w ((s18.1 4113) - (s18.1 4112)))] s18) fun s19 =>
                        some (.inl none, s19)
                    else
                      cm_bv (run 202 [.inr (.inl 41), .inl 12, .inl x1, .inl 0, .inl x2] s18) fun s20 =>
                        some (.inl none, s20)
                  else
                    cm_bv (run 202 [.inr (.inl 41), .inl 12, .inl x1, .inl 0, .inl x2] s18) fun s21 =>
                      some (.inl none, s21)
                else
                  cm_bv (run 202 [.inr (.inl 41), .inl 12, .inl x1, .inl 0, .inl x2] s18) fun s22 =>
                    some (.inl none, s22)
            else
              cm_bv (run 177 [.inr (.inl 41), .inl 6, .inl 0] s17) fun s23 =>
                if (s23.1 4111) = 1 then
                  if (s23.1 4115) = 0 then
                    if (s23.1 4108) = 0 then
                      cm_bv (run 201 [.inr (.inl 41), .inl 11, .inl (cm_w ((s23.1 4113) - (s23.1 4112)))] s23) fun s24 =>
                        some (.inl none, s24)
                    else
                      cm_bv (run 202 [.inr (.inl 41), .inl 11, .inl x1, .inl 0, .inl x2] s23) fun s25 =>
                        some (.inl none, s25)
                  else
                    cm_bv (run 202 [.inr (.inl 41), .inl 11, .inl x1, .inl 0, .inl x2] s23) fun s26 =>
                      some (.inl none, s26)
                else
                  cm_bv (run 202 [.inr (.inl 41), .inl 11, .inl x1, .inl 0, .inl x2] s23) fun s27 =>
                    some (.inl none, s27)
set_option maxRecDepth 100000 in
theorem cE_206_0 (run : cm_RN) (x1 : Int) (x2 : Int) (s : cm_S) : cm_lp run cm_k206 0 [some (.inr (.inl 41)), some (.inl x1), some (.inl x2), none, none] [] s = cF_206_0 run (cm_lp run cm_k206) x1 x2 s := (cm_lp_eq run cm_k206 0 _ _ s).trans rfl
/-- ScriptFrontModel.isHead, from 0 on -/
def cF_207_0 (run : cm_RN) (X : cm_X) (s : cm_S) : Option cm_R :=
  if (s.1 4111) = 1012 then
    some (.inl (some (.inl 1)), s)
  else
    if (s.1 4111) = 1006 then
      some (.inl (some (.inl 1)), s)
    else
      if (s.1 4111) = 1026 then
        some (.inl (some (.inl 1)), s)
      else
        if (s.1 4111) = 1010 then
          some (.inl (some (.inl 1)), s)
        else
          if (s.1 4111) = 1018 then
            some (.inl (some (.inl 1)), s)
          else
            if (s.1 4111) = 1022 then
              some (.inl (some (.inl 1)), s)
            else
              some (.inl (some (.inl 0)), s)
set_option maxRecDepth 100000 in
theorem cE_207_0 (run : cm_RN) (s : cm_S) : cm_lp run cm_k207 0 [some (.inr (.inl 41))] [] s = cF_207_0 run (cm_lp run cm_k207) s := (cm_lp_eq run cm_k207 0 _ _ s).trans rfl
/-- ScriptFrontModel.head, from 0 on -/
def cF_208_0 (run : cm_RN) (X : cm_X) (x1 : Int) (x2 : Int) (s : cm_S) : Option cm_R :=
  cm_bv (run 198 [.inr (.inl 41)] s) fun s1 =>
    if (s.1 4111) = 1012 then
      cm_bv (run 176 [.inr (.inl 41), .inl 3, .inl 6, .inl x1, .inl 0, .inl x2] s1) fun s2 =>
        cm_bv (run 177 [.inr (.inl 41), .inl 32, .inl 0] s2) fun s3 =>
          cm_bv (run 177 [.inr (.inl 41), .inl 2, .inl 0] s3) fun s4 =>
            cm_bv (run 209 [.inr (.inl 41)] s4) fun s5 =>
              some (.inl none, s5)
    else
      if (s.1 4111) = 1006 then
        cm_bv (run 176 [.inr (.inl 41), .inl 3, .inl 7, .inl x1, .inl 0, .inl x2] s1) fun s6 =>
          cm_bv (run 177 [.inr (.inl 41), .inl 6, .inl 0] s6) fun s7 =>
            cm_bv (run 209 [.inr (.inl 41)] s7) fun s8 =>
              cm_bv (run 177 [.inr (.inl 41), .inl 5, .inl 1026] s8) fun s9 =>
                cm_bv (run 177 [.inr (.inl 41), .inl 2, .inl 0] s9) fun s10 =>
                  some (.inl none, s10)
      else
        if (s.1 4111) = 1026 then
          cm_bv (run 176 [.inr (.inl 41), .inl 3, .inl 8, .inl x1, .inl 0, .inl x2] s1) fun s11 =>
            cm_bv (run 177 [.inr (.inl 41), .inl 2, .inl 0] s11) fun s12 =>
              cm_bv (run 209 [.inr (.inl 41)] s12) fun s13 =>
                some (.inl none, s13)
        else
          if (s.1 4111) = 1010 then
            cm_bv (run 176 [.inr (.inl 41), .inl 33, .inl x1, .inl x2, .inl 0, .inl 0] s1) fun s14 =>
              cm_bv (run 177 [.inr (.inl 41), .inl 5, .inl 40] s14) fun s15 =>
                some (.inl none, s15)
          else
            if (s.1 4111) = 1018 then
              cm_bv (run 176 [.inr (.inl 41), .inl 3, .inl 14, .inl x1, .inl 0, .inl x2] s1) fun s16 =>
                cm_bv (run 177 [.inr (.inl 41), .inl 37, .inl 0] s16) fun s17 =>
                  cm_bv (run 177 [.inr (.inl 41), .inl 5, .inl 123] s17) fun s18 =>
                    cm_bv (run 209 [.inr (.inl 41)] s18) fun s19 =>
                      some (.inl none, s19)
            else
              cm_bv (run 176 [.inr (.inl 41), .inl 39, .inl x1, .inl x2, .inl 0, .inl 0] s1) fun s20 =>
                cm_bv (run 177 [.inr (.inl 41), .inl 38, .inl 0] s20) fun s21 =>
                  some (.inl none, s21)
set_option maxRecDepth 100000 in
theorem cE_208_0 (run : cm_RN) (x1 : Int) (x2 : Int) (s : cm_S) : cm_lp run cm_k208 0 [some (.inr (.inl 41)), some (.inl x1), some (.inl x2), none] [] s = cF_208_0 run (cm_lp run cm_k208) x1 x2 s := (cm_lp_eq run cm_k208 0 _ _ s).trans rfl
/-- ScriptFrontModel.condition, from 0 on -/
def cF_209_0 (run : cm_RN) (X : cm_X) (s : cm_S) : Option cm_R :=
  cm_bv (run 177 [.inr (.inl 41), .inl 5, .inl 41] s) fun s1 =>
    cm_bv (run 177 [.inr (.inl 41), .inl 7, .inl 0] s1) fun s2 =>
      cm_bv (run 177 [.inr (.inl 41), .inl 5, .inl 40] s2) fun s3 =>
        some (.inl none, s3)
set_option maxRecDepth 100000 in
theorem cE_209_0 (run : cm_RN) (s : cm_S) : cm_lp run cm_k209 0 [some (.inr (.inl 41))] [] s = cF_209_0 run (cm_lp run cm_k209) s := (cm_lp_eq run cm_k209 0 _ _ s).trans rfl
/-- ScriptFrontModel.need, from 0 on -/
def cF_210_0 (run : cm_RN) (X : cm_X) (x1 : Int) (s : cm_S) : Option cm_R :=
  cm_bv (run 180 [.inr (.inl 41), .inl 0] s) fun s1 =>
    if (s1.1 4111) = x1 then
      cm_bv (run 198 [.inr (.inl 41)] s1) fun s2 =>
        some (.inl none, s2)
    else
      cm_bv (run 205 [.inr (.inl 41)] s1) fun s3 =>
        some (.inl none, s3)
set_option maxRecDepth 100000 in
theorem cE_210_0 (run : cm_RN) (x1 : Int) (s : cm_S) : cm_lp run cm_k210 0 [some (.inr (.inl 41)), some (.inl x1)] [] s = cF_210_0 run (cm_lp run cm_k210) x1 s := (cm_lp_eq run cm_k210 0 _ _ s).trans rfl
/-- ScriptFrontModel.semicolon, from 0 on -/
def cF_211_0 (run : cm_RN) (X : cm_X) (s : cm_S) : Option cm_R :=
  cm_bv (run 180 [.inr (.inl 41), .inl 0] s) fun s1 =>
    if (s1.1 4111) = 59 then
      cm_bv (run 198 [.inr (.inl 41)] s1) fun s2 =>
        some (.inl none, s2)
    else
      if (s1.1 4115) = 0 then
        if (s1.1 4111) = 125 then
          some (.inl none, (cm_p s1 4110 (cm_w ((s1.1 4110) + 1))))
        else
          if (s1.1 4111) = 0 then
            some (.inl none, (cm_p s1 4110 (cm_w ((s1.1 4110) + 1))))
          else
            cm_bv (run 205 [.inr (.inl 41)] s1) fun s3 =>
              some (.inl none, s3)
      else
        some (.inl none, (cm_p s1 4110 (cm_w ((s1.1 4110) + 1))))
set_option maxRecDepth 100000 in
theorem cE_211_0 (run : cm_RN) (s : cm_S) : cm_lp run cm_k211 0 [some (.inr (.inl 41))] [] s = cF_211_0 run (cm_lp run cm_k211) s := (cm_lp_eq run cm_k211 0 _ _ s).trans rfl
/-- ScriptFrontModel.elsePart, from 0 on -/
def cF_212_0 (run : cm_RN) (X : cm_X) (s : cm_S) : Option cm_R :=
  cm_bv (run 180 [.inr (.inl 41), .inl 0] s) fun s1 =>
    if (s1.1 4111) = 1007 then
      if (s1.1 4108) = 0 then
        cm_bv (run 198 [.inr (.inl 41)] s1) fun s2 =>
          cm_bv (run 177 [.inr (.inl 41), .inl 2, .inl 0] s2) fun s3 =>
            some (.inl none, s3)
      else
        some (.inl none, s1)
    else
      some (.inl none, s1)
set_option maxRecDepth 100000 in
theorem cE_212_0 (run : cm_RN) (s : cm_S) : cm_lp run cm_k212 0 [some (.inr (.inl 41))] [] s = cF_212_0 run (cm_lp run cm_k212) s := (cm_lp_eq run cm_k212 0 _ _ s).trans rfl
/-- ScriptFrontModel.forHead, from 0 on -/
def cF_213_0 (run : cm_RN) (X : cm_X) (x1 : Int) (x2 : Int) (s : cm_S) : Option cm_R :=
  cm_bv (run 180 [.inr (.inl 41), .inl 1] s) fun s1 =>
    if (s1.1 4111) = 59 then
      cm_bv (run 214 [.inr (.inl 41)] s1) fun s2 =>
        cm_bv (run 215 [.inr (.inl 41), .inl x1, .inl x2] s2) fun s3 =>
          some (.inl none, s3)
    else
      if (s1.1 4111) = 1024 then
        cm_bv (run 176 [.inr (.inl 41), .inl 34, .inl x1, .inl x2, .inl (s1.1 4112), .inl (s1.1 4134)] s1) fun s4 =>
          cm_bv (run 177 [.inr (.inl 41), .inl 29, .inl 1] s4) fun s5 =>
            cm_bv (run 198 [.inr (.inl 41)] s5) fun s6 =>
              some (.inl none, s6)
      else
        cm_bv (run 176 [.inr (.inl 41), .inl 35, .inl x1, .inl x2, .inl 0, .inl 0] s1) fun s7 =>
          cm_bv (run 177 [.inr (.inl 41), .inl 7, .inl 1] s7) fun s8 =>
            some (.inl none, s8)
set_option maxRecDepth 100000 in
theorem cE_213_0 (run : cm_RN) (x1 : Int) (x2 : Int) (s : cm_S) : cm_lp run cm_k213 0 [some (.inr (.inl 41)), some (.inl x1), some (.inl x2)] [] s = cF_213_0 run (cm_lp run cm_k213) x1 x2 s := (cm_lp_eq run cm_k213 0 _ _ s).trans rfl
/-- ScriptFrontModel.nothing, from 0 on -/
def cF_214_0 (run : cm_RN) (X : cm_X) (s : cm_S) : Option cm_R :=
  cm_bv (run 202 [.inr (.inl 41), .inl 21, .inl 0, .inl 0, .inl (s.1 4134)] s) fun s1 =>
    some (.inl none, s1)
set_option maxRecDepth 100000 in
theorem cE_214_0 (run : cm_RN) (s : cm_S) : cm_lp run cm_k214 0 [some (.inr (.inl 41))] [] s = cF_214_0 run (cm_lp run cm_k214) s := (cm_lp_eq run cm_k214 0 _ _ s).trans rfl
/-- ScriptFrontModel.forRest, from 0 on -/
def cF_215_0 (run : cm_RN) (X : cm_X) (x1 : Int) (x2 : Int) (s : cm_S) : Option cm_R :=
  cm_bv (run 176 [.inr (.inl 41), .inl 3, .inl 9, .inl x1, .inl 0, .inl x2] s) fun s1 =>
    cm_bv (run 177 [.inr (.inl 41), .inl 2, .inl 0] s1) fun s2 =>
      cm_bv (run 177 [.inr (.inl 41), .inl 5, .inl 41] s2) fun s3 =>
        cm_bv (run 177 [.inr (.inl 41), .inl 36, .inl 41] s3) fun s4 =>
          cm_bv (run 177 [.inr (.inl 41), .inl 5, .inl 59] s4) fun s5 =>
            cm_bv (run 177 [.inr (.inl 41), .inl 36, .inl 59] s5) fun s6 =>
              cm_bv (run 177 [.inr (.inl 41), .inl 5, .inl 59] s6) fun s7 =>
                some (.inl none, s7)
set_option maxRecDepth 100000 in
theorem cE_215_0 (run : cm_RN) (x1 : Int) (x2 : Int) (s : cm_S) : cm_lp run cm_k215 0 [some (.inr (.inl 41)), some (.inl x1), some (.inl x2)] [] s = cF_215_0 run (cm_lp run cm_k215) x1 x2 s := (cm_lp_eq run cm_k215 0 _ _ s).trans rfl
/-- ScriptFrontModel.forVariables, from 0 on -/
def cF_216_0 (run : cm_RN) (X : cm_X) (x1 : Int) (x2 : Int) (x3 : Int) (x4 : Int) (s : cm_S) : Option cm_R :=
  if (cm_w ((s.1 4134) - x4)) = 1 then
    cm_bv (run 202 [.inr (.inl 41), .inl 2, .inl x3, .inl 0, .inl x4] s) fun s1 =>
      cm_bv (run 217 [.inr (.inl 41), .inl x1, .inl x2, .inl 1] s1) fun s2 =>
        some (.inl none, s2)
  else
    cm_bv (run 202 [.inr (.inl 41), .inl 2, .inl x3, .inl 0, .inl x4] s) fun s3 =>
      cm_bv (run 217 [.inr (.inl 41), .inl x1, .inl x2, .inl 0] s3) fun s4 =>
        some (.inl none, s4)
set_option maxRecDepth 100000 in
theorem cE_216_0 (run : cm_RN) (x1 : Int) (x2 : Int) (x3 : Int) (x4 : Int) (s : cm_S) : cm_lp run cm_k216 0 [some (.inr (.inl 41)), some (.inl x1), some (.inl x2), some (.inl x3), some (.inl x4), none] [] s = cF_216_0 run (cm_lp run cm_k216) x1 x2 x3 x4 s := (cm_lp_eq run cm_k216 0 _ _ s).trans rfl
/-- ScriptFrontModel.forMore, from 0 on -/
def cF_217_0 (run : cm_RN) (X : cm_X) (x1 : Int) (x2 : Int) (x3 : Int) (s : cm_S) : Option cm_R :=
  cm_bv (run 180 [.inr (.inl 41), .inl 0] s) fun s1 =>
    if (s1.1 4111) = 1013 then
      if x3 = 0 then
        if (s1.1 4111) = 1013 then
          cm_bv (run 205 [.inr (.inl 41)] s1) fun s2 =>
            some (.inl none, s2)
        else
          cm_bv (run 215 [.inr (.inl 41), .inl x1, .inl x2] s1) fun s3 =>
            some (.inl none, s3)
      else
        cm_bv (run 218 [.inr (.inl 41), .inl x1, .inl x2] s1) fun s4 =>
          some (.inl none, s4)
    else
      if (s1.1 4111) = 1013 then
        cm_bv (run 205 [.inr (.inl 41)] s1) fun s5 =>
          some (.inl none, s5)
      else
        cm_bv (run 215 [.inr (.inl 41), .inl x1, .inl x2] s1) fun s6 =>
          some (.inl none, s6)
set_option maxRecDepth 100000 in
theorem cE_217_0 (run : cm_RN) (x1 : Int) (x2 : Int) (x3 : Int) (s : cm_S) : cm_lp run cm_k217 0 [some (.inr (.inl 41)), some (.inl x1), some (.inl x2), some (.inl x3)] [] s = cF_217_0 run (cm_lp run cm_k217) x1 x2 x3 s := (cm_lp_eq run cm_k217 0 _ _ s).trans rfl
/-- ScriptFrontModel.forIn, from 0 on -/
def cF_218_0 (run : cm_RN) (X : cm_X) (x1 : Int) (x2 : Int) (s : cm_S) : Option cm_R :=
  cm_bv (run 198 [.inr (.inl 41)] s) fun s1 =>
    cm_bv (run 176 [.inr (.inl 41), .inl 3, .inl 10, .inl x1, .inl 0, .inl x2] s1) fun s2 =>
      cm_bv (run 177 [.inr (.inl 41), .inl 2, .inl 0] s2) fun s3 =>
        cm_bv (run 177 [.inr (.inl 41), .inl 5, .inl 41] s3) fun s4 =>
          cm_bv (run 177 [.inr (.inl 41), .inl 7, .inl 0] s4) fun s5 =>
            some (.inl none, s5)
set_option maxRecDepth 100000 in
theorem cE_218_0 (run : cm_RN) (x1 : Int) (x2 : Int) (s : cm_S) : cm_lp run cm_k218 0 [some (.inr (.inl 41)), some (.inl x1), some (.inl x2)] [] s = cF_218_0 run (cm_lp run cm_k218) x1 x2 s := (cm_lp_eq run cm_k218 0 _ _ s).trans rfl
/-- ScriptFrontModel.optional, from 0 on -/
def cF_219_0 (run : cm_RN) (X : cm_X) (x1 : Int) (s : cm_S) : Option cm_R :=
  cm_bv (run 180 [.inr (.inl 41), .inl 1] s) fun s1 =>
    if (s1.1 4111) = x1 then
      cm_bv (run 214 [.inr (.inl 41)] s1) fun s2 =>
        some (.inl none, s2)
    else
      cm_bv (run 177 [.inr (.inl 41), .inl 7, .inl 0] s1) fun s3 =>
        some (.inl none, s3)
set_option maxRecDepth 100000 in
theorem cE_219_0 (run : cm_RN) (x1 : Int) (s : cm_S) : cm_lp run cm_k219 0 [some (.inr (.inl 41)), some (.inl x1)] [] s = cF_219_0 run (cm_lp run cm_k219) x1 s := (cm_lp_eq run cm_k219 0 _ _ s).trans rfl
/-- ScriptFrontModel.cases, from 0 on -/
def cF_220_0 (run : cm_RN) (X : cm_X) (s : cm_S) : Option cm_R :=
  cm_bv (run 180 [.inr (.inl 41), .inl 0] s) fun s1 =>
    if (s1.1 4111) = 125 then
      cm_bv (run 198 [.inr (.inl 41)] s1) fun s2 =>
        if (s1.1 4111) = 125 then
          some (.inl none, s2)
        else
          cm_bv (run 177 [.inr (.inl 41), .inl 37, .inl 0] s2) fun s3 =>
            cm_bv (run 176 [.inr (.inl 41), .inl 3, .inl 15, .inl (s1.1 4112), .inl 0, .inl (s1.1 4134)] s3) fun s4 =>
              cm_bv (run 177 [.inr (.inl 41), .inl 1, .inl 2] s4) fun s5 =>
                cm_bv (run 177 [.inr (.inl 41), .inl 5, .inl 58] s5) fun s6 =>
                  if (s1.1 4111) = 1001 then
                    cm_bv (run 177 [.inr (.inl 41), .inl 7, .inl 0] s6) fun s7 =>
                      some (.inl none, s7)
                  else
                    cm_bv (run 214 [.inr (.inl 41)] s6) fun s8 =>
                      some (.inl none, s8)
    else
      if (s1.1 4111) = 1001 then
        cm_bv (run 198 [.inr (.inl 41)] s1) fun s9 =>
          if (s1.1 4111) = 125 then
            some (.inl none, s9)
          else
            cm_bv (run 177 [.inr (.inl 41), .inl 37, .inl 0] s9) fun s10 =>
              cm_bv (run 176 [.inr (.inl 41), .inl 3, .inl 15, .inl (s1.1 4112), .inl 0, .inl (s1.1 4134)] s10) fun s11 =>
                cm_bv (run 177 [.inr (.inl 41), .inl 1, .inl 2] s11) fun s12 =>
                  cm_bv (run 177 [.inr (.inl 41), .inl 5, .inl 58] s12) fun s13 =>
                    if (s1.1 4111) = 1001 then
                      cm_bv (run 177 [.inr (.inl 41), .inl 7, .inl 0] s13) fun s14 =>
                        some (.inl none, s14)
                    else
                      cm_bv (run 214 [.inr (.inl 41)] s13) fun s15 =>
                        some (.inl none, s15)
      else
        if (s1.1 4111) = 1004 then
          cm_bv (run 198 [.inr (.inl 41)] s1) fun s16 =>
            if (s1.1 4111) = 125 then
              some (.inl none, s16)
            else
              cm_bv (run 177 [.inr (.inl 41), .inl 37, .inl 0] s16) fun s17 =>
                cm_bv (run 176 [.inr (.inl 41), .inl 3, .inl 15, .inl (s1.1 4112), .inl 0, .inl (s1.1 4134)] s17) fun s18 =>
                  cm_bv (run 177 [.inr (.inl 41), .inl 1, .inl 2] s18) fun s19 =>
                    cm_bv (run 177 [.inr (.inl 41), .inl 5, .inl 58] s19) fun s20 =>
                      if (s1.1 4111) = 1001 then
                        cm_bv (run 177 [.inr (.inl 41), .inl 7, .inl 0] s20) fun s21 =>
                          some (.inl none, s21)
                      else
                        cm_bv (run 214 [.inr (.inl 41)] s20) fun s22 =>
                          some (.inl none, s22)
        else
          cm_bv (run 205 [.inr (.inl 41)] s1) fun s23 =>
            some (.inl none, s23)
set_option maxRecDepth 100000 in
theorem cE_220_0 (run : cm_RN) (s : cm_S) : cm_lp run cm_k220 0 [some (.inr (.inl 41)), none, none, none] [] s = cF_220_0 run (cm_lp run cm_k220) s := (cm_lp_eq run cm_k220 0 _ _ s).trans rfl
/-- ScriptFrontModel.block, from 0 on -/
def cF_221_0 (run : cm_RN) (X : cm_X) (s : cm_S) : Option cm_R :=
  cm_bv (run 180 [.inr (.inl 41), .inl 0] s) fun s1 =>
    if (s1.1 4111) = 123 then
      cm_bv (run 176 [.inr (.inl 41), .inl 3, .inl 1, .inl (s1.1 4112), .inl 0, .inl (s1.1 4134)] s1) fun s2 =>
        cm_bv (run 177 [.inr (.inl 41), .inl 1, .inl 1] s2) fun s3 =>
          cm_bv (run 198 [.inr (.inl 41)] s3) fun s4 =>
            some (.inl none, s4)
    else
      cm_bv (run 205 [.inr (.inl 41)] s1) fun s5 =>
        some (.inl none, s5)
set_option maxRecDepth 100000 in
theorem cE_221_0 (run : cm_RN) (s : cm_S) : cm_lp run cm_k221 0 [some (.inr (.inl 41))] [] s = cF_221_0 run (cm_lp run cm_k221) s := (cm_lp_eq run cm_k221 0 _ _ s).trans rfl
/-- ScriptFrontModel.catchPart, from 0 on -/
def cF_222_0 (run : cm_RN) (X : cm_X) (x1 : Int) (x2 : Int) (s : cm_S) : Option cm_R :=
  cm_bv (run 180 [.inr (.inl 41), .inl 0] s) fun s1 =>
    if (s1.1 4111) = 1002 then
      cm_bv (run 176 [.inr (.inl 41), .inl 40, .inl x1, .inl x2, .inl 1, .inl 0] s1) fun s2 =>
        cm_bv (run 198 [.inr (.inl 41)] s2) fun s3 =>
          cm_bv (run 177 [.inr (.inl 41), .inl 41, .inl 0] s3) fun s4 =>
            cm_bv (run 177 [.inr (.inl 41), .inl 5, .inl 40] s4) fun s5 =>
              some (.inl none, s5)
    else
      cm_bv (run 176 [.inr (.inl 41), .inl 40, .inl x1, .inl x2, .inl 0, .inl 0] s1) fun s6 =>
        cm_bv (run 214 [.inr (.inl 41)] s6) fun s7 =>
          some (.inl none, s7)
set_option maxRecDepth 100000 in
theorem cE_222_0 (run : cm_RN) (x1 : Int) (x2 : Int) (s : cm_S) : cm_lp run cm_k222 0 [some (.inr (.inl 41)), some (.inl x1), some (.inl x2), none] [] s = cF_222_0 run (cm_lp run cm_k222) x1 x2 s := (cm_lp_eq run cm_k222 0 _ _ s).trans rfl
/-- ScriptFrontModel.catchName, from 0 on -/
def cF_223_0 (run : cm_RN) (X : cm_X) (s : cm_S) : Option cm_R :=
  cm_bv (run 180 [.inr (.inl 41), .inl 0] s) fun s1 =>
    if (s1.1 4111) = 1 then
      cm_bv (run 176 [.inr (.inl 41), .inl 3, .inl 19, .inl (s1.1 4112), .inl (cm_w ((s1.1 4113) - (s1.1 4112))), .inl (s1.1 4134)] s1) fun s2 =>
        cm_bv (run 177 [.inr (.inl 41), .inl 38, .inl 0] s2) fun s3 =>
          cm_bv (run 177 [.inr (.inl 41), .inl 5, .inl 41] s3) fun s4 =>
            cm_bv (run 198 [.inr (.inl 41)] s4) fun s5 =>
              some (.inl none, s5)
    else
      cm_bv (run 205 [.inr (.inl 41)] s1) fun s6 =>
        some (.inl none, s6)
set_option maxRecDepth 100000 in
theorem cE_223_0 (run : cm_RN) (s : cm_S) : cm_lp run cm_k223 0 [some (.inr (.inl 41))] [] s = cF_223_0 run (cm_lp run cm_k223) s := (cm_lp_eq run cm_k223 0 _ _ s).trans rfl
/-- ScriptFrontModel.finalPart, from 0 on -/
def cF_224_0 (run : cm_RN) (X : cm_X) (x1 : Int) (x2 : Int) (x3 : Int) (s : cm_S) : Option cm_R :=
  cm_bv (run 180 [.inr (.inl 41), .inl 0] s) fun s1 =>
    if (s1.1 4111) = 1009 then
      cm_bv (run 198 [.inr (.inl 41)] s1) fun s2 =>
        cm_bv (run 176 [.inr (.inl 41), .inl 3, .inl 18, .inl x1, .inl 0, .inl x2] s2) fun s3 =>
          cm_bv (run 177 [.inr (.inl 41), .inl 38, .inl 0] s3) fun s4 =>
            some (.inl none, s4)
    else
      if x3 = 0 then
        cm_bv (run 205 [.inr (.inl 41)] s1) fun s5 =>
          some (.inl none, s5)
      else
        cm_bv (run 214 [.inr (.inl 41)] s1) fun s6 =>
          cm_bv (run 202 [.inr (.inl 41), .inl 18, .inl x1, .inl 0, .inl x2] s6) fun s7 =>
            some (.inl none, s7)
set_option maxRecDepth 100000 in
theorem cE_224_0 (run : cm_RN) (x1 : Int) (x2 : Int) (x3 : Int) (s : cm_S) : cm_lp run cm_k224 0 [some (.inr (.inl 41)), some (.inl x1), some (.inl x2), some (.inl x3)] [] s = cF_224_0 run (cm_lp run cm_k224) x1 x2 x3 s := (cm_lp_eq run cm_k224 0 _ _ s).trans rfl
/-- ScriptFrontModel.variable, from 0 on -/
def cF_225_0 (run : cm_RN) (X : cm_X) (x1 : Int) (s : cm_S) : Option cm_R :=
  cm_bv (run 180 [.inr (.inl 41), .inl 0] s) fun s1 =>
    if (s1.1 4111) = 1 then
      cm_bv (run 177 [.inr (.inl 41), .inl 31, .inl x1] s1) fun s2 =>
        cm_bv (run 176 [.inr (.inl 41), .inl 3, .inl 3, .inl (s2.1 4112), .inl (cm_w ((s2.1 4113) - (s2.1 4112))), .inl (s2.1 4134)] s2) fun s3 =>
          cm_bv (run 177 [.inr (.inl 41), .inl 30, .inl x1] s3) fun s4 =>
            cm_bv (run 198 [.inr (.inl 41)] s4) fun s5 =>
              some (.inl none, s5)
    else
      cm_bv (run 205 [.inr (.inl 41)] s1) fun s6 =>
        some (.inl none, s6)
set_option maxRecDepth 100000 in
theorem cE_225_0 (run : cm_RN) (x1 : Int) (s : cm_S) : cm_lp run cm_k225 0 [some (.inr (.inl 41)), some (.inl x1)] [] s = cF_225_0 run (cm_lp run cm_k225) x1 s := (cm_lp_eq run cm_k225 0 _ _ s).trans rfl
/-- ScriptFrontModel.initial, from 0 on -/
def cF_226_0 (run : cm_RN) (X : cm_X) (x1 : Int) (s : cm_S) : Option cm_R :=
  cm_bv (run 180 [.inr (.inl 41), .inl 0] s) fun s1 =>
    if (s1.1 4111) = 61 then
      cm_bv (run 198 [.inr (.inl 41)] s1) fun s2 =>
        cm_bv (run 177 [.inr (.inl 41), .inl 9, .inl x1] s2) fun s3 =>
          some (.inl none, s3)
    else
      some (.inl none, s1)
set_option maxRecDepth 100000 in
theorem cE_226_0 (run : cm_RN) (x1 : Int) (s : cm_S) : cm_lp run cm_k226 0 [some (.inr (.inl 41)), some (.inl x1)] [] s = cF_226_0 run (cm_lp run cm_k226) x1 s := (cm_lp_eq run cm_k226 0 _ _ s).trans rfl
/-- ScriptFrontModel.variableMore, from 0 on -/
def cF_227_0 (run : cm_RN) (X : cm_X) (x1 : Int) (s : cm_S) : Option cm_R :=
  cm_bv (run 180 [.inr (.inl 41), .inl 0] s) fun s1 =>
    if (s1.1 4111) = 44 then
      cm_bv (run 198 [.inr (.inl 41)] s1) fun s2 =>
        cm_bv (run 177 [.inr (.inl 41), .inl 29, .inl x1] s2) fun s3 =>
          some (.inl none, s3)
    else
      some (.inl none, s1)
set_option maxRecDepth 100000 in
theorem cE_227_0 (run : cm_RN) (x1 : Int) (s : cm_S) : cm_lp run cm_k227 0 [some (.inr (.inl 41)), some (.inl x1)] [] s = cF_227_0 run (cm_lp run cm_k227) x1 s := (cm_lp_eq run cm_k227 0 _ _ s).trans rfl
/-- ScriptFrontModel.parameters, from 0 on -/
def cF_228_0 (run : cm_RN) (X : cm_X) (x1 : Int) (s : cm_S) : Option cm_R :=
  cm_bv (run 180 [.inr (.inl 41), .inl 0] s) fun s1 =>
    if (s1.1 4111) = 41 then
      if x1 = 0 then
        if (s1.1 4111) = 1 then
          if (s1.1 4108) = 0 then
            cm_bv (run 177 [.inr (.inl 41), .inl 26, .inl 0] s1) fun s2 =>
              cm_bv (run 201 [.inr (.inl 41), .inl 22, .inl (cm_w ((s2.1 4113) - (s2.1 4112)))] s2) fun s3 =>
                some (.inl none, s3)
          else
            cm_bv (run 205 [.inr (.inl 41)] s1) fun s4 =>
              some (.inl none, s4)
        else
          cm_bv (run 205 [.inr (.inl 41)] s1) fun s5 =>
            some (.inl none, s5)
      else
        cm_bv (run 198 [.inr (.inl 41)] s1) fun s6 =>
          some (.inl none, s6)
    else
      if (s1.1 4111) = 1 then
        if (s1.1 4108) = 0 then
          cm_bv (run 177 [.inr (.inl 41), .inl 26, .inl 0] s1) fun s7 =>
            cm_bv (run 201 [.inr (.inl 41), .inl 22, .inl (cm_w ((s7.1 4113) - (s7.1 4112)))] s7) fun s8 =>
              some (.inl none, s8)
        else
          cm_bv (run 205 [.inr (.inl 41)] s1) fun s9 =>
            some (.inl none, s9)
      else
        cm_bv (run 205 [.inr (.inl 41)] s1) fun s10 =>
          some (.inl none, s10)
set_option maxRecDepth 100000 in
theorem cE_228_0 (run : cm_RN) (x1 : Int) (s : cm_S) : cm_lp run cm_k228 0 [some (.inr (.inl 41)), some (.inl x1)] [] s = cF_228_0 run (cm_lp run cm_k228) x1 s := (cm_lp_eq run cm_k228 0 _ _ s).trans rfl
/-- ScriptFrontModel.parameterMore, from 0 on -/
def cF_229_0 (run : cm_RN) (X : cm_X) (s : cm_S) : Option cm_R :=
  cm_bv (run 180 [.inr (.inl 41), .inl 0] s) fun s1 =>
    if (s1.1 4111) = 44 then
      cm_bv (run 198 [.inr (.inl 41)] s1) fun s2 =>
        cm_bv (run 177 [.inr (.inl 41), .inl 25, .inl 0] s2) fun s3 =>
          some (.inl none, s3)
    else
      if (s1.1 4111) = 41 then
        cm_bv (run 198 [.inr (.inl 41)] s1) fun s4 =>
          some (.inl none, s4)
      else
        cm_bv (run 205 [.inr (.inl 41)] s1) fun s5 =>
          some (.inl none, s5)
set_option maxRecDepth 100000 in
theorem cE_229_0 (run : cm_RN) (s : cm_S) : cm_lp run cm_k229 0 [some (.inr (.inl 41))] [] s = cF_229_0 run (cm_lp run cm_k229) s := (cm_lp_eq run cm_k229 0 _ _ s).trans rfl
