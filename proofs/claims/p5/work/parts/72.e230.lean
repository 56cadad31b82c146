/-! ===== methods as expressions, printed by wip/gen/cm/pr.py ===== -/
/-- ScriptFrontModel.body, from 0 on -/
def cF_230_0 (run : cm_RN) (X : cm_X) (s : cm_S) : Option cm_R :=
  cm_bv (run 180 [.inr (.inl 41), .inl 0] s) fun s1 =>
    if (s1.1 4111) = 123 then
      cm_bi (run 200 [.inr (.inl 41)] s1) fun z2 s2 =>
        if z2 = 0 then
          some (.inl none, s2)
        else
          cm_bv (run 177 [.inr (.inl 41), .inl 4, .inl 0] s2) fun s3 =>
            cm_bv (run 176 [.inr (.inl 41), .inl 3, .inl 23, .inl (s3.1 4112), .inl 0, .inl (s3.1 4134)] s3) fun s4 =>
              cm_bv (run 177 [.inr (.inl 41), .inl 1, .inl 3] s4) fun s5 =>
                cm_bv (run 198 [.inr (.inl 41)] s5) fun s6 =>
                  some (.inl none, s6)
    else
      cm_bv (run 205 [.inr (.inl 41)] s1) fun s7 =>
        some (.inl none, s7)
set_option maxRecDepth 100000 in
theorem cE_230_0 (run : cm_RN) (s : cm_S) : cm_lp run cm_k230 0 [some (.inr (.inl 41))] [] s = cF_230_0 run (cm_lp run cm_k230) s := (cm_lp_eq run cm_k230 0 _ _ s).trans rfl
/-- ScriptFrontModel.expression, from 0 on -/
def cF_231_0 (run : cm_RN) (X : cm_X) (x1 : Int) (x2 : Int) (x3 : Int) (x4 : Int) (s : cm_S) : Option cm_R :=
  if x1 = 7 then
    cm_bv (run 176 [.inr (.inl 41), .inl 8, .inl (-1), .inl (s.1 4134), .inl x2, .inl 0] s) fun s1 =>
      cm_bv (run 177 [.inr (.inl 41), .inl 9, .inl x2] s1) fun s2 =>
        some (.inl none, s2)
  else if x1 = 8 then
    cm_bv (run 232 [.inr (.inl 41), .inl x2, .inl x3, .inl x4] s) fun s3 =>
      some (.inl none, s3)
  else if x1 = 9 then
    cm_bv (run 233 [.inr (.inl 41), .inl x2] s) fun s4 =>
      some (.inl none, s4)
  else if x1 = 10 then
    cm_bv (run 234 [.inr (.inl 41), .inl x2] s) fun s5 =>
      some (.inl none, s5)
  else if x1 = 11 then
    cm_bv (run 236 [.inr (.inl 41), .inl x2, .inl x3] s) fun s6 =>
      some (.inl none, s6)
  else if x1 = 12 then
    if x2 = 1 then
      cm_bv (run 239 [.inr (.inl 41), .inl 1] s) fun s7 =>
        some (.inl none, s7)
    else
      cm_bv (run 239 [.inr (.inl 41), .inl 0] s) fun s8 =>
        some (.inl none, s8)
  else if x1 = 13 then
    cm_bv (run 240 [.inr (.inl 41)] s) fun s9 =>
      some (.inl none, s9)
  else if x1 = 14 then
    cm_bv (run 241 [.inr (.inl 41), .inl 1] s) fun s10 =>
      some (.inl none, s10)
  else if x1 = 15 then
    cm_bv (run 242 [.inr (.inl 41)] s) fun s11 =>
      some (.inl none, s11)
  else if x1 = 16 then
    cm_bv (run 243 [.inr (.inl 41), .inl x2] s) fun s12 =>
      some (.inl none, s12)
  else if x1 = 17 then
    cm_bv (run 244 [.inr (.inl 41), .inl x2, .inl x3] s) fun s13 =>
      some (.inl none, s13)
  else if x1 = 18 then
    cm_bv (run 245 [.inr (.inl 41), .inl x2, .inl x3, .inl x4] s) fun s14 =>
      some (.inl none, s14)
  else if x1 = 19 then
    cm_bv (run 246 [.inr (.inl 41), .inl x2, .inl x3, .inl x4] s) fun s15 =>
      some (.inl none, s15)
  else if x1 = 20 then
    cm_bv (run 247 [.inr (.inl 41)] s) fun s16 =>
      some (.inl none, s16)
  else if x1 = 21 then
    cm_bv (run 248 [.inr (.inl 41), .inl x2, .inl x3] s) fun s17 =>
      some (.inl none, s17)
  else if x1 = 22 then
    cm_bv (run 249 [.inr (.inl 41), .inl x2, .inl x3] s) fun s18 =>
      some (.inl none, s18)
  else if x1 = 23 then
    cm_bv (run 250 [.inr (.inl 41), .inl x2, .inl x3] s) fun s19 =>
      some (.inl none, s19)
  else if x1 = 24 then
    cm_bv (run 251 [.inr (.inl 41), .inl x2, .inl x3] s) fun s20 =>
      some (.inl none, s20)
  else 
    cm_bv (run 252 [.inr (.inl 41)] s) fun s21 =>
      some (.inl none, s21)
set_option maxRecDepth 100000 in
theorem cE_231_0 (run : cm_RN) (x1 : Int) (x2 : Int) (x3 : Int) (x4 : Int) (s : cm_S) : cm_lp run cm_k231 0 [some (.inr (.inl 41)), some (.inl x1), some (.inl x2), some (.inl x3), some (.inl x4)] [] s = cF_231_0 run (cm_lp run cm_k231) x1 x2 x3 x4 s := (cm_lp_eq run cm_k231 0 _ _ s).trans rfl
/-- ScriptFrontModel.comma, from 0 on -/
def cF_232_0 (run : cm_RN) (X : cm_X) (x1 : Int) (x2 : Int) (x3 : Int) (s : cm_S) : Option cm_R :=
  cm_bv (run 180 [.inr (.inl 41), .inl 0] s) fun s1 =>
    if (s1.1 4111) = 44 then
      if x1 = (-1) then
        cm_bv (run 176 [.inr (.inl 41), .inl 8, .inl (s1.1 4112), .inl x2, .inl x3, .inl 0] s1) fun s2 =>
          cm_bv (run 177 [.inr (.inl 41), .inl 9, .inl x3] s2) fun s3 =>
            cm_bv (run 198 [.inr (.inl 41)] s3) fun s4 =>
              some (.inl none, s4)
      else
        cm_bv (run 176 [.inr (.inl 41), .inl 8, .inl x1, .inl x2, .inl x3, .inl 0] s1) fun s5 =>
          cm_bv (run 177 [.inr (.inl 41), .inl 9, .inl x3] s5) fun s6 =>
            cm_bv (run 198 [.inr (.inl 41)] s6) fun s7 =>
              some (.inl none, s7)
    else
      if x1 = (-1) then
        some (.inl none, s1)
      else
        cm_bv (run 202 [.inr (.inl 41), .inl 49, .inl x1, .inl 0, .inl x2] s1) fun s8 =>
          some (.inl none, s8)
set_option maxRecDepth 100000 in
theorem cE_232_0 (run : cm_RN) (x1 : Int) (x2 : Int) (x3 : Int) (s : cm_S) : cm_lp run cm_k232 0 [some (.inr (.inl 41)), some (.inl x1), some (.inl x2), some (.inl x3)] [] s = cF_232_0 run (cm_lp run cm_k232) x1 x2 x3 s := (cm_lp_eq run cm_k232 0 _ _ s).trans rfl
/-- ScriptFrontModel.one, from 0 on -/
def cF_233_0 (run : cm_RN) (X : cm_X) (x1 : Int) (s : cm_S) : Option cm_R :=
  cm_bi (run 200 [.inr (.inl 41)] s) fun z1 s1 =>
    if z1 = 0 then
      some (.inl none, s1)
    else
      cm_bv (run 177 [.inr (.inl 41), .inl 4, .inl 0] s1) fun s2 =>
        cm_bv (run 177 [.inr (.inl 41), .inl 10, .inl x1] s2) fun s3 =>
          cm_bv (run 176 [.inr (.inl 41), .inl 11, .inl (s3.1 4136), .inl x1, .inl 0, .inl 0] s3) fun s4 =>
            cm_bv (run 177 [.inr (.inl 41), .inl 12, .inl 0] s4) fun s5 =>
              some (.inl none, s5)
set_option maxRecDepth 100000 in
theorem cE_233_0 (run : cm_RN) (x1 : Int) (s : cm_S) : cm_lp run cm_k233 0 [some (.inr (.inl 41)), some (.inl x1)] [] s = cF_233_0 run (cm_lp run cm_k233) x1 s := (cm_lp_eq run cm_k233 0 _ _ s).trans rfl
/-- ScriptFrontModel.behind, from 0 on -/
def cF_234_0 (run : cm_RN) (X : cm_X) (x1 : Int) (s : cm_S) : Option cm_R :=
  cm_bv (run 180 [.inr (.inl 41), .inl 0] s) fun s1 =>
    if (s1.1 4111) = 63 then
      cm_bv (run 176 [.inr (.inl 41), .inl 3, .inl 47, .inl (s1.1 4112), .inl 0, .inl (cm_w ((s1.1 4134) - 1))] s1) fun s2 =>
        cm_bv (run 177 [.inr (.inl 41), .inl 9, .inl x1] s2) fun s3 =>
          cm_bv (run 177 [.inr (.inl 41), .inl 5, .inl 58] s3) fun s4 =>
            cm_bv (run 177 [.inr (.inl 41), .inl 9, .inl x1] s4) fun s5 =>
              cm_bv (run 198 [.inr (.inl 41)] s5) fun s6 =>
                some (.inl none, s6)
    else
      cm_bi (run 235 [.inl (s1.1 4111)] s1) fun z7 s7 =>
        if z7 = 0 then
          some (.inl none, s7)
        else
          if (s7.1 4141) = 0 then
            cm_bv (run 205 [.inr (.inl 41)] s7) fun s8 =>
              some (.inl none, s8)
          else
            cm_bv (run 176 [.inr (.inl 41), .inl 3, .inl 48, .inl (s7.1 4112), .inl (cm_w ((s7.1 4113) - (s7.1 4112))), .inl (cm_w ((s7.1 4134) - 1))] s7) fun s9 =>
              cm_bv (run 177 [.inr (.inl 41), .inl 9, .inl x1] s9) fun s10 =>
                cm_bv (run 198 [.inr (.inl 41)] s10) fun s11 =>
                  some (.inl none, s11)
set_option maxRecDepth 100000 in
theorem cE_234_0 (run : cm_RN) (x1 : Int) (s : cm_S) : cm_lp run cm_k234 0 [some (.inr (.inl 41)), some (.inl x1)] [] s = cF_234_0 run (cm_lp run cm_k234) x1 s := (cm_lp_eq run cm_k234 0 _ _ s).trans rfl
/-- ScriptFrontModel.assigns, from 0 on -/
def cF_235_0 (run : cm_RN) (X : cm_X) (x0 : Int) (s : cm_S) : Option cm_R :=
  if x0 = 61 then
    some (.inl (some (.inl 1)), s)
  else
    if x0 = 11069 then
      some (.inl (some (.inl 1)), s)
    else
      if x0 = 11581 then
        some (.inl (some (.inl 1)), s)
      else
        if x0 = 10813 then
          some (.inl (some (.inl 1)), s)
        else
          if x0 = 9533 then
            some (.inl (some (.inl 1)), s)
          else
            if x0 = 3947581 then
              some (.inl (some (.inl 1)), s)
            else
              if x0 = 4079165 then
                some (.inl (some (.inl 1)), s)
              else
                if x0 = 1044266557 then
                  some (.inl (some (.inl 1)), s)
                else
                  if x0 = 9789 then
                    some (.inl (some (.inl 1)), s)
                  else
                    if x0 = 31805 then
                      some (.inl (some (.inl 1)), s)
                    else
                      if x0 = 24125 then
                        some (.inl (some (.inl 1)), s)
                      else
                        if x0 = 12093 then
                          some (.inl (some (.inl 1)), s)
                        else
                          some (.inl (some (.inl 0)), s)
set_option maxRecDepth 100000 in
theorem cE_235_0 (run : cm_RN) (x0 : Int) (s : cm_S) : cm_lp run cm_k235 0 [some (.inl x0)] [] s = cF_235_0 run (cm_lp run cm_k235) x0 s := (cm_lp_eq run cm_k235 0 _ _ s).trans rfl
/-- ScriptFrontModel.between, from 0 on -/
def cF_236_0 (run : cm_RN) (X : cm_X) (x1 : Int) (x2 : Int) (s : cm_S) : Option cm_R :=
  cm_bv (run 180 [.inr (.inl 41), .inl 0] s) fun s1 =>
    if (s1.1 4111) = 1013 then
      if x2 = 1 then
        X 17 [some (.inr (.inl 41)), some (.inl x1), some (.inl x2), some (.inl 0)] [] s1
      else
        cm_bi (run 237 [.inl (s1.1 4111)] s1) fun z2 s2 =>
          X 17 [some (.inr (.inl 41)), some (.inl x1), some (.inl x2), some (.inl z2)] [] s2
    else
      cm_bi (run 237 [.inl (s1.1 4111)] s1) fun z3 s3 =>
        X 17 [some (.inr (.inl 41)), some (.inl x1), some (.inl x2), some (.inl z3)] [] s3
set_option maxRecDepth 100000 in
theorem cE_236_0 (run : cm_RN) (x1 : Int) (x2 : Int) (s : cm_S) : cm_lp run cm_k236 0 [some (.inr (.inl 41)), some (.inl x1), some (.inl x2), none] [] s = cF_236_0 run (cm_lp run cm_k236) x1 x2 s := (cm_lp_eq run cm_k236 0 _ _ s).trans rfl
/-- ScriptFrontModel.between, from 16 on -/
def cF_236_17 (run : cm_RN) (X : cm_X) (x1 : Int) (x2 : Int) (x3 : Int) (s : cm_S) : Option cm_R :=
  if x1 < (s.1 4136) then
    if (0 : Int) ≤ (cm_w ((s.1 4136) - 1)) ∧ (cm_w ((s.1 4136) - 1)) < 300 then
      cm_bi (run 237 [.inl (s.2 62 (cm_w ((s.1 4136) - 1)))] s) fun z1 s1 =>
        if z1 < x3 then
          if 0 < x3 then
            if (0 : Int) ≤ (s1.1 4136) ∧ (s1.1 4136) < 300 then
              (if (0 : Int) ≤ (s1.1 4136) ∧ (s1.1 4136) < 300 then
                (if (0 : Int) ≤ (s1.1 4136) ∧ (s1.1 4136) < 300 then
                  (cm_bv (run 198 [.inr (.inl 41)] (cm_p (cm_q (cm_q (cm_q s1 62 (s1.1 4136) (s1.1 4111)) 63 (s1.1 4136) (s1.1 4112)) 64 (s1.1 4136) (cm_w ((s1.1 4113) - (s1.1 4112)))) 4136 (cm_w ((s1.1 4136) + 1)))) fun s2 =>
                    cm_bv (run 176 [.inr (.inl 41), .inl 11, .inl x1, .inl x2, .inl 0, .inl 0] s2) fun s3 =>
                      cm_bv (run 177 [.inr (.inl 41), .inl 12, .inl 0] s3) fun s4 =>
                        some (.inl none, s4))
                else none)
              else none)
            else none
          else
            some (.inl none, s1)
        else
          cm_bv (run 238 [.inr (.inl 41)] s1) fun s5 =>
            X 17 [some (.inr (.inl 41)), some (.inl x1), some (.inl x2), some (.inl x3)] [] s5
    else none
  else
    if 0 < x3 then
      if (0 : Int) ≤ (s.1 4136) ∧ (s.1 4136) < 300 then
        (if (0 : Int) ≤ (s.1 4136) ∧ (s.1 4136) < 300 then
          (if (0 : Int) ≤ (s.1 4136) ∧ (s.1 4136) < 300 then
            (cm_bv (run 198 [.inr (.inl 41)] (cm_p (cm_q (cm_q (cm_q s 62 (s.1 4136) (s.1 4111)) 63 (s.1 4136) (s.1 4112)) 64 (s.1 4136) (cm_w ((s.1 4113) - (s.1 4112)))) 4136 (cm_w ((s.1 4136) + 1)))) fun s6 =>
              cm_bv (run 176 [.inr (.inl 41), .inl 11, .inl x1, .inl x2, .inl 0, .inl 0] s6) fun s7 =>
                cm_bv (run 177 [.inr (.inl 41), .inl 12, .inl 0] s7) fun s8 =>
                  some (.inl none, s8))
          else none)
        else none)
      else none
    else
      some (.inl none, s)
set_option maxRecDepth 100000 in
theorem cE_236_17 (run : cm_RN) (x1 : Int) (x2 : Int) (x3 : Int) (s : cm_S) : cm_lp run cm_k236 17 [some (.inr (.inl 41)), some (.inl x1), some (.inl x2), some (.inl x3)] [] s = cF_236_17 run (cm_lp run cm_k236) x1 x2 x3 s := (cm_lp_eq run cm_k236 17 _ _ s).trans rfl
/-- ScriptFrontModel.strength, from 0 on -/
def cF_237_0 (run : cm_RN) (X : cm_X) (x0 : Int) (s : cm_S) : Option cm_R :=
  if x0 = 37 then
    some (.inl (some (.inl 10)), s)
  else if x0 = 38 then
    some (.inl (some (.inl 5)), s)
  else if x0 = 42 then
    some (.inl (some (.inl 10)), s)
  else if x0 = 43 then
    some (.inl (some (.inl 9)), s)
  else if x0 = 45 then
    some (.inl (some (.inl 9)), s)
  else if x0 = 47 then
    some (.inl (some (.inl 10)), s)
  else if x0 = 60 then
    some (.inl (some (.inl 7)), s)
  else if x0 = 62 then
    some (.inl (some (.inl 7)), s)
  else if x0 = 94 then
    some (.inl (some (.inl 4)), s)
  else if x0 = 124 then
    some (.inl (some (.inl 3)), s)
  else if x0 = 1013 then
    some (.inl (some (.inl 7)), s)
  else if x0 = 1014 then
    some (.inl (some (.inl 7)), s)
  else if x0 = 8509 then
    some (.inl (some (.inl 6)), s)
  else if x0 = 9766 then
    some (.inl (some (.inl 2)), s)
  else if x0 = 15420 then
    some (.inl (some (.inl 8)), s)
  else if x0 = 15421 then
    some (.inl (some (.inl 7)), s)
  else if x0 = 15677 then
    some (.inl (some (.inl 6)), s)
  else if x0 = 15933 then
    some (.inl (some (.inl 7)), s)
  else if x0 = 15934 then
    some (.inl (some (.inl 8)), s)
  else if x0 = 31868 then
    some (.inl (some (.inl 1)), s)
  else if x0 = 2178365 then
    some (.inl (some (.inl 6)), s)
  else if x0 = 4013373 then
    some (.inl (some (.inl 6)), s)
  else if x0 = 4079166 then
    some (.inl (some (.inl 8)), s)
  else 
    some (.inl (some (.inl 0)), s)
set_option maxRecDepth 100000 in
theorem cE_237_0 (run : cm_RN) (x0 : Int) (s : cm_S) : cm_lp run cm_k237 0 [some (.inl x0)] [] s = cF_237_0 run (cm_lp run cm_k237) x0 s := (cm_lp_eq run cm_k237 0 _ _ s).trans rfl
/-- ScriptFrontModel.join, from 0 on -/
def cF_238_0 (run : cm_RN) (X : cm_X) (s : cm_S) : Option cm_R :=
  if (0 : Int) ≤ (cm_w ((s.1 4136) - 1)) ∧ (cm_w ((s.1 4136) - 1)) < 300 then
    if (0 : Int) ≤ (cm_w ((s.1 4136) - 1)) ∧ (cm_w ((s.1 4136) - 1)) < 300 then
      cm_bv (run 202 [.inr (.inl 41), .inl 46, .inl (s.2 63 (cm_w ((s.1 4136) - 1))), .inl (s.2 64 (cm_w ((s.1 4136) - 1))), .inl (cm_w ((s.1 4134) - 2))] (cm_p s 4136 (cm_w ((s.1 4136) - 1)))) fun s1 =>
        some (.inl none, s1)
    else none
  else none
set_option maxRecDepth 100000 in
theorem cE_238_0 (run : cm_RN) (s : cm_S) : cm_lp run cm_k238 0 [some (.inr (.inl 41))] [] s = cF_238_0 run (cm_lp run cm_k238) s := (cm_lp_eq run cm_k238 0 _ _ s).trans rfl
/-- ScriptFrontModel.unary, from 0 on -/
def cF_239_0 (run : cm_RN) (X : cm_X) (x1 : Int) (s : cm_S) : Option cm_R :=
  if x1 = 0 then
    X 7 [some (.inr (.inl 41)), some (.inl x1), none] [] s
  else
    cm_bi (run 200 [.inr (.inl 41)] s) fun z1 s1 =>
      if z1 = 0 then
        some (.inl none, s1)
      else
        X 7 [some (.inr (.inl 41)), some (.inl x1), none] [] s1
set_option maxRecDepth 100000 in
theorem cE_239_0 (run : cm_RN) (x1 : Int) (s : cm_S) : cm_lp run cm_k239 0 [some (.inr (.inl 41)), some (.inl x1), none] [] s = cF_239_0 run (cm_lp run cm_k239) x1 s := (cm_lp_eq run cm_k239 0 _ _ s).trans rfl
/-- ScriptFrontModel.unary, from 6 on -/
def cF_239_7 (run : cm_RN) (X : cm_X) (o1 : Option cm_V) (o2 : Option cm_V) (s : cm_S) : Option cm_R :=
  cm_bv (run 180 [.inr (.inl 41), .inl 1] s) fun s1 =>
    if (s1.1 4111) = 1005 then
      X 47 [some (.inr (.inl 41)), o1, o2] [] s1
    else
      if (s1.1 4111) = 1025 then
        X 47 [some (.inr (.inl 41)), o1, o2] [] s1
      else
        if (s1.1 4111) = 1023 then
          X 47 [some (.inr (.inl 41)), o1, o2] [] s1
        else
          if (s1.1 4111) = 11051 then
            X 47 [some (.inr (.inl 41)), o1, o2] [] s1
          else
            if (s1.1 4111) = 11565 then
              X 47 [some (.inr (.inl 41)), o1, o2] [] s1
            else
              if (s1.1 4111) = 43 then
                X 47 [some (.inr (.inl 41)), o1, o2] [] s1
              else
                if (s1.1 4111) = 45 then
                  X 47 [some (.inr (.inl 41)), o1, o2] [] s1
                else
                  if (s1.1 4111) = 126 then
                    X 47 [some (.inr (.inl 41)), o1, o2] [] s1
                  else
                    if (s1.1 4111) = 33 then
                      X 47 [some (.inr (.inl 41)), o1, o2] [] s1
                    else
                      cm_bv (run 177 [.inr (.inl 41), .inl 13, .inl 0] s1) fun s2 =>
                        cm_bv (run 177 [.inr (.inl 41), .inl 14, .inl 0] s2) fun s3 =>
                          some (.inl none, s3)
set_option maxRecDepth 100000 in
theorem cE_239_7 (run : cm_RN) (o1 : Option cm_V) (o2 : Option cm_V) (s : cm_S) : cm_lp run cm_k239 7 [some (.inr (.inl 41)), o1, o2] [] s = cF_239_7 run (cm_lp run cm_k239) o1 o2 s := (cm_lp_eq run cm_k239 7 _ _ s).trans rfl
/-- ScriptFrontModel.unary, from 45 on -/
def cF_239_47 (run : cm_RN) (X : cm_X) (o1 : Option cm_V) (o2 : Option cm_V) (s : cm_S) : Option cm_R :=
  cm_bv (run 176 [.inr (.inl 41), .inl 3, .inl 45, .inl (s.1 4112), .inl (cm_w ((s.1 4113) - (s.1 4112))), .inl (s.1 4134)] s) fun s1 =>
    cm_bv (run 177 [.inr (.inl 41), .inl 4, .inl 0] s1) fun s2 =>
      cm_bv (run 177 [.inr (.inl 41), .inl 12, .inl 1] s2) fun s3 =>
        cm_bv (run 198 [.inr (.inl 41)] s3) fun s4 =>
          some (.inl none, s4)
set_option maxRecDepth 100000 in
theorem cE_239_47 (run : cm_RN) (o1 : Option cm_V) (o2 : Option cm_V) (s : cm_S) : cm_lp run cm_k239 47 [some (.inr (.inl 41)), o1, o2] [] s = cF_239_47 run (cm_lp run cm_k239) o1 o2 s := (cm_lp_eq run cm_k239 47 _ _ s).trans rfl
/-- ScriptFrontModel.postfix, from 0 on -/
def cF_240_0 (run : cm_RN) (X : cm_X) (s : cm_S) : Option cm_R :=
  cm_bv (run 180 [.inr (.inl 41), .inl 0] s) fun s1 =>
    if (s1.1 4115) = 0 then
      if (s1.1 4111) = 11051 then
        cm_bv (run 202 [.inr (.inl 41), .inl 44, .inl (s1.1 4112), .inl (cm_w ((s1.1 4113) - (s1.1 4112))), .inl (cm_w ((s1.1 4134) - 1))] (cm_p s1 4141 1)) fun s2 =>
          cm_bv (run 198 [.inr (.inl 41)] s2) fun s3 =>
            some (.inl none, s3)
      else
        if (s1.1 4111) = 11565 then
          cm_bv (run 202 [.inr (.inl 41), .inl 44, .inl (s1.1 4112), .inl (cm_w ((s1.1 4113) - (s1.1 4112))), .inl (cm_w ((s1.1 4134) - 1))] (cm_p s1 4141 1)) fun s4 =>
            cm_bv (run 198 [.inr (.inl 41)] s4) fun s5 =>
              some (.inl none, s5)
        else
          some (.inl none, (cm_p s1 4141 1))
    else
      some (.inl none, (cm_p s1 4141 1))
set_option maxRecDepth 100000 in
theorem cE_240_0 (run : cm_RN) (s : cm_S) : cm_lp run cm_k240 0 [some (.inr (.inl 41))] [] s = cF_240_0 run (cm_lp run cm_k240) s := (cm_lp_eq run cm_k240 0 _ _ s).trans rfl
/-- ScriptFrontModel.operandOrNew, from 0 on -/
def cF_241_0 (run : cm_RN) (X : cm_X) (x1 : Int) (s : cm_S) : Option cm_R :=
  cm_bv (run 180 [.inr (.inl 41), .inl 1] s) fun s1 =>
    cm_bv (run 177 [.inr (.inl 41), .inl 16, .inl x1] s1) fun s2 =>
      if (s2.1 4111) = 1015 then
        cm_bv (run 176 [.inr (.inl 41), .inl 17, .inl (s2.1 4112), .inl (s2.1 4134), .inl 0, .inl 0] s2) fun s3 =>
          cm_bv (run 177 [.inr (.inl 41), .inl 4, .inl 0] s3) fun s4 =>
            cm_bv (run 177 [.inr (.inl 41), .inl 15, .inl 0] s4) fun s5 =>
              cm_bv (run 198 [.inr (.inl 41)] s5) fun s6 =>
                some (.inl none, s6)
      else
        cm_bv (run 177 [.inr (.inl 41), .inl 20, .inl 0] s2) fun s7 =>
          some (.inl none, s7)
set_option maxRecDepth 100000 in
theorem cE_241_0 (run : cm_RN) (x1 : Int) (s : cm_S) : cm_lp run cm_k241 0 [some (.inr (.inl 41)), some (.inl x1)] [] s = cF_241_0 run (cm_lp run cm_k241) x1 s := (cm_lp_eq run cm_k241 0 _ _ s).trans rfl
/-- ScriptFrontModel.member, from 0 on -/
def cF_242_0 (run : cm_RN) (X : cm_X) (s : cm_S) : Option cm_R :=
  cm_bi (run 200 [.inr (.inl 41)] s) fun z1 s1 =>
    if z1 = 0 then
      some (.inl none, s1)
    else
      cm_bv (run 241 [.inr (.inl 41), .inl 0] s1) fun s2 =>
        some (.inl none, s2)
set_option maxRecDepth 100000 in
theorem cE_242_0 (run : cm_RN) (s : cm_S) : cm_lp run cm_k242 0 [some (.inr (.inl 41))] [] s = cF_242_0 run (cm_lp run cm_k242) s := (cm_lp_eq run cm_k242 0 _ _ s).trans rfl
/-- ScriptFrontModel.tail, from 0 on -/
def cF_243_0 (run : cm_RN) (X : cm_X) (x1 : Int) (s : cm_S) : Option cm_R :=
  cm_bv (run 180 [.inr (.inl 41), .inl 0] s) fun s1 =>
    if (s1.1 4111) = 46 then
      cm_bv (run 198 [.inr (.inl 41)] s1) fun s2 =>
        cm_bv (run 180 [.inr (.inl 41), .inl 0] s2) fun s3 =>
          if (s3.1 4111) = 1 then
            if 1026 < (s3.1 4111) then
              cm_bv (run 205 [.inr (.inl 41)] s3) fun s4 =>
                some (.inl none, s4)
            else
              cm_bv (run 202 [.inr (.inl 41), .inl 41, .inl (s3.1 4112), .inl (cm_w ((s3.1 4113) - (s3.1 4112))), .inl (cm_w ((s3.1 4134) - 1))] s3) fun s5 =>
                cm_bv (run 198 [.inr (.inl 41)] s5) fun s6 =>
                  cm_bv (run 177 [.inr (.inl 41), .inl 16, .inl x1] s6) fun s7 =>
                    some (.inl none, s7)
          else
            if (s3.1 4111) < 1000 then
              cm_bv (run 205 [.inr (.inl 41)] s3) fun s8 =>
                some (.inl none, s8)
            else
              if 1026 < (s3.1 4111) then
                cm_bv (run 205 [.inr (.inl 41)] s3) fun s9 =>
                  some (.inl none, s9)
              else
                cm_bv (run 202 [.inr (.inl 41), .inl 41, .inl (s3.1 4112), .inl (cm_w ((s3.1 4113) - (s3.1 4112))), .inl (cm_w ((s3.1 4134) - 1))] s3) fun s10 =>
                  cm_bv (run 198 [.inr (.inl 41)] s10) fun s11 =>
                    cm_bv (run 177 [.inr (.inl 41), .inl 16, .inl x1] s11) fun s12 =>
                      some (.inl none, s12)
    else
      if (s1.1 4111) = 91 then
        cm_bv (run 198 [.inr (.inl 41)] s1) fun s13 =>
          cm_bv (run 177 [.inr (.inl 41), .inl 16, .inl x1] s13) fun s14 =>
            cm_bv (run 176 [.inr (.inl 41), .inl 3, .inl 40, .inl (s1.1 4112), .inl 0, .inl (cm_w ((s14.1 4134) - 1))] s14) fun s15 =>
              cm_bv (run 177 [.inr (.inl 41), .inl 5, .inl 93] s15) fun s16 =>
                cm_bv (run 177 [.inr (.inl 41), .inl 7, .inl 0] s16) fun s17 =>
                  some (.inl none, s17)
      else
        if (s1.1 4111) = 40 then
          if x1 = 1 then
            cm_bv (run 198 [.inr (.inl 41)] s1) fun s18 =>
              cm_bv (run 177 [.inr (.inl 41), .inl 16, .inl x1] s18) fun s19 =>
                cm_bv (run 176 [.inr (.inl 41), .inl 18, .inl 43, .inl (s1.1 4112), .inl (cm_w ((s19.1 4134) - 1)), .inl 0] s19) fun s20 =>
                  some (.inl none, s20)
          else
            some (.inl none, s1)
        else
          some (.inl none, s1)
set_option maxRecDepth 100000 in
theorem cE_243_0 (run : cm_RN) (x1 : Int) (s : cm_S) : cm_lp run cm_k243 0 [some (.inr (.inl 41)), some (.inl x1), none] [] s = cF_243_0 run (cm_lp run cm_k243) x1 s := (cm_lp_eq run cm_k243 0 _ _ s).trans rfl
/-- ScriptFrontModel.newArguments, from 0 on -/
def cF_244_0 (run : cm_RN) (X : cm_X) (x1 : Int) (x2 : Int) (s : cm_S) : Option cm_R :=
  cm_bv (run 180 [.inr (.inl 41), .inl 0] s) fun s1 =>
    if (s1.1 4111) = 40 then
      cm_bv (run 198 [.inr (.inl 41)] s1) fun s2 =>
        cm_bv (run 176 [.inr (.inl 41), .inl 18, .inl 42, .inl x1, .inl x2, .inl 0] s2) fun s3 =>
          some (.inl none, s3)
    else
      cm_bv (run 202 [.inr (.inl 41), .inl 42, .inl x1, .inl 0, .inl x2] s1) fun s4 =>
        some (.inl none, s4)
set_option maxRecDepth 100000 in
theorem cE_244_0 (run : cm_RN) (x1 : Int) (x2 : Int) (s : cm_S) : cm_lp run cm_k244 0 [some (.inr (.inl 41)), some (.inl x1), some (.inl x2)] [] s = cF_244_0 run (cm_lp run cm_k244) x1 x2 s := (cm_lp_eq run cm_k244 0 _ _ s).trans rfl
/-- ScriptFrontModel.arguments, from 0 on -/
def cF_245_0 (run : cm_RN) (X : cm_X) (x1 : Int) (x2 : Int) (x3 : Int) (s : cm_S) : Option cm_R :=
  cm_bv (run 180 [.inr (.inl 41), .inl 1] s) fun s1 =>
    if (s1.1 4111) = 41 then
      cm_bv (run 198 [.inr (.inl 41)] s1) fun s2 =>
        cm_bv (run 202 [.inr (.inl 41), .inl x1, .inl x2, .inl 0, .inl x3] s2) fun s3 =>
          some (.inl none, s3)
    else
      cm_bv (run 176 [.inr (.inl 41), .inl 19, .inl x1, .inl x2, .inl x3, .inl 0] s1) fun s4 =>
        cm_bv (run 177 [.inr (.inl 41), .inl 9, .inl 0] s4) fun s5 =>
          some (.inl none, s5)
set_option maxRecDepth 100000 in
theorem cE_245_0 (run : cm_RN) (x1 : Int) (x2 : Int) (x3 : Int) (s : cm_S) : cm_lp run cm_k245 0 [some (.inr (.inl 41)), some (.inl x1), some (.inl x2), some (.inl x3)] [] s = cF_245_0 run (cm_lp run cm_k245) x1 x2 x3 s := (cm_lp_eq run cm_k245 0 _ _ s).trans rfl
/-- ScriptFrontModel.argumentMore, from 0 on -/
def cF_246_0 (run : cm_RN) (X : cm_X) (x1 : Int) (x2 : Int) (x3 : Int) (s : cm_S) : Option cm_R :=
  cm_bv (run 180 [.inr (.inl 41), .inl 0] s) fun s1 =>
    if (s1.1 4111) = 44 then
      cm_bv (run 198 [.inr (.inl 41)] s1) fun s2 =>
        cm_bv (run 176 [.inr (.inl 41), .inl 19, .inl x1, .inl x2, .inl x3, .inl 0] s2) fun s3 =>
          cm_bv (run 177 [.inr (.inl 41), .inl 9, .inl 0] s3) fun s4 =>
            some (.inl none, s4)
    else
      if (s1.1 4111) = 41 then
        cm_bv (run 198 [.inr (.inl 41)] s1) fun s5 =>
          cm_bv (run 202 [.inr (.inl 41), .inl x1, .inl x2, .inl 0, .inl x3] s5) fun s6 =>
            some (.inl none, s6)
      else
        cm_bv (run 205 [.inr (.inl 41)] s1) fun s7 =>
          some (.inl none, s7)
set_option maxRecDepth 100000 in
theorem cE_246_0 (run : cm_RN) (x1 : Int) (x2 : Int) (x3 : Int) (s : cm_S) : cm_lp run cm_k246 0 [some (.inr (.inl 41)), some (.inl x1), some (.inl x2), some (.inl x3)] [] s = cF_246_0 run (cm_lp run cm_k246) x1 x2 x3 s := (cm_lp_eq run cm_k246 0 _ _ s).trans rfl
/-- ScriptFrontModel.operand, from 0 on -/
def cF_247_0 (run : cm_RN) (X : cm_X) (s : cm_S) : Option cm_R :=
  cm_bv (run 180 [.inr (.inl 41), .inl 1] s) fun s1 =>
    if (s1.1 4111) = 1 then
      cm_bv (run 201 [.inr (.inl 41), .inl 31, .inl (cm_w ((s1.1 4113) - (s1.1 4112)))] s1) fun s2 =>
        some (.inl none, s2)
    else if (s1.1 4111) = 2 then
      cm_bv (run 201 [.inr (.inl 41), .inl 33, .inl (cm_w ((s1.1 4113) - (s1.1 4112)))] s1) fun s3 =>
        some (.inl none, s3)
    else if (s1.1 4111) = 3 then
      cm_bv (run 201 [.inr (.inl 41), .inl 34, .inl (cm_w ((s1.1 4113) - (s1.1 4112)))] s1) fun s4 =>
        some (.inl none, s4)
    else if (s1.1 4111) = 4 then
      cm_bv (run 201 [.inr (.inl 41), .inl 35, .inl (cm_w ((s1.1 4113) - (s1.1 4112)))] s1) fun s5 =>
        some (.inl none, s5)
    else if (s1.1 4111) = 40 then
      cm_bv (run 198 [.inr (.inl 41)] s1) fun s6 =>
        cm_bv (run 177 [.inr (.inl 41), .inl 28, .inl 0] s6) fun s7 =>
          cm_bv (run 177 [.inr (.inl 41), .inl 7, .inl 0] s7) fun s8 =>
            some (.inl none, s8)
    else if (s1.1 4111) = 91 then
      cm_bv (run 198 [.inr (.inl 41)] s1) fun s9 =>
        cm_bv (run 176 [.inr (.inl 41), .inl 21, .inl (s1.1 4112), .inl (s1.1 4134), .inl 0, .inl 0] s9) fun s10 =>
          some (.inl none, s10)
    else if (s1.1 4111) = 123 then
      cm_bv (run 198 [.inr (.inl 41)] s1) fun s11 =>
        cm_bv (run 176 [.inr (.inl 41), .inl 23, .inl (s1.1 4112), .inl (s1.1 4134), .inl 0, .inl 0] s11) fun s12 =>
          some (.inl none, s12)
    else if (s1.1 4111) = 1008 then
      cm_bv (run 201 [.inr (.inl 41), .inl 32, .inl (cm_w ((s1.1 4113) - (s1.1 4112)))] s1) fun s13 =>
        some (.inl none, s13)
    else if (s1.1 4111) = 1011 then
      cm_bv (run 204 [.inr (.inl 41), .inl 39] s1) fun s14 =>
        some (.inl none, s14)
    else if (s1.1 4111) = 1016 then
      cm_bv (run 201 [.inr (.inl 41), .inl 32, .inl (cm_w ((s1.1 4113) - (s1.1 4112)))] s1) fun s15 =>
        some (.inl none, s15)
    else if (s1.1 4111) = 1019 then
      cm_bv (run 201 [.inr (.inl 41), .inl 30, .inl 0] s1) fun s16 =>
        some (.inl none, s16)
    else if (s1.1 4111) = 1021 then
      cm_bv (run 201 [.inr (.inl 41), .inl 32, .inl (cm_w ((s1.1 4113) - (s1.1 4112)))] s1) fun s17 =>
        some (.inl none, s17)
    else 
      cm_bv (run 205 [.inr (.inl 41)] s1) fun s18 =>
        some (.inl none, s18)
set_option maxRecDepth 100000 in
theorem cE_247_0 (run : cm_RN) (s : cm_S) : cm_lp run cm_k247 0 [some (.inr (.inl 41)), none, none, none] [] s = cF_247_0 run (cm_lp run cm_k247) s := (cm_lp_eq run cm_k247 0 _ _ s).trans rfl
/-- ScriptFrontModel.elements, from 0 on -/
def cF_248_0 (run : cm_RN) (X : cm_X) (x1 : Int) (x2 : Int) (s : cm_S) : Option cm_R :=
  cm_bv (run 180 [.inr (.inl 41), .inl 1] s) fun s1 =>
    if (s1.1 4111) = 93 then
      cm_bv (run 198 [.inr (.inl 41)] s1) fun s2 =>
        cm_bv (run 202 [.inr (.inl 41), .inl 36, .inl x1, .inl 0, .inl x2] s2) fun s3 =>
          some (.inl none, s3)
    else
      if (s1.1 4111) = 44 then
        cm_bv (run 198 [.inr (.inl 41)] s1) fun s4 =>
          cm_bv (run 214 [.inr (.inl 41)] s4) fun s5 =>
            cm_bv (run 176 [.inr (.inl 41), .inl 21, .inl x1, .inl x2, .inl 0, .inl 0] s5) fun s6 =>
              some (.inl none, s6)
      else
        cm_bv (run 176 [.inr (.inl 41), .inl 22, .inl x1, .inl x2, .inl 0, .inl 0] s1) fun s7 =>
          cm_bv (run 177 [.inr (.inl 41), .inl 9, .inl 0] s7) fun s8 =>
            some (.inl none, s8)
set_option maxRecDepth 100000 in
theorem cE_248_0 (run : cm_RN) (x1 : Int) (x2 : Int) (s : cm_S) : cm_lp run cm_k248 0 [some (.inr (.inl 41)), some (.inl x1), some (.inl x2)] [] s = cF_248_0 run (cm_lp run cm_k248) x1 x2 s := (cm_lp_eq run cm_k248 0 _ _ s).trans rfl
/-- ScriptFrontModel.elementMore, from 0 on -/
def cF_249_0 (run : cm_RN) (X : cm_X) (x1 : Int) (x2 : Int) (s : cm_S) : Option cm_R :=
  cm_bv (run 180 [.inr (.inl 41), .inl 0] s) fun s1 =>
    if (s1.1 4111) = 44 then
      cm_bv (run 198 [.inr (.inl 41)] s1) fun s2 =>
        cm_bv (run 176 [.inr (.inl 41), .inl 21, .inl x1, .inl x2, .inl 0, .inl 0] s2) fun s3 =>
          some (.inl none, s3)
    else
      if (s1.1 4111) = 93 then
        cm_bv (run 198 [.inr (.inl 41)] s1) fun s4 =>
          cm_bv (run 202 [.inr (.inl 41), .inl 36, .inl x1, .inl 0, .inl x2] s4) fun s5 =>
            some (.inl none, s5)
      else
        cm_bv (run 205 [.inr (.inl 41)] s1) fun s6 =>
          some (.inl none, s6)
set_option maxRecDepth 100000 in
theorem cE_249_0 (run : cm_RN) (x1 : Int) (x2 : Int) (s : cm_S) : cm_lp run cm_k249 0 [some (.inr (.inl 41)), some (.inl x1), some (.inl x2)] [] s = cF_249_0 run (cm_lp run cm_k249) x1 x2 s := (cm_lp_eq run cm_k249 0 _ _ s).trans rfl
/-- ScriptFrontModel.properties, from 0 on -/
def cF_250_0 (run : cm_RN) (X : cm_X) (x1 : Int) (x2 : Int) (s : cm_S) : Option cm_R :=
  cm_bv (run 180 [.inr (.inl 41), .inl 0] s) fun s1 =>
    if (s1.1 4111) = 125 then
      cm_bv (run 198 [.inr (.inl 41)] s1) fun s2 =>
        cm_bv (run 202 [.inr (.inl 41), .inl 37, .inl x1, .inl 0, .inl x2] s2) fun s3 =>
          some (.inl none, s3)
    else
      if (s1.1 4111) = 1 then
        cm_bv (run 176 [.inr (.inl 41), .inl 24, .inl x1, .inl x2, .inl 0, .inl 0] s1) fun s4 =>
          cm_bv (run 176 [.inr (.inl 41), .inl 3, .inl 38, .inl (s4.1 4112), .inl (cm_w ((s4.1 4113) - (s4.1 4112))), .inl (s4.1 4134)] s4) fun s5 =>
            cm_bv (run 177 [.inr (.inl 41), .inl 9, .inl 0] s5) fun s6 =>
              cm_bv (run 177 [.inr (.inl 41), .inl 5, .inl 58] s6) fun s7 =>
                cm_bv (run 198 [.inr (.inl 41)] s7) fun s8 =>
                  some (.inl none, s8)
      else
        if (s1.1 4111) = 3 then
          cm_bv (run 176 [.inr (.inl 41), .inl 24, .inl x1, .inl x2, .inl 0, .inl 0] s1) fun s9 =>
            cm_bv (run 176 [.inr (.inl 41), .inl 3, .inl 38, .inl (s9.1 4112), .inl (cm_w ((s9.1 4113) - (s9.1 4112))), .inl (s9.1 4134)] s9) fun s10 =>
              cm_bv (run 177 [.inr (.inl 41), .inl 9, .inl 0] s10) fun s11 =>
                cm_bv (run 177 [.inr (.inl 41), .inl 5, .inl 58] s11) fun s12 =>
                  cm_bv (run 198 [.inr (.inl 41)] s12) fun s13 =>
                    some (.inl none, s13)
        else
          if (s1.1 4111) = 2 then
            cm_bv (run 176 [.inr (.inl 41), .inl 24, .inl x1, .inl x2, .inl 0, .inl 0] s1) fun s14 =>
              cm_bv (run 176 [.inr (.inl 41), .inl 3, .inl 38, .inl (s14.1 4112), .inl (cm_w ((s14.1 4113) - (s14.1 4112))), .inl (s14.1 4134)] s14) fun s15 =>
                cm_bv (run 177 [.inr (.inl 41), .inl 9, .inl 0] s15) fun s16 =>
                  cm_bv (run 177 [.inr (.inl 41), .inl 5, .inl 58] s16) fun s17 =>
                    cm_bv (run 198 [.inr (.inl 41)] s17) fun s18 =>
                      some (.inl none, s18)
          else
            if (s1.1 4111) < 1000 then
              cm_bv (run 205 [.inr (.inl 41)] s1) fun s19 =>
                some (.inl none, s19)
            else
              if 1026 < (s1.1 4111) then
                cm_bv (run 205 [.inr (.inl 41)] s1) fun s20 =>
                  some (.inl none, s20)
              else
                cm_bv (run 176 [.inr (.inl 41), .inl 24, .inl x1, .inl x2, .inl 0, .inl 0] s1) fun s21 =>
                  cm_bv (run 176 [.inr (.inl 41), .inl 3, .inl 38, .inl (s21.1 4112), .inl (cm_w ((s21.1 4113) - (s21.1 4112))), .inl (s21.1 4134)] s21) fun s22 =>
                    cm_bv (run 177 [.inr (.inl 41), .inl 9, .inl 0] s22) fun s23 =>
                      cm_bv (run 177 [.inr (.inl 41), .inl 5, .inl 58] s23) fun s24 =>
                        cm_bv (run 198 [.inr (.inl 41)] s24) fun s25 =>
                          some (.inl none, s25)
set_option maxRecDepth 100000 in
theorem cE_250_0 (run : cm_RN) (x1 : Int) (x2 : Int) (s : cm_S) : cm_lp run cm_k250 0 [some (.inr (.inl 41)), some (.inl x1), some (.inl x2)] [] s = cF_250_0 run (cm_lp run cm_k250) x1 x2 s := (cm_lp_eq run cm_k250 0 _ _ s).trans rfl
/-- ScriptFrontModel.propertyMore, from 0 on -/
def cF_251_0 (run : cm_RN) (X : cm_X) (x1 : Int) (x2 : Int) (s : cm_S) : Option cm_R :=
  cm_bv (run 180 [.inr (.inl 41), .inl 0] s) fun s1 =>
    if (s1.1 4111) = 44 then
      cm_bv (run 198 [.inr (.inl 41)] s1) fun s2 =>
        cm_bv (run 176 [.inr (.inl 41), .inl 23, .inl x1, .inl x2, .inl 0, .inl 0] s2) fun s3 =>
          some (.inl none, s3)
    else
      if (s1.1 4111) = 125 then
        cm_bv (run 198 [.inr (.inl 41)] s1) fun s4 =>
          cm_bv (run 202 [.inr (.inl 41), .inl 37, .inl x1, .inl 0, .inl x2] s4) fun s5 =>
            some (.inl none, s5)
      else
        cm_bv (run 205 [.inr (.inl 41)] s1) fun s6 =>
          some (.inl none, s6)
set_option maxRecDepth 100000 in
theorem cE_251_0 (run : cm_RN) (x1 : Int) (x2 : Int) (s : cm_S) : cm_lp run cm_k251 0 [some (.inr (.inl 41)), some (.inl x1), some (.inl x2)] [] s = cF_251_0 run (cm_lp run cm_k251) x1 x2 s := (cm_lp_eq run cm_k251 0 _ _ s).trans rfl
/-- ScriptFrontModel.closeParen, from 0 on -/
def cF_252_0 (run : cm_RN) (X : cm_X) (s : cm_S) : Option cm_R :=
  cm_bv (run 210 [.inr (.inl 41), .inl 41] s) fun s1 =>
    if (0 : Int) ≤ (cm_w ((s1.1 4134) - 1)) ∧ (cm_w ((s1.1 4134) - 1)) < 500 then
      if (0 : Int) ≤ (s1.2 61 (cm_w ((s1.1 4134) - 1))) ∧ (s1.2 61 (cm_w ((s1.1 4134) - 1))) < 500 then
        if (s1.2 54 (s1.2 61 (cm_w ((s1.1 4134) - 1)))) = 0 then
          if (0 : Int) ≤ (s1.2 61 (cm_w ((s1.1 4134) - 1))) ∧ (s1.2 61 (cm_w ((s1.1 4134) - 1))) < 500 then
            if (s1.2 47 (s1.2 61 (cm_w ((s1.1 4134) - 1)))) = 34 then
              if (0 : Int) ≤ (s1.2 61 (cm_w ((s1.1 4134) - 1))) ∧ (s1.2 61 (cm_w ((s1.1 4134) - 1))) < 500 then
                (some (.inl none, (cm_q s1 54 (s1.2 61 (cm_w ((s1.1 4134) - 1))) 1)))
              else none
            else
              if (0 : Int) ≤ (s1.2 61 (cm_w ((s1.1 4134) - 1))) ∧ (s1.2 61 (cm_w ((s1.1 4134) - 1))) < 500 then
                (some (.inl none, (cm_q s1 54 (s1.2 61 (cm_w ((s1.1 4134) - 1))) 0)))
              else none
          else none
        else
          if (0 : Int) ≤ (s1.2 61 (cm_w ((s1.1 4134) - 1))) ∧ (s1.2 61 (cm_w ((s1.1 4134) - 1))) < 500 then
            (some (.inl none, (cm_q s1 54 (s1.2 61 (cm_w ((s1.1 4134) - 1))) 1)))
          else none
      else none
    else none
set_option maxRecDepth 100000 in
theorem cE_252_0 (run : cm_RN) (s : cm_S) : cm_lp run cm_k252 0 [some (.inr (.inl 41)), none] [] s = cF_252_0 run (cm_lp run cm_k252) s := (cm_lp_eq run cm_k252 0 _ _ s).trans rfl
/-- ScriptFrontModel.arrange, from 0 on -/
def cF_253_0 (run : cm_RN) (X : cm_X) (x1 : Int) (s : cm_S) : Option cm_R :=
  if (0 : Int) ≤ x1 ∧ x1 < 500 then
    (if (0 : Int) ≤ x1 ∧ x1 < 500 then
      (X 15 [some (.inr (.inl 41)), some (.inl x1), some (.inl 0), some (.inl x1)] [] (cm_q (cm_q s 52 x1 (-1)) 51 x1 (-1)))
    else none)
  else none
set_option maxRecDepth 100000 in
theorem cE_253_0 (run : cm_RN) (x1 : Int) (s : cm_S) : cm_lp run cm_k253 0 [some (.inr (.inl 41)), some (.inl x1), none, none] [] s = cF_253_0 run (cm_lp run cm_k253) x1 s := (cm_lp_eq run cm_k253 0 _ _ s).trans rfl
/-- ScriptFrontModel.arrange, from 14 on -/
def cF_253_15 (run : cm_RN) (X : cm_X) (o1 : Option cm_V) (x2 : Int) (x3 : Int) (s : cm_S) : Option cm_R :=
  if x3 = (-1) then
    some (.inl (some (.inl x2)), s)
  else
    if (0 : Int) ≤ x2 ∧ x2 < 500 then
      (if (0 : Int) ≤ x3 ∧ x3 < 500 then
        (if (0 : Int) ≤ x3 ∧ x3 < 500 then
          if (s.2 50 x3) = (-1) then
            X 42 [some (.inr (.inl 41)), o1, some (.inl (cm_w (x2 + 1))), some (.inl x3)] [] (cm_q (cm_q s 65 x2 x3) 66 x3 x2)
          else
            if (0 : Int) ≤ x3 ∧ x3 < 500 then
              X 15 [some (.inr (.inl 41)), o1, some (.inl (cm_w (x2 + 1))), some (.inl (s.2 50 x3))] [] (cm_q (cm_q s 65 x2 x3) 66 x3 x2)
            else none
        else none)
      else none)
    else none
set_option maxRecDepth 100000 in
theorem cE_253_15 (run : cm_RN) (o1 : Option cm_V) (x2 : Int) (x3 : Int) (s : cm_S) : cm_lp run cm_k253 15 [some (.inr (.inl 41)), o1, some (.inl x2), some (.inl x3)] [] s = cF_253_15 run (cm_lp run cm_k253) o1 x2 x3 s := (cm_lp_eq run cm_k253 15 _ _ s).trans rfl
/-- ScriptFrontModel.arrange, from 40 on -/
def cF_253_42 (run : cm_RN) (X : cm_X) (o1 : Option cm_V) (x2 : Int) (x3 : Int) (s : cm_S) : Option cm_R :=
  if x3 = (-1) then
    if x3 = (-1) then
      X 15 [some (.inr (.inl 41)), o1, some (.inl x2), some (.inl (-1))] [] s
    else
      if (0 : Int) ≤ x3 ∧ x3 < 500 then
        X 15 [some (.inr (.inl 41)), o1, some (.inl x2), some (.inl (s.2 51 x3))] [] s
      else none
  else
    if (0 : Int) ≤ x3 ∧ x3 < 500 then
      if (s.2 51 x3) = (-1) then
        if (0 : Int) ≤ x3 ∧ x3 < 500 then
          X 42 [some (.inr (.inl 41)), o1, some (.inl x2), some (.inl (s.2 52 x3))] [] s
        else none
      else
        if x3 = (-1) then
          X 15 [some (.inr (.inl 41)), o1, some (.inl x2), some (.inl (-1))] [] s
        else
          if (0 : Int) ≤ x3 ∧ x3 < 500 then
            X 15 [some (.inr (.inl 41)), o1, some (.inl x2), some (.inl (s.2 51 x3))] [] s
          else none
    else none
set_option maxRecDepth 100000 in
theorem cE_253_42 (run : cm_RN) (o1 : Option cm_V) (x2 : Int) (x3 : Int) (s : cm_S) : cm_lp run cm_k253 42 [some (.inr (.inl 41)), o1, some (.inl x2), some (.inl x3)] [] s = cF_253_42 run (cm_lp run cm_k253) o1 x2 x3 s := (cm_lp_eq run cm_k253 42 _ _ s).trans rfl
/-- ScriptFrontModel.settle, from 0 on -/
def cF_254_0 (run : cm_RN) (X : cm_X) (x1 : Int) (s : cm_S) : Option cm_R :=
  cm_bi (run 255 [.inr (.inl 41), .inl (s.2 65 0)] s) fun z1 s1 =>
    if (0 : Int) ≤ (s.2 65 0) ∧ (s.2 65 0) < 500 then
      (if 0 ≤ z1 ∧ z1 < 2 then
        X 16 [some (.inr (.inl 41)), some (.inl x1), some (.inl 1), none] [] (cm_q s1 55 (s.2 65 0) z1)
      else none)
    else none
set_option maxRecDepth 100000 in
theorem cE_254_0 (run : cm_RN) (x1 : Int) (s : cm_S) : cm_lp run cm_k254 0 [some (.inr (.inl 41)), some (.inl x1), none, none] [] s = cF_254_0 run (cm_lp run cm_k254) x1 s := (cm_lp_eq run cm_k254 0 _ _ s).trans rfl
/-- ScriptFrontModel.settle, from 15 on -/
def cF_254_16 (run : cm_RN) (X : cm_X) (x1 : Int) (x2 : Int) (o3 : Option cm_V) (s : cm_S) : Option cm_R :=
  if x2 < x1 then
    if (0 : Int) ≤ x2 ∧ x2 < 500 then
      if (0 : Int) ≤ (s.2 65 x2) ∧ (s.2 65 x2) < 500 then
        if (0 : Int) ≤ (s.2 52 (s.2 65 x2)) ∧ (s.2 52 (s.2 65 x2)) < 500 then
          if (s.2 55 (s.2 52 (s.2 65 x2))) = 0 then
            if (0 : Int) ≤ (s.2 65 x2) ∧ (s.2 65 x2) < 500 then
              if (s.2 47 (s.2 65 x2)) = 23 then
                cm_bi (run 255 [.inr (.inl 41), .inl (s.2 65 x2)] s) fun z1 s1 =>
                  if z1 = 0 then
                    if (0 : Int) ≤ (s.2 65 x2) ∧ (s.2 65 x2) < 500 then
                      if (s1.2 47 (s.2 65 x2)) = 22 then
                        if (0 : Int) ≤ (s.2 65 x2) ∧ (s.2 65 x2) < 500 then
                          cm_bi (run 258 [.inr (.inl 41), .inl (s1.2 52 (s.2 65 x2))] s1) fun z2 s2 =>
                            cm_bi (run 255 [.inr (.inl 41), .inl z2] s2) fun z3 s3 =>
                              if z3 = 0 then
                                if (0 : Int) ≤ (s.2 65 x2) ∧ (s.2 65 x2) < 500 then
                                  (X 16 [some (.inr (.inl 41)), some (.inl x1), some (.inl (cm_w (x2 + 1))), some (.inl (s.2 65 x2))] [] (cm_q s3 55 (s.2 65 x2) 0))
                                else none
                              else
                                if (0 : Int) ≤ (s.2 65 x2) ∧ (s.2 65 x2) < 500 then
                                  (X 16 [some (.inr (.inl 41)), some (.inl x1), some (.inl (cm_w (x2 + 1))), some (.inl (s.2 65 x2))] [] (cm_q s3 55 (s.2 65 x2) 1))
                                else none
                        else none
                      else
                        if (0 : Int) ≤ (s.2 65 x2) ∧ (s.2 65 x2) < 500 then
                          (X 16 [some (.inr (.inl 41)), some (.inl x1), some (.inl (cm_w (x2 + 1))), some (.inl (s.2 65 x2))] [] (cm_q s1 55 (s.2 65 x2) 0))
                        else none
                    else none
                  else
                    if (0 : Int) ≤ (s.2 65 x2) ∧ (s.2 65 x2) < 500 then
                      (X 16 [some (.inr (.inl 41)), some (.inl x1), some (.inl (cm_w (x2 + 1))), some (.inl (s.2 65 x2))] [] (cm_q s1 55 (s.2 65 x2) 1))
                    else none
              else
                if (0 : Int) ≤ (s.2 65 x2) ∧ (s.2 65 x2) < 500 then
                  if (s.2 47 (s.2 65 x2)) = 22 then
                    if (0 : Int) ≤ (s.2 65 x2) ∧ (s.2 65 x2) < 500 then
                      cm_bi (run 258 [.inr (.inl 41), .inl (s.2 52 (s.2 65 x2))] s) fun z4 s4 =>
                        cm_bi (run 255 [.inr (.inl 41), .inl z4] s4) fun z5 s5 =>
                          if z5 = 0 then
                            if (0 : Int) ≤ (s.2 65 x2) ∧ (s.2 65 x2) < 500 then
                              (X 16 [some (.inr (.inl 41)), some (.inl x1), some (.inl (cm_w (x2 + 1))), some (.inl (s.2 65 x2))] [] (cm_q s5 55 (s.2 65 x2) 0))
                            else none
                          else
                            if (0 : Int) ≤ (s.2 65 x2) ∧ (s.2 65 x2) < 500 then
                              (X 16 [some (.inr (.inl 41)), some (.inl x1), some (.inl (cm_w (x2 + 1))), some (.inl (s.2 65 x2))] [] (cm_q s5 55 (s.2 65 x2) 1))
                            else none
                    else none
                  else
                    if (0 : Int) ≤ (s.2 65 x2) ∧ (s.2 65 x2) < 500 then
                      (X 16 [some (.inr (.inl 41)), some (.inl x1), some (.inl (cm_w (x2 + 1))), some (.inl (s.2 65 x2))] [] (cm_q s 55 (s.2 65 x2) 0))
                    else none
                else none
            else none
          else
            if (0 : Int) ≤ (s.2 65 x2) ∧ (s.2 65 x2) < 500 then
              (X 16 [some (.inr (.inl 41)), some (.inl x1), some (.inl (cm_w (x2 + 1))), some (.inl (s.2 65 x2))] [] (cm_q s 55 (s.2 65 x2) 1))
            else none
        else none
      else none
    else none
  else
    some (.inl none, s)
set_option maxRecDepth 100000 in
theorem cE_254_16 (run : cm_RN) (x1 : Int) (x2 : Int) (o3 : Option cm_V) (s : cm_S) : cm_lp run cm_k254 16 [some (.inr (.inl 41)), some (.inl x1), some (.inl x2), o3] [] s = cF_254_16 run (cm_lp run cm_k254) x1 x2 o3 s := (cm_lp_eq run cm_k254 16 _ _ s).trans rfl
/-- ScriptFrontModel.begins, from 0 on -/
def cF_255_0 (run : cm_RN) (X : cm_X) (x1 : Int) (s : cm_S) : Option cm_R :=
  if (0 : Int) ≤ x1 ∧ x1 < 500 then
    X 8 [some (.inr (.inl 41)), some (.inl x1), some (.inl 0), some (.inl (s.2 50 x1))] [] s
  else none
set_option maxRecDepth 100000 in
theorem cE_255_0 (run : cm_RN) (x1 : Int) (s : cm_S) : cm_lp run cm_k255 0 [some (.inr (.inl 41)), some (.inl x1), none, none] [] s = cF_255_0 run (cm_lp run cm_k255) x1 s := (cm_lp_eq run cm_k255 0 _ _ s).trans rfl
/-- ScriptFrontModel.begins, from 7 on -/
def cF_255_8 (run : cm_RN) (X : cm_X) (o1 : Option cm_V) (x2 : Int) (x3 : Int) (s : cm_S) : Option cm_R :=
  if x3 = (-1) then
    if (0 : Int) ≤ x2 ∧ x2 < 2 then some (.inl (some (.inl x2)), s) else none
  else
    cm_bi (run 256 [.inr (.inl 41), .inl x3] s) fun z1 s1 =>
      if z1 = 0 then
        if (0 : Int) ≤ x2 ∧ x2 < 2 then some (.inl (some (.inl x2)), s1) else none
      else
        if x2 = 0 then
          if (0 : Int) ≤ x3 ∧ x3 < 500 then
            cm_bi (run 257 [.inr (.inl 41), .inl (s1.2 50 x3)] s1) fun z2 s2 =>
              if z2 = 0 then
                if (0 : Int) ≤ x3 ∧ x3 < 500 then
                  X 8 [some (.inr (.inl 41)), o1, some (.inl 0), some (.inl (s2.2 51 x3))] [] s2
                else none
              else
                if (0 : Int) ≤ x3 ∧ x3 < 500 then
                  X 8 [some (.inr (.inl 41)), o1, some (.inl 1), some (.inl (s2.2 51 x3))] [] s2
                else none
          else none
        else
          if (0 : Int) ≤ x3 ∧ x3 < 500 then
            X 8 [some (.inr (.inl 41)), o1, some (.inl 1), some (.inl (s1.2 51 x3))] [] s1
          else none
set_option maxRecDepth 100000 in
theorem cE_255_8 (run : cm_RN) (o1 : Option cm_V) (x2 : Int) (x3 : Int) (s : cm_S) : cm_lp run cm_k255 8 [some (.inr (.inl 41)), o1, some (.inl x2), some (.inl x3)] [] s = cF_255_8 run (cm_lp run cm_k255) o1 x2 x3 s := (cm_lp_eq run cm_k255 8 _ _ s).trans rfl
/-- ScriptFrontModel.isPlainString, from 0 on -/
def cF_256_0 (run : cm_RN) (X : cm_X) (x1 : Int) (s : cm_S) : Option cm_R :=
  if (0 : Int) ≤ x1 ∧ x1 < 500 then
    if (s.2 47 x1) = 5 then
      if (0 : Int) ≤ x1 ∧ x1 < 500 then
        if (0 : Int) ≤ (s.2 50 x1) ∧ (s.2 50 x1) < 500 then
          if (s.2 47 (s.2 50 x1)) = 34 then
            if (0 : Int) ≤ x1 ∧ x1 < 500 then
              if (0 : Int) ≤ (s.2 50 x1) ∧ (s.2 50 x1) < 500 then
                if (s.2 54 (s.2 50 x1)) = 0 then
                  some (.inl (some (.inl 1)), s)
                else
                  some (.inl (some (.inl 0)), s)
              else none
            else none
          else
            some (.inl (some (.inl 0)), s)
        else none
      else none
    else
      some (.inl (some (.inl 0)), s)
  else none
set_option maxRecDepth 100000 in
theorem cE_256_0 (run : cm_RN) (x1 : Int) (s : cm_S) : cm_lp run cm_k256 0 [some (.inr (.inl 41)), some (.inl x1)] [] s = cF_256_0 run (cm_lp run cm_k256) x1 s := (cm_lp_eq run cm_k256 0 _ _ s).trans rfl
/-- ScriptFrontModel.saysStrict, from 0 on -/
def cF_257_0 (run : cm_RN) (X : cm_X) (x1 : Int) (s : cm_S) : Option cm_R :=
  if (0 : Int) ≤ x1 ∧ x1 < 500 then
    if (0 : Int) ≤ x1 ∧ x1 < 500 then
      if (s.2 49 x1) = 12 then
        if (0 : Int) ≤ (cm_w ((s.2 48 x1) + 1)) ∧ (cm_w ((s.2 48 x1) + 1)) < 480 then
          if (s.2 46 (cm_w ((s.2 48 x1) + 1))) = 117 then
            if (0 : Int) ≤ (cm_w ((s.2 48 x1) + 2)) ∧ (cm_w ((s.2 48 x1) + 2)) < 480 then
              if (s.2 46 (cm_w ((s.2 48 x1) + 2))) = 115 then
                if (0 : Int) ≤ (cm_w ((s.2 48 x1) + 3)) ∧ (cm_w ((s.2 48 x1) + 3)) < 480 then
                  if (s.2 46 (cm_w ((s.2 48 x1) + 3))) = 101 then
                    if (0 : Int) ≤ (cm_w ((s.2 48 x1) + 4)) ∧ (cm_w ((s.2 48 x1) + 4)) < 480 then
                      if (s.2 46 (cm_w ((s.2 48 x1) + 4))) = 32 then
                        if (0 : Int) ≤ (cm_w ((s.2 48 x1) + 5)) ∧ (cm_w ((s.2 48 x1) + 5)) < 480 then
                          if (s.2 46 (cm_w ((s.2 48 x1) + 5))) = 115 then
                            if (0 : Int) ≤ (cm_w ((s.2 48 x1) + 6)) ∧ (cm_w ((s.2 48 x1) + 6)) < 480 then
                              if (s.2 46 (cm_w ((s.2 48 x1) + 6))) = 116 then
                                if (0 : Int) ≤ (cm_w ((s.2 48 x1) + 7)) ∧ (cm_w ((s.2 48 x1) + 7)) < 480 then
                                  if (s.2 46 (cm_w ((s.2 48 x1) + 7))) = 114 then
                                    if (0 : Int) ≤ (cm_w ((s.2 48 x1) + 8)) ∧ (cm_w ((s.2 48 x1) + 8)) < 480 then
                                      if (s.2 46 (cm_w ((s.2 48 x1) + 8))) = 105 then
                                        if (0 : Int) ≤ (cm_w ((s.2 48 x1) + 9)) ∧ (cm_w ((s.2 48 x1) + 9)) < 480 then
                                          if (s.2 46 (cm_w ((s.2 48 x1) + 9))) = 99 then
                                            if (0 : Int) ≤ (cm_w ((s.2 48 x1) + 10)) ∧ (cm_w ((s.2 48 x1) + 10)) < 480 then
                                              if (s.2 46 (cm_w ((s.2 48 x1) + 10))) = 116 then
                                                some (.inl (some (.inl 1)), s)
                                              else
                                                some (.inl (some (.inl 0)), s)
                                            else none
                                          else
                                            some (.inl (some (.inl 0)), s)
                                        else none
                                      else
                                        some (.inl (some (.inl 0)), s)
                                    else none
                                  else
                                    some (.inl (some (.inl 0)), s)
                                else none
                              else
                                some (.inl (some (.inl 0)), s)
                            else none
                          else
                            some (.inl (some (.inl 0)), s)
                        else none
                      else
                        some (.inl (some (.inl 0)), s)
                    else none
                  else
                    some (.inl (some (.inl 0)), s)
                else none
              else
                some (.inl (some (.inl 0)), s)
            else none
          else
            some (.inl (some (.inl 0)), s)
        else none
      else
        some (.inl (some (.inl 0)), s)
    else none
  else none
set_option maxRecDepth 100000 in
theorem cE_257_0 (run : cm_RN) (x1 : Int) (s : cm_S) : cm_lp run cm_k257 0 [some (.inr (.inl 41)), some (.inl x1), none] [] s = cF_257_0 run (cm_lp run cm_k257) x1 s := (cm_lp_eq run cm_k257 0 _ _ s).trans rfl
/-- ScriptFrontModel.last, from 0 on -/
def cF_258_0 (run : cm_RN) (X : cm_X) (x1 : Int) (s : cm_S) : Option cm_R :=
  if (0 : Int) ≤ x1 ∧ x1 < 500 then
    cm_bi (run 259 [.inr (.inl 41), .inl x1, .inl (cm_w ((s.2 53 x1) - 1))] s) fun z1 s1 =>
      some (.inl (some (.inl z1)), s1)
  else none
set_option maxRecDepth 100000 in
theorem cE_258_0 (run : cm_RN) (x1 : Int) (s : cm_S) : cm_lp run cm_k258 0 [some (.inr (.inl 41)), some (.inl x1)] [] s = cF_258_0 run (cm_lp run cm_k258) x1 s := (cm_lp_eq run cm_k258 0 _ _ s).trans rfl
/-- ScriptFrontModel.child, from 0 on -/
def cF_259_0 (run : cm_RN) (X : cm_X) (x1 : Int) (x2 : Int) (s : cm_S) : Option cm_R :=
  if (0 : Int) ≤ x1 ∧ x1 < 500 then
    X 8 [some (.inr (.inl 41)), some (.inl x1), some (.inl x2), some (.inl (s.2 50 x1)), some (.inl 0)] [] s
  else none
set_option maxRecDepth 100000 in
theorem cE_259_0 (run : cm_RN) (x1 : Int) (x2 : Int) (s : cm_S) : cm_lp run cm_k259 0 [some (.inr (.inl 41)), some (.inl x1), some (.inl x2), none, none] [] s = cF_259_0 run (cm_lp run cm_k259) x1 x2 s := (cm_lp_eq run cm_k259 0 _ _ s).trans rfl
/-- ScriptFrontModel.child, from 7 on -/
def cF_259_8 (run : cm_RN) (X : cm_X) (o1 : Option cm_V) (x2 : Int) (x3 : Int) (x4 : Int) (s : cm_S) : Option cm_R :=
  if x4 < x2 then
    if x3 = (-1) then
      some (.inl (some (.inl x3)), s)
    else
      if (0 : Int) ≤ x3 ∧ x3 < 500 then
        X 8 [some (.inr (.inl 41)), o1, some (.inl x2), some (.inl (s.2 51 x3)), some (.inl (cm_w (x4 + 1)))] [] s
      else none
  else
    some (.inl (some (.inl x3)), s)
set_option maxRecDepth 100000 in
theorem cE_259_8 (run : cm_RN) (o1 : Option cm_V) (x2 : Int) (x3 : Int) (x4 : Int) (s : cm_S) : cm_lp run cm_k259 8 [some (.inr (.inl 41)), o1, some (.inl x2), some (.inl x3), some (.inl x4)] [] s = cF_259_8 run (cm_lp run cm_k259) o1 x2 x3 x4 s := (cm_lp_eq run cm_k259 8 _ _ s).trans rfl
/-- ScriptFrontModel.judge, from 0 on -/
def cF_260_0 (run : cm_RN) (X : cm_X) (x1 : Int) (s : cm_S) : Option cm_R :=
  X 3 [some (.inr (.inl 41)), some (.inl x1), some (.inl 0), none, none, none] [] s
set_option maxRecDepth 100000 in
theorem cE_260_0 (run : cm_RN) (x1 : Int) (s : cm_S) : cm_lp run cm_k260 0 [some (.inr (.inl 41)), some (.inl x1), none, none, none, none] [] s = cF_260_0 run (cm_lp run cm_k260) x1 s := (cm_lp_eq run cm_k260 0 _ _ s).trans rfl
/-- ScriptFrontModel.judge, from 2 on -/
def cF_260_3 (run : cm_RN) (X : cm_X) (x1 : Int) (x2 : Int) (o3 : Option cm_V) (o4 : Option cm_V) (o5 : Option cm_V) (s : cm_S) : Option cm_R :=
  if x2 < x1 then
    if (s.1 4108) = 0 then
      if (0 : Int) ≤ x2 ∧ x2 < 500 then
        cm_bi (run 261 [.inr (.inl 41), .inl (s.2 65 x2)] s) fun z1 s1 =>
          if z1 = 0 then
            X 28 [some (.inr (.inl 41)), some (.inl x1), some (.inl x2), some (.inl (s.2 65 x2)), o4, o5] [.inl 31] s1
          else
            if (0 : Int) ≤ (s.2 65 x2) ∧ (s.2 65 x2) < 500 then
              if (0 : Int) ≤ (s1.2 50 (s.2 65 x2)) ∧ (s1.2 50 (s.2 65 x2)) < 500 then
                X 28 [some (.inr (.inl 41)), some (.inl x1), some (.inl x2), some (.inl (s.2 65 x2)), o4, o5] [.inl (s1.2 47 (s1.2 50 (s.2 65 x2)))] s1
              else none
            else none
      else none
    else
      some (.inl none, s)
  else
    some (.inl none, s)
set_option maxRecDepth 100000 in
theorem cE_260_3 (run : cm_RN) (x1 : Int) (x2 : Int) (o3 : Option cm_V) (o4 : Option cm_V) (o5 : Option cm_V) (s : cm_S) : cm_lp run cm_k260 3 [some (.inr (.inl 41)), some (.inl x1), some (.inl x2), o3, o4, o5] [] s = cF_260_3 run (cm_lp run cm_k260) x1 x2 o3 o4 o5 s := (cm_lp_eq run cm_k260 3 _ _ s).trans rfl
/-- ScriptFrontModel.judge, from 26 on -/
def cF_260_28 (run : cm_RN) (X : cm_X) (x1 : Int) (x2 : Int) (x3 : Int) (o4 : Option cm_V) (o5 : Option cm_V) (y0 : Int) (s : cm_S) : Option cm_R :=
  if y0 = 31 then
    cm_bi (run 262 [.inr (.inl 41), .inl x3] s) fun z1 s1 =>
      if z1 = 0 then
        cm_bi (run 267 [.inr (.inl 41), .inl x3] s1) fun z2 s2 =>
          if z2 = 0 then
            X 3 [some (.inr (.inl 41)), some (.inl x1), some (.inl (cm_w (x2 + 1))), some (.inl x3), some (.inl y0), some (.inl 0)] [] s2
          else
            if (0 : Int) ≤ x3 ∧ x3 < 500 then
              cm_bv (run 185 [.inr (.inl 41), .inl 6, .inl (s2.2 48 x3)] s2) fun s3 =>
                X 3 [some (.inr (.inl 41)), some (.inl x1), some (.inl (cm_w (x2 + 1))), some (.inl x3), some (.inl y0), some (.inl 6)] [] s3
            else none
      else
        if (0 : Int) ≤ x3 ∧ x3 < 500 then
          cm_bv (run 185 [.inr (.inl 41), .inl 5, .inl (s1.2 48 x3)] s1) fun s4 =>
            X 3 [some (.inr (.inl 41)), some (.inl x1), some (.inl (cm_w (x2 + 1))), some (.inl x3), some (.inl y0), some (.inl 5)] [] s4
        else none
  else
    if y0 = 40 then
      cm_bi (run 262 [.inr (.inl 41), .inl x3] s) fun z5 s5 =>
        if z5 = 0 then
          cm_bi (run 267 [.inr (.inl 41), .inl x3] s5) fun z6 s6 =>
            if z6 = 0 then
              X 3 [some (.inr (.inl 41)), some (.inl x1), some (.inl (cm_w (x2 + 1))), some (.inl x3), some (.inl y0), some (.inl 0)] [] s6
            else
              if (0 : Int) ≤ x3 ∧ x3 < 500 then
                cm_bv (run 185 [.inr (.inl 41), .inl 6, .inl (s6.2 48 x3)] s6) fun s7 =>
                  X 3 [some (.inr (.inl 41)), some (.inl x1), some (.inl (cm_w (x2 + 1))), some (.inl x3), some (.inl y0), some (.inl 6)] [] s7
              else none
        else
          if (0 : Int) ≤ x3 ∧ x3 < 500 then
            cm_bv (run 185 [.inr (.inl 41), .inl 5, .inl (s5.2 48 x3)] s5) fun s8 =>
              X 3 [some (.inr (.inl 41)), some (.inl x1), some (.inl (cm_w (x2 + 1))), some (.inl x3), some (.inl y0), some (.inl 5)] [] s8
          else none
    else
      if y0 = 41 then
        cm_bi (run 262 [.inr (.inl 41), .inl x3] s) fun z9 s9 =>
          if z9 = 0 then
            cm_bi (run 267 [.inr (.inl 41), .inl x3] s9) fun z10 s10 =>
              if z10 = 0 then
                X 3 [some (.inr (.inl 41)), some (.inl x1), some (.inl (cm_w (x2 + 1))), some (.inl x3), some (.inl y0), some (.inl 0)] [] s10
              else
                if (0 : Int) ≤ x3 ∧ x3 < 500 then
                  cm_bv (run 185 [.inr (.inl 41), .inl 6, .inl (s10.2 48 x3)] s10) fun s11 =>
                    X 3 [some (.inr (.inl 41)), some (.inl x1), some (.inl (cm_w (x2 + 1))), some (.inl x3), some (.inl y0), some (.inl 6)] [] s11
                else none
          else
            if (0 : Int) ≤ x3 ∧ x3 < 500 then
              cm_bv (run 185 [.inr (.inl 41), .inl 5, .inl (s9.2 48 x3)] s9) fun s12 =>
                X 3 [some (.inr (.inl 41)), some (.inl x1), some (.inl (cm_w (x2 + 1))), some (.inl x3), some (.inl y0), some (.inl 5)] [] s12
            else none
      else
        if (0 : Int) ≤ x3 ∧ x3 < 500 then
          cm_bv (run 185 [.inr (.inl 41), .inl 4, .inl (s.2 48 x3)] s) fun s13 =>
            X 3 [some (.inr (.inl 41)), some (.inl x1), some (.inl (cm_w (x2 + 1))), some (.inl x3), some (.inl y0), some (.inl 4)] [] s13
        else none
set_option maxRecDepth 100000 in
theorem cE_260_28 (run : cm_RN) (x1 : Int) (x2 : Int) (x3 : Int) (o4 : Option cm_V) (o5 : Option cm_V) (y0 : Int) (s : cm_S) : cm_lp run cm_k260 28 [some (.inr (.inl 41)), some (.inl x1), some (.inl x2), some (.inl x3), o4, o5] [.inl y0] s = cF_260_28 run (cm_lp run cm_k260) x1 x2 x3 o4 o5 y0 s := (cm_lp_eq run cm_k260 28 _ _ s).trans rfl
/-- ScriptFrontModel.hasTarget, from 0 on -/
def cF_261_0 (run : cm_RN) (X : cm_X) (x1 : Int) (s : cm_S) : Option cm_R :=
  if (0 : Int) ≤ x1 ∧ x1 < 500 then
    if (s.2 47 x1) = 44 then
      some (.inl (some (.inl 1)), s)
    else
      if (s.2 47 x1) = 48 then
        some (.inl (some (.inl 1)), s)
      else
        if (s.2 47 x1) = 45 then
          if (0 : Int) ≤ x1 ∧ x1 < 500 then
            if (0 : Int) ≤ (s.2 48 x1) ∧ (s.2 48 x1) < 480 then
              if (s.2 46 (s.2 48 x1)) = 43 then
                if (0 : Int) ≤ x1 ∧ x1 < 500 then
                  if (s.2 49 x1) = 2 then
                    some (.inl (some (.inl 1)), s)
                  else
                    if (s.2 47 x1) = 10 then
                      if (0 : Int) ≤ x1 ∧ x1 < 500 then
                        if (0 : Int) ≤ (s.2 50 x1) ∧ (s.2 50 x1) < 500 then
                          if (s.2 47 (s.2 50 x1)) = 2 then
                            some (.inl (some (.inl 0)), s)
                          else
                            some (.inl (some (.inl 1)), s)
                        else none
                      else none
                    else
                      some (.inl (some (.inl 0)), s)
                else none
              else
                if (0 : Int) ≤ x1 ∧ x1 < 500 then
                  if (0 : Int) ≤ (s.2 48 x1) ∧ (s.2 48 x1) < 480 then
                    if (s.2 46 (s.2 48 x1)) = 45 then
                      if (0 : Int) ≤ x1 ∧ x1 < 500 then
                        if (s.2 49 x1) = 2 then
                          some (.inl (some (.inl 1)), s)
                        else
                          if (s.2 47 x1) = 10 then
                            if (0 : Int) ≤ x1 ∧ x1 < 500 then
                              if (0 : Int) ≤ (s.2 50 x1) ∧ (s.2 50 x1) < 500 then
                                if (s.2 47 (s.2 50 x1)) = 2 then
                                  some (.inl (some (.inl 0)), s)
                                else
                                  some (.inl (some (.inl 1)), s)
                              else none
                            else none
                          else
                            some (.inl (some (.inl 0)), s)
                      else none
                    else
                      if (s.2 47 x1) = 10 then
                        if (0 : Int) ≤ x1 ∧ x1 < 500 then
                          if (0 : Int) ≤ (s.2 50 x1) ∧ (s.2 50 x1) < 500 then
                            if (s.2 47 (s.2 50 x1)) = 2 then
                              some (.inl (some (.inl 0)), s)
                            else
                              some (.inl (some (.inl 1)), s)
                          else none
                        else none
                      else
                        some (.inl (some (.inl 0)), s)
                  else none
                else none
            else none
          else none
        else
          if (s.2 47 x1) = 10 then
            if (0 : Int) ≤ x1 ∧ x1 < 500 then
              if (0 : Int) ≤ (s.2 50 x1) ∧ (s.2 50 x1) < 500 then
                if (s.2 47 (s.2 50 x1)) = 2 then
                  some (.inl (some (.inl 0)), s)
                else
                  some (.inl (some (.inl 1)), s)
              else none
            else none
          else
            some (.inl (some (.inl 0)), s)
  else none
set_option maxRecDepth 100000 in
theorem cE_261_0 (run : cm_RN) (x1 : Int) (s : cm_S) : cm_lp run cm_k261 0 [some (.inr (.inl 41)), some (.inl x1), none] [] s = cF_261_0 run (cm_lp run cm_k261) x1 s := (cm_lp_eq run cm_k261 0 _ _ s).trans rfl
/-- ScriptFrontModel.breaksStrict, from 0 on -/
def cF_262_0 (run : cm_RN) (X : cm_X) (x1 : Int) (s : cm_S) : Option cm_R :=
  if (0 : Int) ≤ x1 ∧ x1 < 500 then
    if (s.2 47 x1) = 20 then
      X 12 [some (.inr (.inl 41)), some (.inl x1), some (.inl (s.2 47 x1)), none, none, none] [] s
    else
      if (s.2 47 x1) = 39 then
        X 12 [some (.inr (.inl 41)), some (.inl x1), some (.inl (s.2 47 x1)), none, none, none] [] s
      else
        X 16 [some (.inr (.inl 41)), some (.inl x1), some (.inl (s.2 47 x1)), none, none, none] [.inl 0] s
  else none
set_option maxRecDepth 100000 in
theorem cE_262_0 (run : cm_RN) (x1 : Int) (s : cm_S) : cm_lp run cm_k262 0 [some (.inr (.inl 41)), some (.inl x1), none, none, none, none] [] s = cF_262_0 run (cm_lp run cm_k262) x1 s := (cm_lp_eq run cm_k262 0 _ _ s).trans rfl
/-- ScriptFrontModel.breaksStrict, from 11 on -/
def cF_262_12 (run : cm_RN) (X : cm_X) (x1 : Int) (x2 : Int) (o3 : Option cm_V) (o4 : Option cm_V) (o5 : Option cm_V) (s : cm_S) : Option cm_R :=
  X 16 [some (.inr (.inl 41)), some (.inl x1), some (.inl x2), o3, o4, o5] [.inl 1] s
set_option maxRecDepth 100000 in
theorem cE_262_12 (run : cm_RN) (x1 : Int) (x2 : Int) (o3 : Option cm_V) (o4 : Option cm_V) (o5 : Option cm_V) (s : cm_S) : cm_lp run cm_k262 12 [some (.inr (.inl 41)), some (.inl x1), some (.inl x2), o3, o4, o5] [] s = cF_262_12 run (cm_lp run cm_k262) x1 x2 o3 o4 o5 s := (cm_lp_eq run cm_k262 12 _ _ s).trans rfl
/-- ScriptFrontModel.breaksStrict, from 14 on -/
def cF_262_16 (run : cm_RN) (X : cm_X) (x1 : Int) (x2 : Int) (o3 : Option cm_V) (o4 : Option cm_V) (o5 : Option cm_V) (y0 : Int) (s : cm_S) : Option cm_R :=
  if y0 = 0 then
    if (0 : Int) ≤ x1 ∧ x1 < 500 then
      X 31 [some (.inr (.inl 41)), some (.inl x1), some (.inl x2), some (.inl y0), o4, o5] [.inl (s.2 55 x1)] s
    else none
  else
    cm_bi (run 258 [.inr (.inl 41), .inl x1] s) fun z1 s1 =>
      if (0 : Int) ≤ z1 ∧ z1 < 500 then
        X 31 [some (.inr (.inl 41)), some (.inl x1), some (.inl x2), some (.inl y0), o4, o5] [.inl (s1.2 55 z1)] s1
      else none
set_option maxRecDepth 100000 in
theorem cE_262_16 (run : cm_RN) (x1 : Int) (x2 : Int) (o3 : Option cm_V) (o4 : Option cm_V) (o5 : Option cm_V) (y0 : Int) (s : cm_S) : cm_lp run cm_k262 16 [some (.inr (.inl 41)), some (.inl x1), some (.inl x2), o3, o4, o5] [.inl y0] s = cF_262_16 run (cm_lp run cm_k262) x1 x2 o3 o4 o5 y0 s := (cm_lp_eq run cm_k262 16 _ _ s).trans rfl
/-- ScriptFrontModel.breaksStrict, from 28 on -/
def cF_262_31 (run : cm_RN) (X : cm_X) (x1 : Int) (x2 : Int) (x3 : Int) (o4 : Option cm_V) (o5 : Option cm_V) (y0 : Int) (s : cm_S) : Option cm_R :=
  if y0 = 0 then
    some (.inl (some (.inl 0)), s)
  else
    if x2 = 3 then
      X 53 [some (.inr (.inl 41)), some (.inl x1), some (.inl x2), some (.inl x3), some (.inl y0), o5] [] s
    else
      if x2 = 22 then
        X 53 [some (.inr (.inl 41)), some (.inl x1), some (.inl x2), some (.inl x3), some (.inl y0), o5] [] s
      else
        if x2 = 19 then
          X 53 [some (.inr (.inl 41)), some (.inl x1), some (.inl x2), some (.inl x3), some (.inl y0), o5] [] s
        else
          if x3 = 0 then
            X 56 [some (.inr (.inl 41)), some (.inl x1), some (.inl x2), some (.inl x3), some (.inl y0), o5] [] s
          else
            if (0 : Int) ≤ x1 ∧ x1 < 500 then
              if 0 < (s.2 49 x1) then
                X 53 [some (.inr (.inl 41)), some (.inl x1), some (.inl x2), some (.inl x3), some (.inl y0), o5] [] s
              else
                X 56 [some (.inr (.inl 41)), some (.inl x1), some (.inl x2), some (.inl x3), some (.inl y0), o5] [] s
            else none
set_option maxRecDepth 100000 in
theorem cE_262_31 (run : cm_RN) (x1 : Int) (x2 : Int) (x3 : Int) (o4 : Option cm_V) (o5 : Option cm_V) (y0 : Int) (s : cm_S) : cm_lp run cm_k262 31 [some (.inr (.inl 41)), some (.inl x1), some (.inl x2), some (.inl x3), o4, o5] [.inl y0] s = cF_262_31 run (cm_lp run cm_k262) x1 x2 x3 o4 o5 y0 s := (cm_lp_eq run cm_k262 31 _ _ s).trans rfl
/-- ScriptFrontModel.breaksStrict, from 49 on -/
def cF_262_53 (run : cm_RN) (X : cm_X) (x1 : Int) (x2 : Int) (o3 : Option cm_V) (o4 : Option cm_V) (o5 : Option cm_V) (s : cm_S) : Option cm_R :=
  X 58 [some (.inr (.inl 41)), some (.inl x1), some (.inl x2), o3, o4, o5] [.inl 1] s
set_option maxRecDepth 100000 in
theorem cE_262_53 (run : cm_RN) (x1 : Int) (x2 : Int) (o3 : Option cm_V) (o4 : Option cm_V) (o5 : Option cm_V) (s : cm_S) : cm_lp run cm_k262 53 [some (.inr (.inl 41)), some (.inl x1), some (.inl x2), o3, o4, o5] [] s = cF_262_53 run (cm_lp run cm_k262) x1 x2 o3 o4 o5 s := (cm_lp_eq run cm_k262 53 _ _ s).trans rfl
/-- ScriptFrontModel.breaksStrict, from 51 on -/
def cF_262_56 (run : cm_RN) (X : cm_X) (x1 : Int) (x2 : Int) (o3 : Option cm_V) (o4 : Option cm_V) (o5 : Option cm_V) (s : cm_S) : Option cm_R :=
  X 58 [some (.inr (.inl 41)), some (.inl x1), some (.inl x2), o3, o4, o5] [.inl 0] s
set_option maxRecDepth 100000 in
theorem cE_262_56 (run : cm_RN) (x1 : Int) (x2 : Int) (o3 : Option cm_V) (o4 : Option cm_V) (o5 : Option cm_V) (s : cm_S) : cm_lp run cm_k262 56 [some (.inr (.inl 41)), some (.inl x1), some (.inl x2), o3, o4, o5] [] s = cF_262_56 run (cm_lp run cm_k262) x1 x2 o3 o4 o5 s := (cm_lp_eq run cm_k262 56 _ _ s).trans rfl
/-- ScriptFrontModel.breaksStrict, from 52 on -/
def cF_262_58 (run : cm_RN) (X : cm_X) (x1 : Int) (x2 : Int) (o3 : Option cm_V) (o4 : Option cm_V) (o5 : Option cm_V) (y0 : Int) (s : cm_S) : Option cm_R :=
  cm_bi (run 261 [.inr (.inl 41), .inl x1] s) fun z1 s1 =>
    if z1 = 0 then
      X 80 [some (.inr (.inl 41)), some (.inl x1), some (.inl x2), o3, o4, some (.inl y0)] [] s1
    else
      if (0 : Int) ≤ x1 ∧ x1 < 500 then
        if (0 : Int) ≤ (s1.2 50 x1) ∧ (s1.2 50 x1) < 500 then
          if (s1.2 47 (s1.2 50 x1)) = 31 then
            if (0 : Int) ≤ x1 ∧ x1 < 500 then
              cm_bi (run 263 [.inr (.inl 41), .inl (s1.2 50 x1)] s1) fun z2 s2 =>
                if z2 = 0 then
                  X 80 [some (.inr (.inl 41)), some (.inl x1), some (.inl x2), o3, o4, some (.inl y0)] [] s2
                else
                  some (.inl (some (.inl 1)), s2)
            else none
          else
            X 80 [some (.inr (.inl 41)), some (.inl x1), some (.inl x2), o3, o4, some (.inl y0)] [] s1
        else none
      else none
set_option maxRecDepth 100000 in
theorem cE_262_58 (run : cm_RN) (x1 : Int) (x2 : Int) (o3 : Option cm_V) (o4 : Option cm_V) (o5 : Option cm_V) (y0 : Int) (s : cm_S) : cm_lp run cm_k262 58 [some (.inr (.inl 41)), some (.inl x1), some (.inl x2), o3, o4, o5] [.inl y0] s = cF_262_58 run (cm_lp run cm_k262) x1 x2 o3 o4 o5 y0 s := (cm_lp_eq run cm_k262 58 _ _ s).trans rfl
/-- ScriptFrontModel.breaksStrict, from 73 on -/
def cF_262_80 (run : cm_RN) (X : cm_X) (x1 : Int) (x2 : Int) (o3 : Option cm_V) (o4 : Option cm_V) (x5 : Int) (s : cm_S) : Option cm_R :=
  if x5 = 0 then
    cm_bi (run 264 [.inr (.inl 41), .inl x1] s) fun z1 s1 =>
      if z1 = 0 then
        if x2 = 22 then
          cm_bi (run 265 [.inr (.inl 41), .inl x1] s1) fun z2 s2 =>
            if z2 = 0 then
              some (.inl (some (.inl 0)), s2)
            else
              some (.inl (some (.inl 1)), s2)
        else
          if x2 = 38 then
            cm_bi (run 265 [.inr (.inl 41), .inl x1] s1) fun z3 s3 =>
              if z3 = 0 then
                some (.inl (some (.inl 0)), s3)
              else
                some (.inl (some (.inl 1)), s3)
          else
            some (.inl (some (.inl 0)), s1)
      else
        if (0 : Int) ≤ x1 ∧ x1 < 500 then
          if (0 : Int) ≤ (s1.2 50 x1) ∧ (s1.2 50 x1) < 500 then
            if (s1.2 47 (s1.2 50 x1)) = 31 then
              some (.inl (some (.inl 1)), s1)
            else
              if x2 = 22 then
                cm_bi (run 265 [.inr (.inl 41), .inl x1] s1) fun z4 s4 =>
                  if z4 = 0 then
                    some (.inl (some (.inl 0)), s4)
                  else
                    some (.inl (some (.inl 1)), s4)
              else
                if x2 = 38 then
                  cm_bi (run 265 [.inr (.inl 41), .inl x1] s1) fun z5 s5 =>
                    if z5 = 0 then
                      some (.inl (some (.inl 0)), s5)
                    else
                      some (.inl (some (.inl 1)), s5)
                else
                  some (.inl (some (.inl 0)), s1)
          else none
        else none
  else
    cm_bi (run 263 [.inr (.inl 41), .inl x1] s) fun z6 s6 =>
      if z6 = 0 then
        cm_bi (run 264 [.inr (.inl 41), .inl x1] s6) fun z7 s7 =>
          if z7 = 0 then
            if x2 = 22 then
              cm_bi (run 265 [.inr (.inl 41), .inl x1] s7) fun z8 s8 =>
                if z8 = 0 then
                  some (.inl (some (.inl 0)), s8)
                else
                  some (.inl (some (.inl 1)), s8)
            else
              if x2 = 38 then
                cm_bi (run 265 [.inr (.inl 41), .inl x1] s7) fun z9 s9 =>
                  if z9 = 0 then
                    some (.inl (some (.inl 0)), s9)
                  else
                    some (.inl (some (.inl 1)), s9)
              else
                some (.inl (some (.inl 0)), s7)
          else
            if (0 : Int) ≤ x1 ∧ x1 < 500 then
              if (0 : Int) ≤ (s7.2 50 x1) ∧ (s7.2 50 x1) < 500 then
                if (s7.2 47 (s7.2 50 x1)) = 31 then
                  some (.inl (some (.inl 1)), s7)
                else
                  if x2 = 22 then
                    cm_bi (run 265 [.inr (.inl 41), .inl x1] s7) fun z10 s10 =>
                      if z10 = 0 then
                        some (.inl (some (.inl 0)), s10)
                      else
                        some (.inl (some (.inl 1)), s10)
                  else
                    if x2 = 38 then
                      cm_bi (run 265 [.inr (.inl 41), .inl x1] s7) fun z11 s11 =>
                        if z11 = 0 then
                          some (.inl (some (.inl 0)), s11)
                        else
                          some (.inl (some (.inl 1)), s11)
                    else
                      some (.inl (some (.inl 0)), s7)
              else none
            else none
      else
        some (.inl (some (.inl 1)), s6)
set_option maxRecDepth 100000 in
theorem cE_262_80 (run : cm_RN) (x1 : Int) (x2 : Int) (o3 : Option cm_V) (o4 : Option cm_V) (x5 : Int) (s : cm_S) : cm_lp run cm_k262 80 [some (.inr (.inl 41)), some (.inl x1), some (.inl x2), o3, o4, some (.inl x5)] [] s = cF_262_80 run (cm_lp run cm_k262) x1 x2 o3 o4 x5 s := (cm_lp_eq run cm_k262 80 _ _ s).trans rfl
/-- ScriptFrontModel.isSpecial, from 0 on -/
def cF_263_0 (run : cm_RN) (X : cm_X) (x1 : Int) (s : cm_S) : Option cm_R :=
  X 5 [some (.inr (.inl 41)), some (.inl x1), some (.inr (.inr 0)), none, some (.inl 0), none] [] s
set_option maxRecDepth 100000 in
theorem cE_263_0 (run : cm_RN) (x1 : Int) (s : cm_S) : cm_lp run cm_k263 0 [some (.inr (.inl 41)), some (.inl x1), none, none, none, none] [] s = cF_263_0 run (cm_lp run cm_k263) x1 s := (cm_lp_eq run cm_k263 0 _ _ s).trans rfl
/-- ScriptFrontModel.isSpecial, from 4 on -/
def cF_263_5 (run : cm_RN) (X : cm_X) (x1 : Int) (l2 : Int) (o3 : Option cm_V) (x4 : Int) (o5 : Option cm_V) (s : cm_S) : Option cm_R :=
  if (0 : Int) ≤ x1 ∧ x1 < 500 then
    if x4 < (s.2 49 x1) then
      if x4 < 10 then
        if (0 : Int) ≤ x1 ∧ x1 < 500 then
          if (0 : Int) ≤ (cm_w ((s.2 48 x1) + x4)) ∧ (cm_w ((s.2 48 x1) + x4)) < 480 then
            X 5 [some (.inr (.inl 41)), some (.inl x1), some (.inr (.inr (cm_wl ((cm_wl ((cm_wl (32 * l2)) + (s.2 46 (cm_w ((s.2 48 x1) + x4))))) - 96)))), none, some (.inl (cm_w (x4 + 1))), o5] [] s
          else none
        else none
      else
        X 38 [some (.inr (.inl 41)), some (.inl x1), some (.inr (.inr l2)), o3, some (.inl 1), some (.inl 0)] [] s
    else
      X 38 [some (.inr (.inl 41)), some (.inl x1), some (.inr (.inr l2)), o3, some (.inl 1), some (.inl 0)] [] s
  else none
set_option maxRecDepth 100000 in
theorem cE_263_5 (run : cm_RN) (x1 : Int) (l2 : Int) (o3 : Option cm_V) (x4 : Int) (o5 : Option cm_V) (s : cm_S) : cm_lp run cm_k263 5 [some (.inr (.inl 41)), some (.inl x1), some (.inr (.inr l2)), o3, some (.inl x4), o5] [] s = cF_263_5 run (cm_lp run cm_k263) x1 l2 o3 x4 o5 s := (cm_lp_eq run cm_k263 5 _ _ s).trans rfl
/-- ScriptFrontModel.isSpecial, from 36 on -/
def cF_263_38 (run : cm_RN) (X : cm_X) (x1 : Int) (l2 : Int) (o3 : Option cm_V) (x4 : Int) (x5 : Int) (s : cm_S) : Option cm_R :=
  if (0 : Int) ≤ x1 ∧ x1 < 500 then
    if x5 < (s.2 49 x1) then
      if x4 = 0 then
        X 38 [some (.inr (.inl 41)), some (.inl x1), some (.inr (.inr l2)), o3, some (.inl 0), some (.inl (cm_w (x5 + 1)))] [] s
      else
        if (0 : Int) ≤ x1 ∧ x1 < 500 then
          if (0 : Int) ≤ (cm_w ((s.2 48 x1) + x5)) ∧ (cm_w ((s.2 48 x1) + x5)) < 480 then
            if (s.2 46 (cm_w ((s.2 48 x1) + x5))) < 97 then
              X 38 [some (.inr (.inl 41)), some (.inl x1), some (.inr (.inr l2)), o3, some (.inl 0), some (.inl (cm_w (x5 + 1)))] [] s
            else
              if (0 : Int) ≤ x1 ∧ x1 < 500 then
                if (0 : Int) ≤ (cm_w ((s.2 48 x1) + x5)) ∧ (cm_w ((s.2 48 x1) + x5)) < 480 then
                  if 122 < (s.2 46 (cm_w ((s.2 48 x1) + x5))) then
                    X 38 [some (.inr (.inl 41)), some (.inl x1), some (.inr (.inr l2)), o3, some (.inl 0), some (.inl (cm_w (x5 + 1)))] [] s
                  else
                    X 38 [some (.inr (.inl 41)), some (.inl x1), some (.inr (.inr l2)), o3, some (.inl 1), some (.inl (cm_w (x5 + 1)))] [] s
                else none
              else none
          else none
        else none
    else
      if x4 = 0 then
        some (.inl (some (.inl 0)), s)
      else
        if (0 : Int) ≤ x1 ∧ x1 < 500 then
          if (s.2 49 x1) = 4 then
            if (if l2 < 186412 then (-1 : Int) else if l2 = 186412 then 0 else 1) = 0 then
              some (.inl (some (.inl 1)), s)
            else
              if (0 : Int) ≤ x1 ∧ x1 < 500 then
                if (s.2 49 x1) = 9 then
                  if (if l2 < 1726221564563 then (-1 : Int) else if l2 = 1726221564563 then 0 else 1) = 0 then
                    some (.inl (some (.inl 1)), s)
                  else
                    some (.inl (some (.inl 0)), s)
                else
                  some (.inl (some (.inl 0)), s)
              else none
          else
            if (0 : Int) ≤ x1 ∧ x1 < 500 then
              if (s.2 49 x1) = 9 then
                if (if l2 < 1726221564563 then (-1 : Int) else if l2 = 1726221564563 then 0 else 1) = 0 then
                  some (.inl (some (.inl 1)), s)
                else
                  some (.inl (some (.inl 0)), s)
              else
                some (.inl (some (.inl 0)), s)
            else none
        else none
  else none
set_option maxRecDepth 100000 in
theorem cE_263_38 (run : cm_RN) (x1 : Int) (l2 : Int) (o3 : Option cm_V) (x4 : Int) (x5 : Int) (s : cm_S) : cm_lp run cm_k263 38 [some (.inr (.inl 41)), some (.inl x1), some (.inr (.inr l2)), o3, some (.inl x4), some (.inl x5)] [] s = cF_263_38 run (cm_lp run cm_k263) x1 l2 o3 x4 x5 s := (cm_lp_eq run cm_k263 38 _ _ s).trans rfl
/-- ScriptFrontModel.isDelete, from 0 on -/
def cF_264_0 (run : cm_RN) (X : cm_X) (x1 : Int) (s : cm_S) : Option cm_R :=
  if (0 : Int) ≤ x1 ∧ x1 < 500 then
    if (s.2 47 x1) = 45 then
      if (0 : Int) ≤ x1 ∧ x1 < 500 then
        if (0 : Int) ≤ (s.2 48 x1) ∧ (s.2 48 x1) < 480 then
          if (s.2 46 (s.2 48 x1)) = 100 then
            some (.inl (some (.inl 1)), s)
          else
            some (.inl (some (.inl 0)), s)
        else none
      else none
    else
      some (.inl (some (.inl 0)), s)
  else none
set_option maxRecDepth 100000 in
theorem cE_264_0 (run : cm_RN) (x1 : Int) (s : cm_S) : cm_lp run cm_k264 0 [some (.inr (.inl 41)), some (.inl x1)] [] s = cF_264_0 run (cm_lp run cm_k264) x1 s := (cm_lp_eq run cm_k264 0 _ _ s).trans rfl
/-- ScriptFrontModel.isTwice, from 0 on -/
def cF_265_0 (run : cm_RN) (X : cm_X) (x1 : Int) (s : cm_S) : Option cm_R :=
  if (0 : Int) ≤ x1 ∧ x1 < 500 then
    if (0 : Int) ≤ (s.2 52 x1) ∧ (s.2 52 x1) < 500 then
      X 11 [some (.inr (.inl 41)), some (.inl x1), some (.inl 0), some (.inl (s.2 50 (s.2 52 x1)))] [] s
    else none
  else none
set_option maxRecDepth 100000 in
theorem cE_265_0 (run : cm_RN) (x1 : Int) (s : cm_S) : cm_lp run cm_k265 0 [some (.inr (.inl 41)), some (.inl x1), none, none] [] s = cF_265_0 run (cm_lp run cm_k265) x1 s := (cm_lp_eq run cm_k265 0 _ _ s).trans rfl
/-- ScriptFrontModel.isTwice, from 10 on -/
def cF_265_11 (run : cm_RN) (X : cm_X) (x1 : Int) (x2 : Int) (x3 : Int) (s : cm_S) : Option cm_R :=
  if x3 = x1 then
    if (0 : Int) ≤ x2 ∧ x2 < 2 then some (.inl (some (.inl x2)), s) else none
  else
    if x2 = 0 then
      if (0 : Int) ≤ x3 ∧ x3 < 500 then
        if (0 : Int) ≤ x1 ∧ x1 < 500 then
          if (s.2 47 x3) = (s.2 47 x1) then
            cm_bi (run 266 [.inr (.inl 41), .inl x3, .inl x1] s) fun z1 s1 =>
              if z1 = 0 then
                if (0 : Int) ≤ x3 ∧ x3 < 500 then
                  X 11 [some (.inr (.inl 41)), some (.inl x1), some (.inl 0), some (.inl (s1.2 51 x3))] [] s1
                else none
              else
                if (0 : Int) ≤ x3 ∧ x3 < 500 then
                  X 11 [some (.inr (.inl 41)), some (.inl x1), some (.inl 1), some (.inl (s1.2 51 x3))] [] s1
                else none
          else
            if (0 : Int) ≤ x3 ∧ x3 < 500 then
              X 11 [some (.inr (.inl 41)), some (.inl x1), some (.inl 0), some (.inl (s.2 51 x3))] [] s
            else none
        else none
      else none
    else
      if (0 : Int) ≤ x3 ∧ x3 < 500 then
        X 11 [some (.inr (.inl 41)), some (.inl x1), some (.inl 1), some (.inl (s.2 51 x3))] [] s
      else none
set_option maxRecDepth 100000 in
theorem cE_265_11 (run : cm_RN) (x1 : Int) (x2 : Int) (x3 : Int) (s : cm_S) : cm_lp run cm_k265 11 [some (.inr (.inl 41)), some (.inl x1), some (.inl x2), some (.inl x3)] [] s = cF_265_11 run (cm_lp run cm_k265) x1 x2 x3 s := (cm_lp_eq run cm_k265 11 _ _ s).trans rfl
/-- ScriptFrontModel.alike, from 0 on -/
def cF_266_0 (run : cm_RN) (X : cm_X) (x1 : Int) (x2 : Int) (s : cm_S) : Option cm_R :=
  if (0 : Int) ≤ x1 ∧ x1 < 500 then
    if (0 : Int) ≤ x2 ∧ x2 < 500 then
      if (s.2 49 x1) = (s.2 49 x2) then
        X 16 [some (.inr (.inl 41)), some (.inl x1), some (.inl x2), some (.inl 1), some (.inl 0)] [] s
      else
        X 16 [some (.inr (.inl 41)), some (.inl x1), some (.inl x2), some (.inl 0), some (.inl 0)] [] s
    else none
  else none
set_option maxRecDepth 100000 in
theorem cE_266_0 (run : cm_RN) (x1 : Int) (x2 : Int) (s : cm_S) : cm_lp run cm_k266 0 [some (.inr (.inl 41)), some (.inl x1), some (.inl x2), none, none] [] s = cF_266_0 run (cm_lp run cm_k266) x1 x2 s := (cm_lp_eq run cm_k266 0 _ _ s).trans rfl
/-- ScriptFrontModel.alike, from 15 on -/
def cF_266_16 (run : cm_RN) (X : cm_X) (x1 : Int) (x2 : Int) (x3 : Int) (x4 : Int) (s : cm_S) : Option cm_R :=
  if x3 = 0 then
    if (0 : Int) ≤ x3 ∧ x3 < 2 then some (.inl (some (.inl x3)), s) else none
  else
    if (0 : Int) ≤ x1 ∧ x1 < 500 then
      if x4 < (s.2 49 x1) then
        if (0 : Int) ≤ x1 ∧ x1 < 500 then
          if (0 : Int) ≤ (cm_w ((s.2 48 x1) + x4)) ∧ (cm_w ((s.2 48 x1) + x4)) < 480 then
            if (0 : Int) ≤ x2 ∧ x2 < 500 then
              if (0 : Int) ≤ (cm_w ((s.2 48 x2) + x4)) ∧ (cm_w ((s.2 48 x2) + x4)) < 480 then
                if (s.2 46 (cm_w ((s.2 48 x1) + x4))) = (s.2 46 (cm_w ((s.2 48 x2) + x4))) then
                  X 16 [some (.inr (.inl 41)), some (.inl x1), some (.inl x2), some (.inl 1), some (.inl (cm_w (x4 + 1)))] [] s
                else
                  X 16 [some (.inr (.inl 41)), some (.inl x1), some (.inl x2), some (.inl 0), some (.inl (cm_w (x4 + 1)))] [] s
              else none
            else none
          else none
        else none
      else
        if (0 : Int) ≤ x3 ∧ x3 < 2 then some (.inl (some (.inl x3)), s) else none
    else none
set_option maxRecDepth 100000 in
theorem cE_266_16 (run : cm_RN) (x1 : Int) (x2 : Int) (x3 : Int) (x4 : Int) (s : cm_S) : cm_lp run cm_k266 16 [some (.inr (.inl 41)), some (.inl x1), some (.inl x2), some (.inl x3), some (.inl x4)] [] s = cF_266_16 run (cm_lp run cm_k266) x1 x2 x3 x4 s := (cm_lp_eq run cm_k266 16 _ _ s).trans rfl
/-- ScriptFrontModel.jumpsWrong, from 0 on -/
def cF_267_0 (run : cm_RN) (X : cm_X) (x1 : Int) (s : cm_S) : Option cm_R :=
  if (0 : Int) ≤ x1 ∧ x1 < 500 then
    if (s.2 47 x1) = 11 then
      cm_bi (run 268 [.inr (.inl 41), .inl x1] s) fun z1 s1 =>
        if z1 = 0 then
          some (.inl (some (.inl 1)), s1)
        else
          some (.inl (some (.inl 0)), s1)
    else
      if (s.2 47 x1) = 12 then
        cm_bi (run 268 [.inr (.inl 41), .inl x1] s) fun z2 s2 =>
          if z2 = 0 then
            some (.inl (some (.inl 1)), s2)
          else
            some (.inl (some (.inl 0)), s2)
      else
        if (s.2 47 x1) = 15 then
          if (0 : Int) ≤ x1 ∧ x1 < 500 then
            if (0 : Int) ≤ (s.2 50 x1) ∧ (s.2 50 x1) < 500 then
              if (s.2 47 (s.2 50 x1)) = 21 then
                if (0 : Int) ≤ x1 ∧ x1 < 500 then
                  if (0 : Int) ≤ (s.2 52 x1) ∧ (s.2 52 x1) < 500 then
                    X 42 [some (.inr (.inl 41)), some (.inl x1), some (.inl (s.2 47 x1)), some (.inl 0), some (.inl (s.2 50 (s.2 52 x1)))] [] s
                  else none
                else none
              else
                if (s.2 47 x1) = 13 then
                  if (0 : Int) ≤ x1 ∧ x1 < 500 then
                    X 84 [some (.inr (.inl 41)), some (.inl x1), some (.inl (s.2 47 x1)), some (.inl 0), some (.inl (s.2 52 x1))] [] s
                  else none
                else
                  if (s.2 47 x1) = 16 then
                    if (0 : Int) ≤ x1 ∧ x1 < 500 then
                      X 84 [some (.inr (.inl 41)), some (.inl x1), some (.inl (s.2 47 x1)), some (.inl 0), some (.inl (s.2 52 x1))] [] s
                    else none
                  else
                    some (.inl (some (.inl 0)), s)
            else none
          else none
        else
          if (s.2 47 x1) = 13 then
            if (0 : Int) ≤ x1 ∧ x1 < 500 then
              X 84 [some (.inr (.inl 41)), some (.inl x1), some (.inl (s.2 47 x1)), some (.inl 0), some (.inl (s.2 52 x1))] [] s
            else none
          else
            if (s.2 47 x1) = 16 then
              if (0 : Int) ≤ x1 ∧ x1 < 500 then
                X 84 [some (.inr (.inl 41)), some (.inl x1), some (.inl (s.2 47 x1)), some (.inl 0), some (.inl (s.2 52 x1))] [] s
              else none
            else
              some (.inl (some (.inl 0)), s)
  else none
set_option maxRecDepth 100000 in
theorem cE_267_0 (run : cm_RN) (x1 : Int) (s : cm_S) : cm_lp run cm_k267 0 [some (.inr (.inl 41)), some (.inl x1), none, none, none] [] s = cF_267_0 run (cm_lp run cm_k267) x1 s := (cm_lp_eq run cm_k267 0 _ _ s).trans rfl
/-- ScriptFrontModel.jumpsWrong, from 41 on -/
def cF_267_42 (run : cm_RN) (X : cm_X) (x1 : Int) (x2 : Int) (x3 : Int) (x4 : Int) (s : cm_S) : Option cm_R :=
  if x4 = x1 then
    if x2 = 13 then
      if (0 : Int) ≤ x1 ∧ x1 < 500 then
        X 84 [some (.inr (.inl 41)), some (.inl x1), some (.inl x2), some (.inl x3), some (.inl (s.2 52 x1))] [] s
      else none
    else
      if x2 = 16 then
        if (0 : Int) ≤ x1 ∧ x1 < 500 then
          X 84 [some (.inr (.inl 41)), some (.inl x1), some (.inl x2), some (.inl x3), some (.inl (s.2 52 x1))] [] s
        else none
      else
        if (0 : Int) ≤ x3 ∧ x3 < 2 then some (.inl (some (.inl x3)), s) else none
  else
    if x3 = 0 then
      if (0 : Int) ≤ x4 ∧ x4 < 500 then
        if (s.2 47 x4) = 15 then
          if (0 : Int) ≤ x4 ∧ x4 < 500 then
            if (0 : Int) ≤ (s.2 50 x4) ∧ (s.2 50 x4) < 500 then
              if (s.2 47 (s.2 50 x4)) = 21 then
                if (0 : Int) ≤ x4 ∧ x4 < 500 then
                  X 42 [some (.inr (.inl 41)), some (.inl x1), some (.inl x2), some (.inl 1), some (.inl (s.2 51 x4))] [] s
                else none
              else
                if (0 : Int) ≤ x4 ∧ x4 < 500 then
                  X 42 [some (.inr (.inl 41)), some (.inl x1), some (.inl x2), some (.inl 0), some (.inl (s.2 51 x4))] [] s
                else none
            else none
          else none
        else
          if (0 : Int) ≤ x4 ∧ x4 < 500 then
            X 42 [some (.inr (.inl 41)), some (.inl x1), some (.inl x2), some (.inl 0), some (.inl (s.2 51 x4))] [] s
          else none
      else none
    else
      if (0 : Int) ≤ x4 ∧ x4 < 500 then
        X 42 [some (.inr (.inl 41)), some (.inl x1), some (.inl x2), some (.inl 1), some (.inl (s.2 51 x4))] [] s
      else none
set_option maxRecDepth 100000 in
theorem cE_267_42 (run : cm_RN) (x1 : Int) (x2 : Int) (x3 : Int) (x4 : Int) (s : cm_S) : cm_lp run cm_k267 42 [some (.inr (.inl 41)), some (.inl x1), some (.inl x2), some (.inl x3), some (.inl x4)] [] s = cF_267_42 run (cm_lp run cm_k267) x1 x2 x3 x4 s := (cm_lp_eq run cm_k267 42 _ _ s).trans rfl
/-- ScriptFrontModel.jumpsWrong, from 82 on -/
def cF_267_84 (run : cm_RN) (X : cm_X) (x1 : Int) (x2 : Int) (x3 : Int) (x4 : Int) (s : cm_S) : Option cm_R :=
  if (0 : Int) ≤ x4 ∧ x4 < 500 then
    if (s.2 47 x4) = 23 then
      if x3 = 0 then
        if x2 = 13 then
          if (0 : Int) ≤ x4 ∧ x4 < 500 then
            if (s.2 47 x4) = 0 then
              some (.inl (some (.inl 1)), s)
            else
              some (.inl (some (.inl 0)), s)
          else none
        else
          some (.inl (some (.inl 0)), s)
      else
        some (.inl (some (.inl 1)), s)
    else
      if (0 : Int) ≤ x4 ∧ x4 < 500 then
        if (s.2 47 x4) = 0 then
          if x3 = 0 then
            if x2 = 13 then
              if (0 : Int) ≤ x4 ∧ x4 < 500 then
                if (s.2 47 x4) = 0 then
                  some (.inl (some (.inl 1)), s)
                else
                  some (.inl (some (.inl 0)), s)
              else none
            else
              some (.inl (some (.inl 0)), s)
          else
            some (.inl (some (.inl 1)), s)
        else
          if x3 = 0 then
            if x2 = 16 then
              if (0 : Int) ≤ x4 ∧ x4 < 500 then
                if (s.2 47 x4) = 16 then
                  cm_bi (run 266 [.inr (.inl 41), .inl x4, .inl x1] s) fun z1 s1 =>
                    if z1 = 0 then
                      if (0 : Int) ≤ x4 ∧ x4 < 500 then
                        X 84 [some (.inr (.inl 41)), some (.inl x1), some (.inl x2), some (.inl 0), some (.inl (s1.2 52 x4))] [] s1
                      else none
                    else
                      if (0 : Int) ≤ x4 ∧ x4 < 500 then
                        X 84 [some (.inr (.inl 41)), some (.inl x1), some (.inl x2), some (.inl 1), some (.inl (s1.2 52 x4))] [] s1
                      else none
                else
                  if (0 : Int) ≤ x4 ∧ x4 < 500 then
                    X 84 [some (.inr (.inl 41)), some (.inl x1), some (.inl x2), some (.inl 0), some (.inl (s.2 52 x4))] [] s
                  else none
              else none
            else
              if (0 : Int) ≤ x4 ∧ x4 < 500 then
                X 84 [some (.inr (.inl 41)), some (.inl x1), some (.inl x2), some (.inl 0), some (.inl (s.2 52 x4))] [] s
              else none
          else
            if (0 : Int) ≤ x4 ∧ x4 < 500 then
              X 84 [some (.inr (.inl 41)), some (.inl x1), some (.inl x2), some (.inl 1), some (.inl (s.2 52 x4))] [] s
            else none
      else none
  else none
set_option maxRecDepth 100000 in
theorem cE_267_84 (run : cm_RN) (x1 : Int) (x2 : Int) (x3 : Int) (x4 : Int) (s : cm_S) : cm_lp run cm_k267 84 [some (.inr (.inl 41)), some (.inl x1), some (.inl x2), some (.inl x3), some (.inl x4)] [] s = cF_267_84 run (cm_lp run cm_k267) x1 x2 x3 x4 s := (cm_lp_eq run cm_k267 84 _ _ s).trans rfl
/-- ScriptFrontModel.lands, from 0 on -/
def cF_268_0 (run : cm_RN) (X : cm_X) (x1 : Int) (s : cm_S) : Option cm_R :=
  if (0 : Int) ≤ x1 ∧ x1 < 500 then
    if (s.2 47 x1) = 11 then
      if (0 : Int) ≤ x1 ∧ x1 < 500 then
        X 16 [some (.inr (.inl 41)), some (.inl x1), some (.inl 1), some (.inl (s.2 52 x1)), none] [] s
      else none
    else
      if (0 : Int) ≤ x1 ∧ x1 < 500 then
        X 16 [some (.inr (.inl 41)), some (.inl x1), some (.inl 0), some (.inl (s.2 52 x1)), none] [] s
      else none
  else none
set_option maxRecDepth 100000 in
theorem cE_268_0 (run : cm_RN) (x1 : Int) (s : cm_S) : cm_lp run cm_k268 0 [some (.inr (.inl 41)), some (.inl x1), none, none, none] [] s = cF_268_0 run (cm_lp run cm_k268) x1 s := (cm_lp_eq run cm_k268 0 _ _ s).trans rfl
/-- ScriptFrontModel.lands, from 15 on -/
def cF_268_16 (run : cm_RN) (X : cm_X) (x1 : Int) (x2 : Int) (x3 : Int) (o4 : Option cm_V) (s : cm_S) : Option cm_R :=
  if (0 : Int) ≤ x3 ∧ x3 < 500 then
    if (s.2 47 x3) = 23 then
      some (.inl (some (.inl 0)), s)
    else
      if (0 : Int) ≤ x3 ∧ x3 < 500 then
        if (s.2 47 x3) = 0 then
          some (.inl (some (.inl 0)), s)
        else
          if (0 : Int) ≤ x1 ∧ x1 < 500 then
            if (s.2 49 x1) = 0 then
              if (0 : Int) ≤ x3 ∧ x3 < 500 then
                cm_bi (run 269 [.inl (s.2 47 x3)] s) fun z1 s1 =>
                  if z1 = 0 then
                    if x2 = 0 then
                      if (0 : Int) ≤ x3 ∧ x3 < 500 then
                        if (s1.2 47 x3) = 14 then
                          some (.inl (some (.inl 1)), s1)
                        else
                          if (0 : Int) ≤ x1 ∧ x1 < 500 then
                            if 0 < (s1.2 49 x1) then
                              if (0 : Int) ≤ x3 ∧ x3 < 500 then
                                if (s1.2 47 x3) = 16 then
                                  cm_bi (run 266 [.inr (.inl 41), .inl x3, .inl x1] s1) fun z2 s2 =>
                                    if z2 = 0 then
                                      if (0 : Int) ≤ x3 ∧ x3 < 500 then
                                        X 16 [some (.inr (.inl 41)), some (.inl x1), some (.inl x2), some (.inl (s2.2 52 x3)), o4] [] s2
                                      else none
                                    else
                                      if (0 : Int) ≤ x3 ∧ x3 < 500 then
                                        X 70 [some (.inr (.inl 41)), some (.inl x1), some (.inl x2), some (.inl x3), some (.inl (s2.2 50 x3))] [] s2
                                      else none
                                else
                                  if (0 : Int) ≤ x3 ∧ x3 < 500 then
                                    X 16 [some (.inr (.inl 41)), some (.inl x1), some (.inl x2), some (.inl (s1.2 52 x3)), o4] [] s1
                                  else none
                              else none
                            else
                              if (0 : Int) ≤ x3 ∧ x3 < 500 then
                                X 16 [some (.inr (.inl 41)), some (.inl x1), some (.inl x2), some (.inl (s1.2 52 x3)), o4] [] s1
                              else none
                          else none
                      else none
                    else
                      if (0 : Int) ≤ x1 ∧ x1 < 500 then
                        if 0 < (s1.2 49 x1) then
                          if (0 : Int) ≤ x3 ∧ x3 < 500 then
                            if (s1.2 47 x3) = 16 then
                              cm_bi (run 266 [.inr (.inl 41), .inl x3, .inl x1] s1) fun z3 s3 =>
                                if z3 = 0 then
                                  if (0 : Int) ≤ x3 ∧ x3 < 500 then
                                    X 16 [some (.inr (.inl 41)), some (.inl x1), some (.inl x2), some (.inl (s3.2 52 x3)), o4] [] s3
                                  else none
                                else
                                  if (0 : Int) ≤ x3 ∧ x3 < 500 then
                                    X 70 [some (.inr (.inl 41)), some (.inl x1), some (.inl x2), some (.inl x3), some (.inl (s3.2 50 x3))] [] s3
                                  else none
                            else
                              if (0 : Int) ≤ x3 ∧ x3 < 500 then
                                X 16 [some (.inr (.inl 41)), some (.inl x1), some (.inl x2), some (.inl (s1.2 52 x3)), o4] [] s1
                              else none
                          else none
                        else
                          if (0 : Int) ≤ x3 ∧ x3 < 500 then
                            X 16 [some (.inr (.inl 41)), some (.inl x1), some (.inl x2), some (.inl (s1.2 52 x3)), o4] [] s1
                          else none
                      else none
                  else
                    some (.inl (some (.inl 1)), s1)
              else none
            else
              if (0 : Int) ≤ x1 ∧ x1 < 500 then
                if 0 < (s.2 49 x1) then
                  if (0 : Int) ≤ x3 ∧ x3 < 500 then
                    if (s.2 47 x3) = 16 then
                      cm_bi (run 266 [.inr (.inl 41), .inl x3, .inl x1] s) fun z4 s4 =>
                        if z4 = 0 then
                          if (0 : Int) ≤ x3 ∧ x3 < 500 then
                            X 16 [some (.inr (.inl 41)), some (.inl x1), some (.inl x2), some (.inl (s4.2 52 x3)), o4] [] s4
                          else none
                        else
                          if (0 : Int) ≤ x3 ∧ x3 < 500 then
                            X 70 [some (.inr (.inl 41)), some (.inl x1), some (.inl x2), some (.inl x3), some (.inl (s4.2 50 x3))] [] s4
                          else none
                    else
                      if (0 : Int) ≤ x3 ∧ x3 < 500 then
                        X 16 [some (.inr (.inl 41)), some (.inl x1), some (.inl x2), some (.inl (s.2 52 x3)), o4] [] s
                      else none
                  else none
                else
                  if (0 : Int) ≤ x3 ∧ x3 < 500 then
                    X 16 [some (.inr (.inl 41)), some (.inl x1), some (.inl x2), some (.inl (s.2 52 x3)), o4] [] s
                  else none
              else none
          else none
      else none
  else none
set_option maxRecDepth 100000 in
theorem cE_268_16 (run : cm_RN) (x1 : Int) (x2 : Int) (x3 : Int) (o4 : Option cm_V) (s : cm_S) : cm_lp run cm_k268 16 [some (.inr (.inl 41)), some (.inl x1), some (.inl x2), some (.inl x3), o4] [] s = cF_268_16 run (cm_lp run cm_k268) x1 x2 x3 o4 s := (cm_lp_eq run cm_k268 16 _ _ s).trans rfl
/-- ScriptFrontModel.lands, from 68 on -/
def cF_268_70 (run : cm_RN) (X : cm_X) (o1 : Option cm_V) (x2 : Int) (o3 : Option cm_V) (x4 : Int) (s : cm_S) : Option cm_R :=
  if (0 : Int) ≤ x4 ∧ x4 < 500 then
    if (s.2 47 x4) = 16 then
      if (0 : Int) ≤ x4 ∧ x4 < 500 then
        X 70 [some (.inr (.inl 41)), o1, some (.inl x2), o3, some (.inl (s.2 50 x4))] [] s
      else none
    else
      if x2 = 0 then
        some (.inl (some (.inl 1)), s)
      else
        if (0 : Int) ≤ x4 ∧ x4 < 500 then
          cm_bi (run 269 [.inl (s.2 47 x4)] s) fun z1 s1 =>
            if z1 = 0 then
              some (.inl (some (.inl 0)), s1)
            else
              some (.inl (some (.inl 1)), s1)
        else none
  else none
set_option maxRecDepth 100000 in
theorem cE_268_70 (run : cm_RN) (o1 : Option cm_V) (x2 : Int) (o3 : Option cm_V) (x4 : Int) (s : cm_S) : cm_lp run cm_k268 70 [some (.inr (.inl 41)), o1, some (.inl x2), o3, some (.inl x4)] [] s = cF_268_70 run (cm_lp run cm_k268) o1 x2 o3 x4 s := (cm_lp_eq run cm_k268 70 _ _ s).trans rfl
/-- ScriptFrontModel.loops, from 0 on -/
def cF_269_0 (run : cm_RN) (X : cm_X) (x0 : Int) (s : cm_S) : Option cm_R :=
  if x0 < 7 then
    some (.inl (some (.inl 0)), s)
  else
    if 10 < x0 then
      some (.inl (some (.inl 0)), s)
    else
      some (.inl (some (.inl 1)), s)
set_option maxRecDepth 100000 in
theorem cE_269_0 (run : cm_RN) (x0 : Int) (s : cm_S) : cm_lp run cm_k269 0 [some (.inl x0)] [] s = cF_269_0 run (cm_lp run cm_k269) x0 s := (cm_lp_eq run cm_k269 0 _ _ s).trans rfl
/-- ScriptFrontModel.print, from 0 on -/
def cF_270_0 (run : cm_RN) (X : cm_X) (x1 : Int) (s : cm_S) : Option cm_R :=
  if (0 : Int) ≤ x1 ∧ x1 < 500 then
    cm_bv (run 271 [.inr (.inl 41), .inl 5, .inl (s.2 50 x1), .inl 0] (cm_p (cm_p (cm_p (cm_p s 4148 0) 4153 0) 4154 0) 4149 0)) fun s1 =>
      X 21 [some (.inr (.inl 41)), some (.inl x1), none, none, none] [] s1
  else none
set_option maxRecDepth 100000 in
theorem cE_270_0 (run : cm_RN) (x1 : Int) (s : cm_S) : cm_lp run cm_k270 0 [some (.inr (.inl 41)), some (.inl x1), none, none, none] [] s = cF_270_0 run (cm_lp run cm_k270) x1 s := (cm_lp_eq run cm_k270 0 _ _ s).trans rfl
/-- ScriptFrontModel.print, from 20 on -/
def cF_270_21 (run : cm_RN) (X : cm_X) (o1 : Option cm_V) (o2 : Option cm_V) (o3 : Option cm_V) (o4 : Option cm_V) (s : cm_S) : Option cm_R :=
  if 0 < (s.1 4149) then
    if (0 : Int) ≤ (cm_w ((s.1 4149) - 1)) ∧ (cm_w ((s.1 4149) - 1)) < 1000 then
      if (0 : Int) ≤ (cm_w ((s.1 4149) - 1)) ∧ (cm_w ((s.1 4149) - 1)) < 1000 then
        if (0 : Int) ≤ (cm_w ((s.1 4149) - 1)) ∧ (cm_w ((s.1 4149) - 1)) < 1000 then
          if (s.2 69 (cm_w ((s.1 4149) - 1))) = 1 then
            cm_bv (run 272 [.inr (.inl 41), .inl (s.2 70 (cm_w ((s.1 4149) - 1)))] (cm_p s 4149 (cm_w ((s.1 4149) - 1)))) fun s1 =>
              X 21 [some (.inr (.inl 41)), o1, some (.inl (s.2 70 (cm_w ((s.1 4149) - 1)))), some (.inl (s.2 71 (cm_w ((s.1 4149) - 1)))), some (.inl (s.2 69 (cm_w ((s.1 4149) - 1))))] [] s1
          else if (s.2 69 (cm_w ((s.1 4149) - 1))) = 2 then
            cm_bv (run 275 [.inr (.inl 41), .inl (s.2 70 (cm_w ((s.1 4149) - 1)))] (cm_p s 4149 (cm_w ((s.1 4149) - 1)))) fun s2 =>
              X 21 [some (.inr (.inl 41)), o1, some (.inl (s.2 70 (cm_w ((s.1 4149) - 1)))), some (.inl (s.2 71 (cm_w ((s.1 4149) - 1)))), some (.inl (s.2 69 (cm_w ((s.1 4149) - 1))))] [] s2
          else if (s.2 69 (cm_w ((s.1 4149) - 1))) = 3 then
            cm_bv (run 276 [.inr (.inl 41), .inl (s.2 70 (cm_w ((s.1 4149) - 1))), .inl (s.2 71 (cm_w ((s.1 4149) - 1)))] (cm_p s 4149 (cm_w ((s.1 4149) - 1)))) fun s3 =>
              X 21 [some (.inr (.inl 41)), o1, some (.inl (s.2 70 (cm_w ((s.1 4149) - 1)))), some (.inl (s.2 71 (cm_w ((s.1 4149) - 1)))), some (.inl (s.2 69 (cm_w ((s.1 4149) - 1))))] [] s3
          else if (s.2 69 (cm_w ((s.1 4149) - 1))) = 4 then
            cm_bv (run 285 [.inr (.inl 41), .inl (s.2 70 (cm_w ((s.1 4149) - 1)))] (cm_p s 4149 (cm_w ((s.1 4149) - 1)))) fun s4 =>
              X 21 [some (.inr (.inl 41)), o1, some (.inl (s.2 70 (cm_w ((s.1 4149) - 1)))), some (.inl (s.2 71 (cm_w ((s.1 4149) - 1)))), some (.inl (s.2 69 (cm_w ((s.1 4149) - 1))))] [] s4
          else if (s.2 69 (cm_w ((s.1 4149) - 1))) = 5 then
            if (s.2 70 (cm_w ((s.1 4149) - 1))) = (-1) then
              X 21 [some (.inr (.inl 41)), o1, some (.inl (s.2 70 (cm_w ((s.1 4149) - 1)))), some (.inl (s.2 71 (cm_w ((s.1 4149) - 1)))), some (.inl (s.2 69 (cm_w ((s.1 4149) - 1))))] [] (cm_p s 4149 (cm_w ((s.1 4149) - 1)))
            else
              if (0 : Int) ≤ (s.2 70 (cm_w ((s.1 4149) - 1))) ∧ (s.2 70 (cm_w ((s.1 4149) - 1))) < 500 then
                cm_bv (run 271 [.inr (.inl 41), .inl 5, .inl (s.2 51 (s.2 70 (cm_w ((s.1 4149) - 1)))), .inl 0] (cm_p s 4149 (cm_w ((s.1 4149) - 1)))) fun s5 =>
                  cm_bv (run 271 [.inr (.inl 41), .inl 4, .inl (s.2 70 (cm_w ((s.1 4149) - 1))), .inl 0] s5) fun s6 =>
                    X 21 [some (.inr (.inl 41)), o1, some (.inl (s.2 70 (cm_w ((s.1 4149) - 1)))), some (.inl (s.2 71 (cm_w ((s.1 4149) - 1)))), some (.inl (s.2 69 (cm_w ((s.1 4149) - 1))))] [] s6
              else none
          else if (s.2 69 (cm_w ((s.1 4149) - 1))) = 8 then
            cm_bv (run 282 [.inr (.inl 41), .inl (s.2 70 (cm_w ((s.1 4149) - 1)))] (cm_p s 4149 (cm_w ((s.1 4149) - 1)))) fun s7 =>
              X 21 [some (.inr (.inl 41)), o1, some (.inl (s.2 70 (cm_w ((s.1 4149) - 1)))), some (.inl (s.2 71 (cm_w ((s.1 4149) - 1)))), some (.inl (s.2 69 (cm_w ((s.1 4149) - 1))))] [] s7
          else if (s.2 69 (cm_w ((s.1 4149) - 1))) = 12 then
            cm_bv (run 294 [.inr (.inl 41), .inl (s.2 70 (cm_w ((s.1 4149) - 1)))] (cm_p s 4149 (cm_w ((s.1 4149) - 1)))) fun s8 =>
              X 21 [some (.inr (.inl 41)), o1, some (.inl (s.2 70 (cm_w ((s.1 4149) - 1)))), some (.inl (s.2 71 (cm_w ((s.1 4149) - 1)))), some (.inl (s.2 69 (cm_w ((s.1 4149) - 1))))] [] s8
          else 
            cm_bv (run 295 [.inr (.inl 41), .inl (s.2 69 (cm_w ((s.1 4149) - 1))), .inl (s.2 70 (cm_w ((s.1 4149) - 1))), .inl (s.2 71 (cm_w ((s.1 4149) - 1)))] (cm_p s 4149 (cm_w ((s.1 4149) - 1)))) fun s9 =>
              X 21 [some (.inr (.inl 41)), o1, some (.inl (s.2 70 (cm_w ((s.1 4149) - 1)))), some (.inl (s.2 71 (cm_w ((s.1 4149) - 1)))), some (.inl (s.2 69 (cm_w ((s.1 4149) - 1))))] [] s9
        else none
      else none
    else none
  else
    some (.inl none, s)
set_option maxRecDepth 100000 in
theorem cE_270_21 (run : cm_RN) (o1 : Option cm_V) (o2 : Option cm_V) (o3 : Option cm_V) (o4 : Option cm_V) (s : cm_S) : cm_lp run cm_k270 21 [some (.inr (.inl 41)), o1, o2, o3, o4] [] s = cF_270_21 run (cm_lp run cm_k270) o1 o2 o3 o4 s := (cm_lp_eq run cm_k270 21 _ _ s).trans rfl
/-- ScriptFrontModel.plan, from 0 on -/
def cF_271_0 (run : cm_RN) (X : cm_X) (x1 : Int) (x2 : Int) (x3 : Int) (s : cm_S) : Option cm_R :=
  if (0 : Int) ≤ (s.1 4149) ∧ (s.1 4149) < 1000 then
    (if (0 : Int) ≤ (s.1 4149) ∧ (s.1 4149) < 1000 then
      (if (0 : Int) ≤ (s.1 4149) ∧ (s.1 4149) < 1000 then
        (some (.inl none, (cm_p (cm_q (cm_q (cm_q s 69 (s.1 4149) x1) 70 (s.1 4149) x2) 71 (s.1 4149) x3) 4149 (cm_w ((s.1 4149) + 1)))))
      else none)
    else none)
  else none
set_option maxRecDepth 100000 in
theorem cE_271_0 (run : cm_RN) (x1 : Int) (x2 : Int) (x3 : Int) (s : cm_S) : cm_lp run cm_k271 0 [some (.inr (.inl 41)), some (.inl x1), some (.inl x2), some (.inl x3)] [] s = cF_271_0 run (cm_lp run cm_k271) x1 x2 x3 s := (cm_lp_eq run cm_k271 0 _ _ s).trans rfl
/-- ScriptFrontModel.printSign, from 0 on -/
def cF_272_0 (run : cm_RN) (X : cm_X) (x1 : Int) (s : cm_S) : Option cm_R :=
  cm_bi (run 197 [.inl x1] s) fun z1 s1 =>
    cm_bv (run 273 [.inr (.inl 41), .inl (cm_and (cm_shr x1 (cm_w (8 * (cm_w (z1 - 1))))) 255)] s1) fun s2 =>
      X 19 [some (.inr (.inl 41)), some (.inl x1), some (.inl z1), some (.inl (cm_w (z1 - 1)))] [] s2
set_option maxRecDepth 100000 in
theorem cE_272_0 (run : cm_RN) (x1 : Int) (s : cm_S) : cm_lp run cm_k272 0 [some (.inr (.inl 41)), some (.inl x1), none, none] [] s = cF_272_0 run (cm_lp run cm_k272) x1 s := (cm_lp_eq run cm_k272 0 _ _ s).trans rfl
/-- ScriptFrontModel.printSign, from 18 on -/
def cF_272_19 (run : cm_RN) (X : cm_X) (x1 : Int) (o2 : Option cm_V) (x3 : Int) (s : cm_S) : Option cm_R :=
  if x3 < 0 then
    some (.inl none, (cm_p s 4154 x1))
  else
    cm_bv (run 274 [.inr (.inl 41), .inl (cm_and (cm_shr x1 (cm_w (8 * x3))) 255)] s) fun s1 =>
      X 19 [some (.inr (.inl 41)), some (.inl x1), o2, some (.inl (cm_w (x3 + (-1))))] [] s1
set_option maxRecDepth 100000 in
theorem cE_272_19 (run : cm_RN) (x1 : Int) (o2 : Option cm_V) (x3 : Int) (s : cm_S) : cm_lp run cm_k272 19 [some (.inr (.inl 41)), some (.inl x1), o2, some (.inl x3)] [] s = cF_272_19 run (cm_lp run cm_k272) x1 o2 x3 s := (cm_lp_eq run cm_k272 19 _ _ s).trans rfl
/-- ScriptFrontModel.part, from 0 on -/
def cF_273_0 (run : cm_RN) (X : cm_X) (x1 : Int) (s : cm_S) : Option cm_R :=
  cm_bi (run 187 [.inl x1] s) fun z1 s1 =>
    if z1 = 0 then
      if (s1.1 4153) = x1 then
        if x1 = 43 then
          cm_bv (run 274 [.inr (.inl 41), .inl 32] s1) fun s2 =>
            some (.inl none, s2)
        else
          if x1 = 45 then
            cm_bv (run 274 [.inr (.inl 41), .inl 32] s1) fun s3 =>
              some (.inl none, s3)
          else
            if x1 = 47 then
              cm_bv (run 274 [.inr (.inl 41), .inl 32] s1) fun s4 =>
                some (.inl none, s4)
            else
              some (.inl none, s1)
      else
        some (.inl none, s1)
    else
      cm_bi (run 187 [.inl (s1.1 4153)] s1) fun z5 s5 =>
        if z5 = 0 then
          if (s5.1 4154) = 2 then
            cm_bv (run 274 [.inr (.inl 41), .inl 32] s5) fun s6 =>
              some (.inl none, s6)
          else
            if (s5.1 4154) = 4 then
              cm_bv (run 274 [.inr (.inl 41), .inl 32] s5) fun s7 =>
                some (.inl none, s7)
            else
              if (s5.1 4153) = x1 then
                if x1 = 43 then
                  cm_bv (run 274 [.inr (.inl 41), .inl 32] s5) fun s8 =>
                    some (.inl none, s8)
                else
                  if x1 = 45 then
                    cm_bv (run 274 [.inr (.inl 41), .inl 32] s5) fun s9 =>
                      some (.inl none, s9)
                  else
                    if x1 = 47 then
                      cm_bv (run 274 [.inr (.inl 41), .inl 32] s5) fun s10 =>
                        some (.inl none, s10)
                    else
                      some (.inl none, s5)
              else
                some (.inl none, s5)
        else
          cm_bv (run 274 [.inr (.inl 41), .inl 32] s5) fun s11 =>
            some (.inl none, s11)
set_option maxRecDepth 100000 in
theorem cE_273_0 (run : cm_RN) (x1 : Int) (s : cm_S) : cm_lp run cm_k273 0 [some (.inr (.inl 41)), some (.inl x1), none] [] s = cF_273_0 run (cm_lp run cm_k273) x1 s := (cm_lp_eq run cm_k273 0 _ _ s).trans rfl
/-- ScriptFrontModel.letter, from 0 on -/
def cF_274_0 (run : cm_RN) (X : cm_X) (x1 : Int) (s : cm_S) : Option cm_R :=
  if (-128) ≤ x1 ∧ x1 < 128 then
    if (0 : Int) ≤ (s.1 4148) ∧ (s.1 4148) < 1500 then
      (if (-128) ≤ x1 ∧ x1 < 128 then
        some (.inl none, (cm_p (cm_p (cm_q s 68 (s.1 4148) x1) 4148 (cm_w ((s.1 4148) + 1))) 4153 x1))
      else none)
    else none
  else none
set_option maxRecDepth 100000 in
theorem cE_274_0 (run : cm_RN) (x1 : Int) (s : cm_S) : cm_lp run cm_k274 0 [some (.inr (.inl 41)), some (.inl x1)] [] s = cF_274_0 run (cm_lp run cm_k274) x1 s := (cm_lp_eq run cm_k274 0 _ _ s).trans rfl
/-- ScriptFrontModel.printWord, from 0 on -/
def cF_275_0 (run : cm_RN) (X : cm_X) (x1 : Int) (s : cm_S) : Option cm_R :=
  X 3 [some (.inr (.inl 41)), some (.inl x1), some (.inl 0), none, none] [] s
set_option maxRecDepth 100000 in
theorem cE_275_0 (run : cm_RN) (x1 : Int) (s : cm_S) : cm_lp run cm_k275 0 [some (.inr (.inl 41)), some (.inl x1), none, none, none] [] s = cF_275_0 run (cm_lp run cm_k275) x1 s := (cm_lp_eq run cm_k275 0 _ _ s).trans rfl
/-- ScriptFrontModel.printWord, from 2 on -/
def cF_275_3 (run : cm_RN) (X : cm_X) (x1 : Int) (x2 : Int) (o3 : Option cm_V) (o4 : Option cm_V) (s : cm_S) : Option cm_R :=
  if (0 : Int) ≤ x1 ∧ x1 < 27 then
    if 0 < (if (cm_lshr (cm_kr 42 x1) (cm_w (5 * x2))) < 0 then (-1 : Int) else if (cm_lshr (cm_kr 42 x1) (cm_w (5 * x2))) = 0 then 0 else 1) then
      X 3 [some (.inr (.inl 41)), some (.inl x1), some (.inl (cm_w (x2 + 1))), o3, o4] [] s
    else
      X 21 [some (.inr (.inl 41)), some (.inl x1), some (.inl x2), some (.inl (cm_w (x2 - 1))), o4] [] s
  else none
set_option maxRecDepth 100000 in
theorem cE_275_3 (run : cm_RN) (x1 : Int) (x2 : Int) (o3 : Option cm_V) (o4 : Option cm_V) (s : cm_S) : cm_lp run cm_k275 3 [some (.inr (.inl 41)), some (.inl x1), some (.inl x2), o3, o4] [] s = cF_275_3 run (cm_lp run cm_k275) x1 x2 o3 o4 s := (cm_lp_eq run cm_k275 3 _ _ s).trans rfl
/-- ScriptFrontModel.printWord, from 19 on -/
def cF_275_21 (run : cm_RN) (X : cm_X) (x1 : Int) (x2 : Int) (x3 : Int) (o4 : Option cm_V) (s : cm_S) : Option cm_R :=
  if x3 < 0 then
    some (.inl none, (cm_p s 4154 (cm_w (1000 + x1))))
  else
    if (0 : Int) ≤ x1 ∧ x1 < 27 then
      if x3 = (cm_w (x2 - 1)) then
        cm_bv (run 273 [.inr (.inl 41), .inl (cm_w (96 + (cm_w (cm_land (cm_lshr (cm_kr 42 x1) (cm_w (5 * x3))) 31))))] s) fun s1 =>
          cm_bv (run 274 [.inr (.inl 41), .inl (cm_w (96 + (cm_w (cm_land (cm_lshr (cm_kr 42 x1) (cm_w (5 * x3))) 31))))] s1) fun s2 =>
            X 21 [some (.inr (.inl 41)), some (.inl x1), some (.inl x2), some (.inl (cm_w (x3 + (-1)))), some (.inl (cm_w (96 + (cm_w (cm_land (cm_lshr (cm_kr 42 x1) (cm_w (5 * x3))) 31)))))] [] s2
      else
        cm_bv (run 274 [.inr (.inl 41), .inl (cm_w (96 + (cm_w (cm_land (cm_lshr (cm_kr 42 x1) (cm_w (5 * x3))) 31))))] s) fun s3 =>
          X 21 [some (.inr (.inl 41)), some (.inl x1), some (.inl x2), some (.inl (cm_w (x3 + (-1)))), some (.inl (cm_w (96 + (cm_w (cm_land (cm_lshr (cm_kr 42 x1) (cm_w (5 * x3))) 31)))))] [] s3
    else none
set_option maxRecDepth 100000 in
theorem cE_275_21 (run : cm_RN) (x1 : Int) (x2 : Int) (x3 : Int) (o4 : Option cm_V) (s : cm_S) : cm_lp run cm_k275 21 [some (.inr (.inl 41)), some (.inl x1), some (.inl x2), some (.inl x3), o4] [] s = cF_275_21 run (cm_lp run cm_k275) x1 x2 x3 o4 s := (cm_lp_eq run cm_k275 21 _ _ s).trans rfl
/-- ScriptFrontModel.printValue, from 0 on -/
def cF_276_0 (run : cm_RN) (X : cm_X) (x1 : Int) (x2 : Int) (s : cm_S) : Option cm_R :=
  if 0 < (cm_and x2 256) then
    if 0 < (cm_and x2 512) then
      cm_bv (run 272 [.inr (.inl 41), .inl 40] s) fun s1 =>
        cm_bv (run 271 [.inr (.inl 41), .inl 1, .inl 41, .inl 0] s1) fun s2 =>
          cm_bv (run 271 [.inr (.inl 41), .inl 3, .inl x1, .inl 0] s2) fun s3 =>
            some (.inl none, s3)
    else
      cm_bi (run 277 [.inr (.inl 41), .inl x1] s) fun z4 s4 =>
        if z4 < (cm_and x2 255) then
          cm_bv (run 272 [.inr (.inl 41), .inl 40] s4) fun s5 =>
            cm_bv (run 271 [.inr (.inl 41), .inl 1, .inl 41, .inl 0] s5) fun s6 =>
              cm_bv (run 271 [.inr (.inl 41), .inl 3, .inl x1, .inl 0] s6) fun s7 =>
                some (.inl none, s7)
        else
          cm_bi (run 279 [.inr (.inl 41), .inl x1] s4) fun z8 s8 =>
            if z8 = 0 then
              if (0 : Int) ≤ x1 ∧ x1 < 500 then
                if (s8.2 47 x1) < 44 then
                  cm_bv (run 280 [.inr (.inl 41), .inl x1] s8) fun s9 =>
                    some (.inl none, s9)
                else
                  cm_bv (run 284 [.inr (.inl 41), .inl x1, .inl (cm_and x2 256)] s8) fun s10 =>
                    some (.inl none, s10)
              else none
            else
              cm_bv (run 272 [.inr (.inl 41), .inl 40] s8) fun s11 =>
                cm_bv (run 271 [.inr (.inl 41), .inl 1, .inl 41, .inl 0] s11) fun s12 =>
                  cm_bv (run 271 [.inr (.inl 41), .inl 3, .inl x1, .inl 0] s12) fun s13 =>
                    some (.inl none, s13)
  else
    if 0 < (cm_and x2 512) then
      cm_bv (run 272 [.inr (.inl 41), .inl 40] s) fun s14 =>
        cm_bv (run 271 [.inr (.inl 41), .inl 1, .inl 41, .inl 0] s14) fun s15 =>
          cm_bv (run 271 [.inr (.inl 41), .inl 3, .inl x1, .inl 0] s15) fun s16 =>
            some (.inl none, s16)
    else
      cm_bi (run 277 [.inr (.inl 41), .inl x1] s) fun z17 s17 =>
        if z17 < (cm_and x2 255) then
          cm_bv (run 272 [.inr (.inl 41), .inl 40] s17) fun s18 =>
            cm_bv (run 271 [.inr (.inl 41), .inl 1, .inl 41, .inl 0] s18) fun s19 =>
              cm_bv (run 271 [.inr (.inl 41), .inl 3, .inl x1, .inl 0] s19) fun s20 =>
                some (.inl none, s20)
        else
          if (0 : Int) ≤ x1 ∧ x1 < 500 then
            if (s17.2 47 x1) < 44 then
              cm_bv (run 280 [.inr (.inl 41), .inl x1] s17) fun s21 =>
                some (.inl none, s21)
            else
              cm_bv (run 284 [.inr (.inl 41), .inl x1, .inl (cm_and x2 256)] s17) fun s22 =>
                some (.inl none, s22)
          else none
set_option maxRecDepth 100000 in
theorem cE_276_0 (run : cm_RN) (x1 : Int) (x2 : Int) (s : cm_S) : cm_lp run cm_k276 0 [some (.inr (.inl 41)), some (.inl x1), some (.inl x2), none] [] s = cF_276_0 run (cm_lp run cm_k276) x1 x2 s := (cm_lp_eq run cm_k276 0 _ _ s).trans rfl
/-- ScriptFrontModel.bind, from 0 on -/
def cF_277_0 (run : cm_RN) (X : cm_X) (x1 : Int) (s : cm_S) : Option cm_R :=
  if (0 : Int) ≤ x1 ∧ x1 < 500 then
    if (s.2 47 x1) = 44 then
      some (.inl (some (.inl 14)), s)
    else if (s.2 47 x1) = 45 then
      some (.inl (some (.inl 13)), s)
    else if (s.2 47 x1) = 46 then
      cm_bi (run 278 [.inr (.inl 41), .inl x1] s) fun z1 s1 =>
        cm_bi (run 237 [.inl z1] s1) fun z2 s2 =>
          some (.inl (some (.inl (cm_w (2 + z2)))), s2)
    else if (s.2 47 x1) = 47 then
      some (.inl (some (.inl 2)), s)
    else if (s.2 47 x1) = 48 then
      some (.inl (some (.inl 1)), s)
    else if (s.2 47 x1) = 49 then
      some (.inl (some (.inl 0)), s)
    else 
      some (.inl (some (.inl 15)), s)
  else none
set_option maxRecDepth 100000 in
theorem cE_277_0 (run : cm_RN) (x1 : Int) (s : cm_S) : cm_lp run cm_k277 0 [some (.inr (.inl 41)), some (.inl x1)] [] s = cF_277_0 run (cm_lp run cm_k277) x1 s := (cm_lp_eq run cm_k277 0 _ _ s).trans rfl
/-- ScriptFrontModel.signOf, from 0 on -/
def cF_278_0 (run : cm_RN) (X : cm_X) (x1 : Int) (s : cm_S) : Option cm_R :=
  if (0 : Int) ≤ x1 ∧ x1 < 500 then
    if (0 : Int) ≤ (s.2 48 x1) ∧ (s.2 48 x1) < 480 then
      if (s.2 46 (s.2 48 x1)) = 105 then
        some (.inl (some (.inl 1013)), s)
      else
        X 16 [some (.inr (.inl 41)), some (.inl x1), some (.inl 0), some (.inl 0)] [] s
    else none
  else none
set_option maxRecDepth 100000 in
theorem cE_278_0 (run : cm_RN) (x1 : Int) (s : cm_S) : cm_lp run cm_k278 0 [some (.inr (.inl 41)), some (.inl x1), none, none] [] s = cF_278_0 run (cm_lp run cm_k278) x1 s := (cm_lp_eq run cm_k278 0 _ _ s).trans rfl
/-- ScriptFrontModel.signOf, from 15 on -/
def cF_278_16 (run : cm_RN) (X : cm_X) (x1 : Int) (x2 : Int) (x3 : Int) (s : cm_S) : Option cm_R :=
  if (0 : Int) ≤ x1 ∧ x1 < 500 then
    if x3 < (s.2 49 x1) then
      if (0 : Int) ≤ x1 ∧ x1 < 500 then
        if (0 : Int) ≤ (cm_w ((s.2 48 x1) + x3)) ∧ (cm_w ((s.2 48 x1) + x3)) < 480 then
          X 16 [some (.inr (.inl 41)), some (.inl x1), some (.inl (cm_or (cm_shl x2 8) (s.2 46 (cm_w ((s.2 48 x1) + x3))))), some (.inl (cm_w (x3 + 1)))] [] s
        else none
      else none
    else
      some (.inl (some (.inl x2)), s)
  else none
set_option maxRecDepth 100000 in
theorem cE_278_16 (run : cm_RN) (x1 : Int) (x2 : Int) (x3 : Int) (s : cm_S) : cm_lp run cm_k278 16 [some (.inr (.inl 41)), some (.inl x1), some (.inl x2), some (.inl x3)] [] s = cF_278_16 run (cm_lp run cm_k278) x1 x2 x3 s := (cm_lp_eq run cm_k278 16 _ _ s).trans rfl
/-- ScriptFrontModel.isIn, from 0 on -/
def cF_279_0 (run : cm_RN) (X : cm_X) (x1 : Int) (s : cm_S) : Option cm_R :=
  if (0 : Int) ≤ x1 ∧ x1 < 500 then
    if (s.2 47 x1) = 46 then
      if (0 : Int) ≤ x1 ∧ x1 < 500 then
        if (0 : Int) ≤ (s.2 48 x1) ∧ (s.2 48 x1) < 480 then
          if (s.2 46 (s.2 48 x1)) = 105 then
            if (0 : Int) ≤ x1 ∧ x1 < 500 then
              if (s.2 49 x1) = 2 then
                some (.inl (some (.inl 1)), s)
              else
                some (.inl (some (.inl 0)), s)
            else none
          else
            some (.inl (some (.inl 0)), s)
        else none
      else none
    else
      some (.inl (some (.inl 0)), s)
  else none
set_option maxRecDepth 100000 in
theorem cE_279_0 (run : cm_RN) (x1 : Int) (s : cm_S) : cm_lp run cm_k279 0 [some (.inr (.inl 41)), some (.inl x1)] [] s = cF_279_0 run (cm_lp run cm_k279) x1 s := (cm_lp_eq run cm_k279 0 _ _ s).trans rfl
/-- ScriptFrontModel.printOperand, from 0 on -/
def cF_280_0 (run : cm_RN) (X : cm_X) (x1 : Int) (s : cm_S) : Option cm_R :=
  if (0 : Int) ≤ x1 ∧ x1 < 500 then
    if (0 : Int) ≤ x1 ∧ x1 < 500 then
      if (s.2 47 x1) = 30 then
        cm_bv (run 275 [.inr (.inl 41), .inl 19] s) fun s1 =>
          some (.inl none, s1)
      else if (s.2 47 x1) = 36 then
        cm_bv (run 272 [.inr (.inl 41), .inl 91] s) fun s2 =>
          cm_bv (run 271 [.inr (.inl 41), .inl 1, .inl 93, .inl 0] s2) fun s3 =>
            cm_bv (run 271 [.inr (.inl 41), .inl 11, .inl (s.2 50 x1), .inl 0] s3) fun s4 =>
              some (.inl none, s4)
      else if (s.2 47 x1) = 37 then
        cm_bv (run 272 [.inr (.inl 41), .inl 123] s) fun s5 =>
          cm_bv (run 271 [.inr (.inl 41), .inl 1, .inl 125, .inl 0] s5) fun s6 =>
            cm_bv (run 271 [.inr (.inl 41), .inl 10, .inl (s.2 50 x1), .inl 0] s6) fun s7 =>
              some (.inl none, s7)
      else if (s.2 47 x1) = 39 then
        cm_bv (run 281 [.inr (.inl 41), .inl x1] s) fun s8 =>
          some (.inl none, s8)
      else if (s.2 47 x1) = 40 then
        cm_bv (run 271 [.inr (.inl 41), .inl 1, .inl 93, .inl 0] s) fun s9 =>
          if (0 : Int) ≤ (s.2 50 x1) ∧ (s.2 50 x1) < 500 then
            cm_bv (run 271 [.inr (.inl 41), .inl 3, .inl (s9.2 51 (s.2 50 x1)), .inl 0] s9) fun s10 =>
              cm_bv (run 271 [.inr (.inl 41), .inl 1, .inl 91, .inl 0] s10) fun s11 =>
                cm_bv (run 271 [.inr (.inl 41), .inl 3, .inl (s.2 50 x1), .inl 15] s11) fun s12 =>
                  some (.inl none, s12)
          else none
      else if (s.2 47 x1) = 41 then
        cm_bv (run 271 [.inr (.inl 41), .inl 8, .inl x1, .inl 0] s) fun s13 =>
          cm_bv (run 271 [.inr (.inl 41), .inl 1, .inl 46, .inl 0] s13) fun s14 =>
            if (0 : Int) ≤ (s.2 50 x1) ∧ (s.2 50 x1) < 500 then
              if (s14.2 47 (s.2 50 x1)) = 33 then
                cm_bv (run 271 [.inr (.inl 41), .inl 3, .inl (s.2 50 x1), .inl 527] s14) fun s15 =>
                  some (.inl none, s15)
              else
                cm_bv (run 271 [.inr (.inl 41), .inl 3, .inl (s.2 50 x1), .inl 15] s14) fun s16 =>
                  some (.inl none, s16)
            else none
      else if (s.2 47 x1) = 42 then
        cm_bv (run 271 [.inr (.inl 41), .inl 1, .inl 41, .inl 0] s) fun s17 =>
          if (0 : Int) ≤ (s.2 50 x1) ∧ (s.2 50 x1) < 500 then
            cm_bv (run 271 [.inr (.inl 41), .inl 6, .inl (s17.2 51 (s.2 50 x1)), .inl 1] s17) fun s18 =>
              cm_bv (run 271 [.inr (.inl 41), .inl 1, .inl 40, .inl 0] s18) fun s19 =>
                if (0 : Int) ≤ x1 ∧ x1 < 500 then
                  if (s19.2 47 x1) = 42 then
                    cm_bi (run 283 [.inr (.inl 41), .inl (s.2 50 x1)] s19) fun z20 s20 =>
                      if z20 = 0 then
                        X 128 [some (.inr (.inl 41)), some (.inl x1), some (.inl (s.2 50 x1))] [.inl (s.2 50 x1), .inl 3, .inr (.inl 41)] s20
                      else
                        cm_bv (run 271 [.inr (.inl 41), .inl 3, .inl (s.2 50 x1), .inl 527] s20) fun s21 =>
                          if (0 : Int) ≤ x1 ∧ x1 < 500 then
                            if (s21.2 47 x1) = 42 then
                              cm_bv (run 275 [.inr (.inl 41), .inl 15] s21) fun s22 =>
                                some (.inl none, s22)
                            else
                              some (.inl none, s21)
                          else none
                  else
                    X 128 [some (.inr (.inl 41)), some (.inl x1), some (.inl (s.2 50 x1))] [.inl (s.2 50 x1), .inl 3, .inr (.inl 41)] s19
                else none
          else none
      else if (s.2 47 x1) = 43 then
        cm_bv (run 271 [.inr (.inl 41), .inl 1, .inl 41, .inl 0] s) fun s23 =>
          if (0 : Int) ≤ (s.2 50 x1) ∧ (s.2 50 x1) < 500 then
            cm_bv (run 271 [.inr (.inl 41), .inl 6, .inl (s23.2 51 (s.2 50 x1)), .inl 1] s23) fun s24 =>
              cm_bv (run 271 [.inr (.inl 41), .inl 1, .inl 40, .inl 0] s24) fun s25 =>
                if (0 : Int) ≤ x1 ∧ x1 < 500 then
                  if (s25.2 47 x1) = 42 then
                    cm_bi (run 283 [.inr (.inl 41), .inl (s.2 50 x1)] s25) fun z26 s26 =>
                      if z26 = 0 then
                        X 128 [some (.inr (.inl 41)), some (.inl x1), some (.inl (s.2 50 x1))] [.inl (s.2 50 x1), .inl 3, .inr (.inl 41)] s26
                      else
                        cm_bv (run 271 [.inr (.inl 41), .inl 3, .inl (s.2 50 x1), .inl 527] s26) fun s27 =>
                          if (0 : Int) ≤ x1 ∧ x1 < 500 then
                            if (s27.2 47 x1) = 42 then
                              cm_bv (run 275 [.inr (.inl 41), .inl 15] s27) fun s28 =>
                                some (.inl none, s28)
                            else
                              some (.inl none, s27)
                          else none
                  else
                    X 128 [some (.inr (.inl 41)), some (.inl x1), some (.inl (s.2 50 x1))] [.inl (s.2 50 x1), .inl 3, .inr (.inl 41)] s25
                else none
          else none
      else 
        cm_bv (run 282 [.inr (.inl 41), .inl x1] s) fun s29 =>
          some (.inl none, s29)
    else none
  else none
set_option maxRecDepth 100000 in
theorem cE_280_0 (run : cm_RN) (x1 : Int) (s : cm_S) : cm_lp run cm_k280 0 [some (.inr (.inl 41)), some (.inl x1), none] [] s = cF_280_0 run (cm_lp run cm_k280) x1 s := (cm_lp_eq run cm_k280 0 _ _ s).trans rfl
/-- ScriptFrontModel.printOperand, from 127 on -/
def cF_280_128 (run : cm_RN) (X : cm_X) (x1 : Int) (o2 : Option cm_V) (y0 : Int) (y1 : Int) (s : cm_S) : Option cm_R :=
  cm_bv (run 271 [.inr (.inl 41), .inl y1, .inl y0, .inl 15] s) fun s1 =>
    if (0 : Int) ≤ x1 ∧ x1 < 500 then
      if (s1.2 47 x1) = 42 then
        cm_bv (run 275 [.inr (.inl 41), .inl 15] s1) fun s2 =>
          some (.inl none, s2)
      else
        some (.inl none, s1)
    else none
set_option maxRecDepth 100000 in
theorem cE_280_128 (run : cm_RN) (x1 : Int) (o2 : Option cm_V) (y0 : Int) (y1 : Int) (s : cm_S) : cm_lp run cm_k280 128 [some (.inr (.inl 41)), some (.inl x1), o2] [.inl y0, .inl y1, .inr (.inl 41)] s = cF_280_128 run (cm_lp run cm_k280) x1 o2 y0 y1 s := (cm_lp_eq run cm_k280 128 _ _ s).trans rfl
/-- ScriptFrontModel.printFunction, from 0 on -/
def cF_281_0 (run : cm_RN) (X : cm_X) (x1 : Int) (s : cm_S) : Option cm_R :=
  cm_bv (run 275 [.inr (.inl 41), .inl 11] s) fun s1 =>
    if (0 : Int) ≤ x1 ∧ x1 < 500 then
      if 0 < (s1.2 49 x1) then
        cm_bv (run 282 [.inr (.inl 41), .inl x1] s1) fun s2 =>
          cm_bv (run 271 [.inr (.inl 41), .inl 1, .inl 125, .inl 0] s2) fun s3 =>
            cm_bi (run 258 [.inr (.inl 41), .inl x1] s3) fun z4 s4 =>
              if (0 : Int) ≤ z4 ∧ z4 < 500 then
                cm_bv (run 271 [.inr (.inl 41), .inl 5, .inl (s4.2 50 z4), .inl 0] s4) fun s5 =>
                  cm_bv (run 271 [.inr (.inl 41), .inl 1, .inl 123, .inl 0] s5) fun s6 =>
                    cm_bv (run 271 [.inr (.inl 41), .inl 1, .inl 41, .inl 0] s6) fun s7 =>
                      if (0 : Int) ≤ x1 ∧ x1 < 500 then
                        cm_bv (run 271 [.inr (.inl 41), .inl 9, .inl (s7.2 50 x1), .inl 0] s7) fun s8 =>
                          cm_bv (run 271 [.inr (.inl 41), .inl 1, .inl 40, .inl 0] s8) fun s9 =>
                            some (.inl none, s9)
                      else none
              else none
      else
        cm_bv (run 271 [.inr (.inl 41), .inl 1, .inl 125, .inl 0] s1) fun s10 =>
          cm_bi (run 258 [.inr (.inl 41), .inl x1] s10) fun z11 s11 =>
            if (0 : Int) ≤ z11 ∧ z11 < 500 then
              cm_bv (run 271 [.inr (.inl 41), .inl 5, .inl (s11.2 50 z11), .inl 0] s11) fun s12 =>
                cm_bv (run 271 [.inr (.inl 41), .inl 1, .inl 123, .inl 0] s12) fun s13 =>
                  cm_bv (run 271 [.inr (.inl 41), .inl 1, .inl 41, .inl 0] s13) fun s14 =>
                    if (0 : Int) ≤ x1 ∧ x1 < 500 then
                      cm_bv (run 271 [.inr (.inl 41), .inl 9, .inl (s14.2 50 x1), .inl 0] s14) fun s15 =>
                        cm_bv (run 271 [.inr (.inl 41), .inl 1, .inl 40, .inl 0] s15) fun s16 =>
                          some (.inl none, s16)
                    else none
            else none
    else none
set_option maxRecDepth 100000 in
theorem cE_281_0 (run : cm_RN) (x1 : Int) (s : cm_S) : cm_lp run cm_k281 0 [some (.inr (.inl 41)), some (.inl x1)] [] s = cF_281_0 run (cm_lp run cm_k281) x1 s := (cm_lp_eq run cm_k281 0 _ _ s).trans rfl
/-- ScriptFrontModel.printToken, from 0 on -/
def cF_282_0 (run : cm_RN) (X : cm_X) (x1 : Int) (s : cm_S) : Option cm_R :=
  if (0 : Int) ≤ x1 ∧ x1 < 500 then
    if (0 : Int) ≤ (s.2 48 x1) ∧ (s.2 48 x1) < 480 then
      cm_bv (run 273 [.inr (.inl 41), .inl (s.2 46 (s.2 48 x1))] s) fun s1 =>
        X 12 [some (.inr (.inl 41)), some (.inl x1), some (.inl 0)] [] s1
    else none
  else none
set_option maxRecDepth 100000 in
theorem cE_282_0 (run : cm_RN) (x1 : Int) (s : cm_S) : cm_lp run cm_k282 0 [some (.inr (.inl 41)), some (.inl x1), none] [] s = cF_282_0 run (cm_lp run cm_k282) x1 s := (cm_lp_eq run cm_k282 0 _ _ s).trans rfl
/-- ScriptFrontModel.printToken, from 11 on -/
def cF_282_12 (run : cm_RN) (X : cm_X) (x1 : Int) (x2 : Int) (s : cm_S) : Option cm_R :=
  if (0 : Int) ≤ x1 ∧ x1 < 500 then
    if x2 < (s.2 49 x1) then
      if (0 : Int) ≤ x1 ∧ x1 < 500 then
        if (0 : Int) ≤ (cm_w ((s.2 48 x1) + x2)) ∧ (cm_w ((s.2 48 x1) + x2)) < 480 then
          cm_bv (run 274 [.inr (.inl 41), .inl (s.2 46 (cm_w ((s.2 48 x1) + x2)))] s) fun s1 =>
            X 12 [some (.inr (.inl 41)), some (.inl x1), some (.inl (cm_w (x2 + 1)))] [] s1
        else none
      else none
    else
      if (0 : Int) ≤ x1 ∧ x1 < 500 then
        if (0 : Int) ≤ (s.2 48 x1) ∧ (s.2 48 x1) < 480 then
          if (0 : Int) ≤ x1 ∧ x1 < 500 then
            if (s.2 47 x1) = 35 then
              some (.inl none, (cm_p s 4154 4))
            else
              cm_bi (run 188 [.inl (s.2 46 (s.2 48 x1))] s) fun z2 s2 =>
                if z2 = 0 then
                  if (0 : Int) ≤ x1 ∧ x1 < 500 then
                    if (s2.2 47 x1) = 33 then
                      some (.inl none, (cm_p s2 4154 2))
                    else
                      if (0 : Int) ≤ x1 ∧ x1 < 500 then
                        if (s2.2 47 x1) = 38 then
                          if (s.2 46 (s.2 48 x1)) = 46 then
                            some (.inl none, (cm_p s2 4154 2))
                          else
                            some (.inl none, (cm_p s2 4154 1))
                        else
                          some (.inl none, (cm_p s2 4154 1))
                      else none
                  else none
                else
                  some (.inl none, (cm_p s2 4154 2))
          else none
        else none
      else none
  else none
set_option maxRecDepth 100000 in
theorem cE_282_12 (run : cm_RN) (x1 : Int) (x2 : Int) (s : cm_S) : cm_lp run cm_k282 12 [some (.inr (.inl 41)), some (.inl x1), some (.inl x2)] [] s = cF_282_12 run (cm_lp run cm_k282) x1 x2 s := (cm_lp_eq run cm_k282 12 _ _ s).trans rfl
/-- ScriptFrontModel.hasCall, from 0 on -/
def cF_283_0 (run : cm_RN) (X : cm_X) (x1 : Int) (s : cm_S) : Option cm_R :=
  X 3 [some (.inr (.inl 41)), some (.inl x1), some (.inl x1), none] [] s
set_option maxRecDepth 100000 in
theorem cE_283_0 (run : cm_RN) (x1 : Int) (s : cm_S) : cm_lp run cm_k283 0 [some (.inr (.inl 41)), some (.inl x1), none, none] [] s = cF_283_0 run (cm_lp run cm_k283) x1 s := (cm_lp_eq run cm_k283 0 _ _ s).trans rfl
/-- ScriptFrontModel.hasCall, from 2 on -/
def cF_283_3 (run : cm_RN) (X : cm_X) (o1 : Option cm_V) (x2 : Int) (o3 : Option cm_V) (s : cm_S) : Option cm_R :=
  if (0 : Int) ≤ x2 ∧ x2 < 500 then
    if (s.2 47 x2) = 40 then
      if (0 : Int) ≤ x2 ∧ x2 < 500 then
        if (0 : Int) ≤ (s.2 50 x2) ∧ (s.2 50 x2) < 500 then
          if 43 < (s.2 47 (s.2 50 x2)) then
            some (.inl (some (.inl 0)), s)
          else
            if (0 : Int) ≤ x2 ∧ x2 < 500 then
              if (s.2 47 x2) = 41 then
                if (0 : Int) ≤ (s.2 50 x2) ∧ (s.2 50 x2) < 500 then
                  if (s.2 47 (s.2 50 x2)) = 33 then
                    some (.inl (some (.inl 0)), s)
                  else
                    X 3 [some (.inr (.inl 41)), o1, some (.inl (s.2 50 x2)), some (.inl (s.2 50 x2))] [] s
                else none
              else
                X 3 [some (.inr (.inl 41)), o1, some (.inl (s.2 50 x2)), some (.inl (s.2 50 x2))] [] s
            else none
        else none
      else none
    else
      if (0 : Int) ≤ x2 ∧ x2 < 500 then
        if (s.2 47 x2) = 41 then
          if (0 : Int) ≤ x2 ∧ x2 < 500 then
            if (0 : Int) ≤ (s.2 50 x2) ∧ (s.2 50 x2) < 500 then
              if 43 < (s.2 47 (s.2 50 x2)) then
                some (.inl (some (.inl 0)), s)
              else
                if (0 : Int) ≤ x2 ∧ x2 < 500 then
                  if (s.2 47 x2) = 41 then
                    if (0 : Int) ≤ (s.2 50 x2) ∧ (s.2 50 x2) < 500 then
                      if (s.2 47 (s.2 50 x2)) = 33 then
                        some (.inl (some (.inl 0)), s)
                      else
                        X 3 [some (.inr (.inl 41)), o1, some (.inl (s.2 50 x2)), some (.inl (s.2 50 x2))] [] s
                    else none
                  else
                    X 3 [some (.inr (.inl 41)), o1, some (.inl (s.2 50 x2)), some (.inl (s.2 50 x2))] [] s
                else none
            else none
          else none
        else
          if (0 : Int) ≤ x2 ∧ x2 < 500 then
            if (s.2 47 x2) = 43 then
              some (.inl (some (.inl 1)), s)
            else
              some (.inl (some (.inl 0)), s)
          else none
      else none
  else none
set_option maxRecDepth 100000 in
theorem cE_283_3 (run : cm_RN) (o1 : Option cm_V) (x2 : Int) (o3 : Option cm_V) (s : cm_S) : cm_lp run cm_k283 3 [some (.inr (.inl 41)), o1, some (.inl x2), o3] [] s = cF_283_3 run (cm_lp run cm_k283) o1 x2 o3 s := (cm_lp_eq run cm_k283 3 _ _ s).trans rfl
/-- ScriptFrontModel.printJoined, from 0 on -/
def cF_284_0 (run : cm_RN) (X : cm_X) (x1 : Int) (x2 : Int) (s : cm_S) : Option cm_R :=
  if (0 : Int) ≤ x1 ∧ x1 < 500 then
    if (0 : Int) ≤ (s.2 50 x1) ∧ (s.2 50 x1) < 500 then
      cm_bi (run 277 [.inr (.inl 41), .inl x1] s) fun z1 s1 =>
        if (0 : Int) ≤ x1 ∧ x1 < 500 then
          if (s1.2 47 x1) = 44 then
            cm_bv (run 271 [.inr (.inl 41), .inl 8, .inl x1, .inl 0] s1) fun s2 =>
              cm_bv (run 271 [.inr (.inl 41), .inl 3, .inl (s.2 50 x1), .inl 15] s2) fun s3 =>
                some (.inl none, s3)
          else if (s1.2 47 x1) = 45 then
            cm_bv (run 282 [.inr (.inl 41), .inl x1] s1) fun s4 =>
              cm_bv (run 271 [.inr (.inl 41), .inl 3, .inl (s.2 50 x1), .inl 13] s4) fun s5 =>
                some (.inl none, s5)
          else if (s1.2 47 x1) = 46 then
            cm_bv (run 271 [.inr (.inl 41), .inl 3, .inl (s.2 51 (s.2 50 x1)), .inl (cm_or (cm_w (z1 + 1)) x2)] s1) fun s6 =>
              cm_bv (run 271 [.inr (.inl 41), .inl 8, .inl x1, .inl 0] s6) fun s7 =>
                cm_bv (run 271 [.inr (.inl 41), .inl 3, .inl (s.2 50 x1), .inl (cm_or z1 x2)] s7) fun s8 =>
                  some (.inl none, s8)
          else if (s1.2 47 x1) = 47 then
            if (0 : Int) ≤ (s.2 51 (s.2 50 x1)) ∧ (s.2 51 (s.2 50 x1)) < 500 then
              cm_bv (run 271 [.inr (.inl 41), .inl 3, .inl (s1.2 51 (s.2 51 (s.2 50 x1))), .inl (cm_or 1 x2)] s1) fun s9 =>
                cm_bv (run 271 [.inr (.inl 41), .inl 1, .inl 58, .inl 0] s9) fun s10 =>
                  cm_bv (run 271 [.inr (.inl 41), .inl 3, .inl (s.2 51 (s.2 50 x1)), .inl (cm_or 1 x2)] s10) fun s11 =>
                    cm_bv (run 271 [.inr (.inl 41), .inl 1, .inl 63, .inl 0] s11) fun s12 =>
                      cm_bv (run 271 [.inr (.inl 41), .inl 3, .inl (s.2 50 x1), .inl (cm_or 3 x2)] s12) fun s13 =>
                        some (.inl none, s13)
            else none
          else if (s1.2 47 x1) = 48 then
            cm_bv (run 271 [.inr (.inl 41), .inl 3, .inl (s.2 51 (s.2 50 x1)), .inl (cm_or 1 x2)] s1) fun s14 =>
              cm_bv (run 271 [.inr (.inl 41), .inl 8, .inl x1, .inl 0] s14) fun s15 =>
                cm_bv (run 271 [.inr (.inl 41), .inl 3, .inl (s.2 50 x1), .inl 15] s15) fun s16 =>
                  some (.inl none, s16)
          else 
            cm_bv (run 271 [.inr (.inl 41), .inl 6, .inl (s.2 51 (s.2 50 x1)), .inl (cm_or (cm_or 1 x2) 512)] s1) fun s17 =>
              cm_bv (run 271 [.inr (.inl 41), .inl 3, .inl (s.2 50 x1), .inl (cm_or 1 x2)] s17) fun s18 =>
                some (.inl none, s18)
        else none
    else none
  else none
set_option maxRecDepth 100000 in
theorem cE_284_0 (run : cm_RN) (x1 : Int) (x2 : Int) (s : cm_S) : cm_lp run cm_k284 0 [some (.inr (.inl 41)), some (.inl x1), some (.inl x2), none, none, none] [] s = cF_284_0 run (cm_lp run cm_k284) x1 x2 s := (cm_lp_eq run cm_k284 0 _ _ s).trans rfl
/-- ScriptFrontModel.printAct, from 0 on -/
def cF_285_0 (run : cm_RN) (X : cm_X) (x1 : Int) (s : cm_S) : Option cm_R :=
  if (0 : Int) ≤ x1 ∧ x1 < 500 then
    if (0 : Int) ≤ x1 ∧ x1 < 500 then
      if (s.2 47 x1) = 1 then
        cm_bv (run 286 [.inr (.inl 41), .inl x1] s) fun s1 =>
          some (.inl none, s1)
      else if (s.2 47 x1) = 2 then
        cm_bv (run 275 [.inr (.inl 41), .inl 24] s) fun s2 =>
          cm_bv (run 271 [.inr (.inl 41), .inl 1, .inl 59, .inl 0] s2) fun s3 =>
            cm_bv (run 271 [.inr (.inl 41), .inl 7, .inl (s.2 50 x1), .inl 0] s3) fun s4 =>
              some (.inl none, s4)
      else if (s.2 47 x1) = 4 then
        cm_bv (run 272 [.inr (.inl 41), .inl 59] s) fun s5 =>
          some (.inl none, s5)
      else if (s.2 47 x1) = 5 then
        cm_bv (run 271 [.inr (.inl 41), .inl 1, .inl 59, .inl 0] s) fun s6 =>
          cm_bi (run 287 [.inr (.inl 41), .inl (s.2 50 x1)] s6) fun z7 s7 =>
            if z7 = 0 then
              if (0 : Int) ≤ (s.2 50 x1) ∧ (s.2 50 x1) < 500 then
                if (s7.2 47 (s.2 50 x1)) = 34 then
                  if (0 : Int) ≤ (s.2 50 x1) ∧ (s.2 50 x1) < 500 then
                    if (s7.2 54 (s.2 50 x1)) = 0 then
                      cm_bv (run 271 [.inr (.inl 41), .inl 3, .inl (s.2 50 x1), .inl 0] s7) fun s8 =>
                        some (.inl none, s8)
                    else
                      cm_bv (run 271 [.inr (.inl 41), .inl 3, .inl (s.2 50 x1), .inl 512] s7) fun s9 =>
                        some (.inl none, s9)
                  else none
                else
                  cm_bv (run 271 [.inr (.inl 41), .inl 3, .inl (s.2 50 x1), .inl 0] s7) fun s10 =>
                    some (.inl none, s10)
              else none
            else
              cm_bv (run 271 [.inr (.inl 41), .inl 3, .inl (s.2 50 x1), .inl 512] s7) fun s11 =>
                some (.inl none, s11)
      else if (s.2 47 x1) = 11 then
        if (0 : Int) ≤ x1 ∧ x1 < 500 then
          if (s.2 47 x1) = 11 then
            cm_bv (run 275 [.inr (.inl 41), .inl 3] s) fun s12 =>
              cm_bv (run 271 [.inr (.inl 41), .inl 1, .inl 59, .inl 0] s12) fun s13 =>
                if (0 : Int) ≤ x1 ∧ x1 < 500 then
                  if 0 < (s13.2 49 x1) then
                    cm_bv (run 282 [.inr (.inl 41), .inl x1] s13) fun s14 =>
                      some (.inl none, s14)
                  else
                    some (.inl none, s13)
                else none
          else
            cm_bv (run 275 [.inr (.inl 41), .inl 0] s) fun s15 =>
              cm_bv (run 271 [.inr (.inl 41), .inl 1, .inl 59, .inl 0] s15) fun s16 =>
                if (0 : Int) ≤ x1 ∧ x1 < 500 then
                  if 0 < (s16.2 49 x1) then
                    cm_bv (run 282 [.inr (.inl 41), .inl x1] s16) fun s17 =>
                      some (.inl none, s17)
                  else
                    some (.inl none, s16)
                else none
        else none
      else if (s.2 47 x1) = 12 then
        if (0 : Int) ≤ x1 ∧ x1 < 500 then
          if (s.2 47 x1) = 11 then
            cm_bv (run 275 [.inr (.inl 41), .inl 3] s) fun s18 =>
              cm_bv (run 271 [.inr (.inl 41), .inl 1, .inl 59, .inl 0] s18) fun s19 =>
                if (0 : Int) ≤ x1 ∧ x1 < 500 then
                  if 0 < (s19.2 49 x1) then
                    cm_bv (run 282 [.inr (.inl 41), .inl x1] s19) fun s20 =>
                      some (.inl none, s20)
                  else
                    some (.inl none, s19)
                else none
          else
            cm_bv (run 275 [.inr (.inl 41), .inl 0] s) fun s21 =>
              cm_bv (run 271 [.inr (.inl 41), .inl 1, .inl 59, .inl 0] s21) fun s22 =>
                if (0 : Int) ≤ x1 ∧ x1 < 500 then
                  if 0 < (s22.2 49 x1) then
                    cm_bv (run 282 [.inr (.inl 41), .inl x1] s22) fun s23 =>
                      some (.inl none, s23)
                  else
                    some (.inl none, s22)
                else none
        else none
      else if (s.2 47 x1) = 13 then
        if (0 : Int) ≤ x1 ∧ x1 < 500 then
          if (s.2 47 x1) = 13 then
            X 96 [some (.inr (.inl 41)), some (.inl x1), some (.inl (s.2 50 x1))] [.inl 17, .inr (.inl 41)] s
          else
            X 96 [some (.inr (.inl 41)), some (.inl x1), some (.inl (s.2 50 x1))] [.inl 20, .inr (.inl 41)] s
        else none
      else if (s.2 47 x1) = 16 then
        cm_bv (run 282 [.inr (.inl 41), .inl x1] s) fun s24 =>
          cm_bv (run 271 [.inr (.inl 41), .inl 4, .inl (s.2 50 x1), .inl 0] s24) fun s25 =>
            cm_bv (run 271 [.inr (.inl 41), .inl 1, .inl 58, .inl 0] s25) fun s26 =>
              some (.inl none, s26)
      else if (s.2 47 x1) = 17 then
        if (0 : Int) ≤ x1 ∧ x1 < 500 then
          if (s.2 47 x1) = 13 then
            X 96 [some (.inr (.inl 41)), some (.inl x1), some (.inl (s.2 50 x1))] [.inl 17, .inr (.inl 41)] s
          else
            X 96 [some (.inr (.inl 41)), some (.inl x1), some (.inl (s.2 50 x1))] [.inl 20, .inr (.inl 41)] s
        else none
      else if (s.2 47 x1) = 20 then
        cm_bv (run 281 [.inr (.inl 41), .inl x1] s) fun s27 =>
          some (.inl none, s27)
      else 
        cm_bv (run 289 [.inr (.inl 41), .inl x1, .inl (s.2 50 x1)] s) fun s28 =>
          some (.inl none, s28)
    else none
  else none
set_option maxRecDepth 100000 in
theorem cE_285_0 (run : cm_RN) (x1 : Int) (s : cm_S) : cm_lp run cm_k285 0 [some (.inr (.inl 41)), some (.inl x1), none] [] s = cF_285_0 run (cm_lp run cm_k285) x1 s := (cm_lp_eq run cm_k285 0 _ _ s).trans rfl
/-- ScriptFrontModel.printAct, from 95 on -/
def cF_285_96 (run : cm_RN) (X : cm_X) (o1 : Option cm_V) (x2 : Int) (y0 : Int) (s : cm_S) : Option cm_R :=
  cm_bv (run 275 [.inr (.inl 41), .inl y0] s) fun s1 =>
    cm_bv (run 271 [.inr (.inl 41), .inl 1, .inl 59, .inl 0] s1) fun s2 =>
      if x2 = (-1) then
        some (.inl none, s2)
      else
        cm_bv (run 271 [.inr (.inl 41), .inl 3, .inl x2, .inl 0] s2) fun s3 =>
          some (.inl none, s3)
set_option maxRecDepth 100000 in
theorem cE_285_96 (run : cm_RN) (o1 : Option cm_V) (x2 : Int) (y0 : Int) (s : cm_S) : cm_lp run cm_k285 96 [some (.inr (.inl 41)), o1, some (.inl x2)] [.inl y0, .inr (.inl 41)] s = cF_285_96 run (cm_lp run cm_k285) o1 x2 y0 s := (cm_lp_eq run cm_k285 96 _ _ s).trans rfl
/-- ScriptFrontModel.braces, from 0 on -/
def cF_286_0 (run : cm_RN) (X : cm_X) (x1 : Int) (s : cm_S) : Option cm_R :=
  cm_bv (run 271 [.inr (.inl 41), .inl 1, .inl 125, .inl 0] s) fun s1 =>
    if (0 : Int) ≤ x1 ∧ x1 < 500 then
      cm_bv (run 271 [.inr (.inl 41), .inl 5, .inl (s1.2 50 x1), .inl 0] s1) fun s2 =>
        cm_bv (run 271 [.inr (.inl 41), .inl 1, .inl 123, .inl 0] s2) fun s3 =>
          some (.inl none, s3)
    else none
set_option maxRecDepth 100000 in
theorem cE_286_0 (run : cm_RN) (x1 : Int) (s : cm_S) : cm_lp run cm_k286 0 [some (.inr (.inl 41)), some (.inl x1)] [] s = cF_286_0 run (cm_lp run cm_k286) x1 s := (cm_lp_eq run cm_k286 0 _ _ s).trans rfl
/-- ScriptFrontModel.startsBadly, from 0 on -/
def cF_287_0 (run : cm_RN) (X : cm_X) (x1 : Int) (s : cm_S) : Option cm_R :=
  X 5 [some (.inr (.inl 41)), some (.inl x1), some (.inl x1), some (.inl 1), none] [] s
set_option maxRecDepth 100000 in
theorem cE_287_0 (run : cm_RN) (x1 : Int) (s : cm_S) : cm_lp run cm_k287 0 [some (.inr (.inl 41)), some (.inl x1), none, none, none] [] s = cF_287_0 run (cm_lp run cm_k287) x1 s := (cm_lp_eq run cm_k287 0 _ _ s).trans rfl
/-- ScriptFrontModel.startsBadly, from 4 on -/
def cF_287_5 (run : cm_RN) (X : cm_X) (o1 : Option cm_V) (x2 : Int) (x3 : Int) (o4 : Option cm_V) (s : cm_S) : Option cm_R :=
  if x3 = 0 then
    if (0 : Int) ≤ x2 ∧ x2 < 500 then
      if (s.2 47 x2) = 37 then
        some (.inl (some (.inl 1)), s)
      else
        if (0 : Int) ≤ x2 ∧ x2 < 500 then
          if (s.2 47 x2) = 39 then
            some (.inl (some (.inl 1)), s)
          else
            some (.inl (some (.inl 0)), s)
        else none
    else none
  else
    if (0 : Int) ≤ x2 ∧ x2 < 500 then
      cm_bi (run 288 [.inr (.inl 41), .inl x2] s) fun z1 s1 =>
        if z1 < 100 then
          cm_bi (run 277 [.inr (.inl 41), .inl (s.2 50 x2)] s1) fun z2 s2 =>
            cm_bi (run 288 [.inr (.inl 41), .inl x2] s2) fun z3 s3 =>
              if z2 < z3 then
                X 5 [some (.inr (.inl 41)), o1, some (.inl x2), some (.inl 0), some (.inl (s.2 50 x2))] [] s3
              else
                if (0 : Int) ≤ x2 ∧ x2 < 500 then
                  if (s3.2 47 x2) = 41 then
                    if (0 : Int) ≤ (s.2 50 x2) ∧ (s.2 50 x2) < 500 then
                      if (s3.2 47 (s.2 50 x2)) = 33 then
                        X 5 [some (.inr (.inl 41)), o1, some (.inl x2), some (.inl 0), some (.inl (s.2 50 x2))] [] s3
                      else
                        X 5 [some (.inr (.inl 41)), o1, some (.inl (s.2 50 x2)), some (.inl 1), some (.inl (s.2 50 x2))] [] s3
                    else none
                  else
                    X 5 [some (.inr (.inl 41)), o1, some (.inl (s.2 50 x2)), some (.inl 1), some (.inl (s.2 50 x2))] [] s3
                else none
        else
          X 5 [some (.inr (.inl 41)), o1, some (.inl x2), some (.inl 0), some (.inl (s.2 50 x2))] [] s1
    else none
set_option maxRecDepth 100000 in
theorem cE_287_5 (run : cm_RN) (o1 : Option cm_V) (x2 : Int) (x3 : Int) (o4 : Option cm_V) (s : cm_S) : cm_lp run cm_k287 5 [some (.inr (.inl 41)), o1, some (.inl x2), some (.inl x3), o4] [] s = cF_287_5 run (cm_lp run cm_k287) o1 x2 x3 o4 s := (cm_lp_eq run cm_k287 5 _ _ s).trans rfl
/-- ScriptFrontModel.wanted, from 0 on -/
def cF_288_0 (run : cm_RN) (X : cm_X) (x1 : Int) (s : cm_S) : Option cm_R :=
  if (0 : Int) ≤ x1 ∧ x1 < 500 then
    if (s.2 47 x1) = 49 then
      some (.inl (some (.inl 1)), s)
    else
      if (s.2 47 x1) = 47 then
        some (.inl (some (.inl 3)), s)
      else
        if (s.2 47 x1) = 46 then
          cm_bi (run 277 [.inr (.inl 41), .inl x1] s) fun z1 s1 =>
            some (.inl (some (.inl z1)), s1)
        else
          if (s.2 47 x1) = 48 then
            some (.inl (some (.inl 15)), s)
          else
            if (s.2 47 x1) = 44 then
              some (.inl (some (.inl 15)), s)
            else
              if (s.2 47 x1) = 43 then
                some (.inl (some (.inl 15)), s)
              else
                if (s.2 47 x1) = 41 then
                  some (.inl (some (.inl 15)), s)
                else
                  if (s.2 47 x1) = 40 then
                    some (.inl (some (.inl 15)), s)
                  else
                    some (.inl (some (.inl 100)), s)
  else none
set_option maxRecDepth 100000 in
theorem cE_288_0 (run : cm_RN) (x1 : Int) (s : cm_S) : cm_lp run cm_k288 0 [some (.inr (.inl 41)), some (.inl x1), none] [] s = cF_288_0 run (cm_lp run cm_k288) x1 s := (cm_lp_eq run cm_k288 0 _ _ s).trans rfl
/-- ScriptFrontModel.printHead, from 0 on -/
def cF_289_0 (run : cm_RN) (X : cm_X) (x1 : Int) (x2 : Int) (s : cm_S) : Option cm_R :=
  if (0 : Int) ≤ x2 ∧ x2 < 500 then
    if (0 : Int) ≤ x1 ∧ x1 < 500 then
      if (s.2 47 x1) = 6 then
        cm_bv (run 275 [.inr (.inl 41), .inl 12] s) fun s1 =>
          if (0 : Int) ≤ x1 ∧ x1 < 500 then
            if (s1.2 53 x1) = 3 then
              if (0 : Int) ≤ (s.2 51 x2) ∧ (s.2 51 x2) < 500 then
                cm_bv (run 271 [.inr (.inl 41), .inl 4, .inl (s1.2 51 (s.2 51 x2)), .inl 0] s1) fun s2 =>
                  cm_bv (run 271 [.inr (.inl 41), .inl 2, .inl 7, .inl 0] s2) fun s3 =>
                    cm_bv (run 271 [.inr (.inl 41), .inl 4, .inl (s.2 51 x2), .inl 0] s3) fun s4 =>
                      cm_bv (run 290 [.inr (.inl 41), .inl x2] s4) fun s5 =>
                        some (.inl none, s5)
              else none
            else
              cm_bv (run 271 [.inr (.inl 41), .inl 4, .inl (s.2 51 x2), .inl 0] s1) fun s6 =>
                cm_bv (run 290 [.inr (.inl 41), .inl x2] s6) fun s7 =>
                  some (.inl none, s7)
          else none
      else if (s.2 47 x1) = 7 then
        cm_bv (run 275 [.inr (.inl 41), .inl 6] s) fun s8 =>
          cm_bv (run 271 [.inr (.inl 41), .inl 1, .inl 59, .inl 0] s8) fun s9 =>
            cm_bv (run 290 [.inr (.inl 41), .inl (s.2 51 x2)] s9) fun s10 =>
              cm_bv (run 271 [.inr (.inl 41), .inl 2, .inl 26, .inl 0] s10) fun s11 =>
                cm_bv (run 271 [.inr (.inl 41), .inl 4, .inl x2, .inl 0] s11) fun s12 =>
                  some (.inl none, s12)
      else if (s.2 47 x1) = 8 then
        cm_bv (run 275 [.inr (.inl 41), .inl 26] s) fun s13 =>
          cm_bv (run 271 [.inr (.inl 41), .inl 4, .inl (s.2 51 x2), .inl 0] s13) fun s14 =>
            cm_bv (run 290 [.inr (.inl 41), .inl x2] s14) fun s15 =>
              some (.inl none, s15)
      else if (s.2 47 x1) = 9 then
        cm_bv (run 291 [.inr (.inl 41), .inl x1, .inl x2] s) fun s16 =>
          some (.inl none, s16)
      else if (s.2 47 x1) = 10 then
        cm_bv (run 275 [.inr (.inl 41), .inl 10] s) fun s17 =>
          if (0 : Int) ≤ (s.2 51 x2) ∧ (s.2 51 x2) < 500 then
            cm_bv (run 271 [.inr (.inl 41), .inl 4, .inl (s17.2 51 (s.2 51 x2)), .inl 0] s17) fun s18 =>
              cm_bv (run 271 [.inr (.inl 41), .inl 1, .inl 41, .inl 0] s18) fun s19 =>
                cm_bv (run 271 [.inr (.inl 41), .inl 3, .inl (s.2 51 x2), .inl 0] s19) fun s20 =>
                  cm_bv (run 271 [.inr (.inl 41), .inl 2, .inl 13, .inl 0] s20) fun s21 =>
                    cm_bv (run 292 [.inr (.inl 41), .inl x2] s21) fun s22 =>
                      cm_bv (run 271 [.inr (.inl 41), .inl 1, .inl 40, .inl 0] s22) fun s23 =>
                        some (.inl none, s23)
          else none
      else if (s.2 47 x1) = 14 then
        cm_bv (run 275 [.inr (.inl 41), .inl 18] s) fun s24 =>
          cm_bv (run 271 [.inr (.inl 41), .inl 1, .inl 125, .inl 0] s24) fun s25 =>
            cm_bv (run 271 [.inr (.inl 41), .inl 12, .inl (s.2 51 x2), .inl 0] s25) fun s26 =>
              cm_bv (run 271 [.inr (.inl 41), .inl 1, .inl 123, .inl 0] s26) fun s27 =>
                cm_bv (run 290 [.inr (.inl 41), .inl x2] s27) fun s28 =>
                  some (.inl none, s28)
      else 
        if (0 : Int) ≤ (s.2 51 x2) ∧ (s.2 51 x2) < 500 then
          cm_bv (run 293 [.inr (.inl 41), .inl x2, .inl (s.2 51 x2), .inl (s.2 51 (s.2 51 x2))] s) fun s29 =>
            some (.inl none, s29)
        else none
    else none
  else none
set_option maxRecDepth 100000 in
theorem cE_289_0 (run : cm_RN) (x1 : Int) (x2 : Int) (s : cm_S) : cm_lp run cm_k289 0 [some (.inr (.inl 41)), some (.inl x1), some (.inl x2), none] [] s = cF_289_0 run (cm_lp run cm_k289) x1 x2 s := (cm_lp_eq run cm_k289 0 _ _ s).trans rfl
/-- ScriptFrontModel.inBrackets, from 0 on -/
def cF_290_0 (run : cm_RN) (X : cm_X) (x1 : Int) (s : cm_S) : Option cm_R :=
  cm_bv (run 271 [.inr (.inl 41), .inl 1, .inl 41, .inl 0] s) fun s1 =>
    cm_bv (run 271 [.inr (.inl 41), .inl 3, .inl x1, .inl 0] s1) fun s2 =>
      cm_bv (run 271 [.inr (.inl 41), .inl 1, .inl 40, .inl 0] s2) fun s3 =>
        some (.inl none, s3)
set_option maxRecDepth 100000 in
theorem cE_290_0 (run : cm_RN) (x1 : Int) (s : cm_S) : cm_lp run cm_k290 0 [some (.inr (.inl 41)), some (.inl x1)] [] s = cF_290_0 run (cm_lp run cm_k290) x1 s := (cm_lp_eq run cm_k290 0 _ _ s).trans rfl
/-- ScriptFrontModel.printFor, from 0 on -/
def cF_291_0 (run : cm_RN) (X : cm_X) (x1 : Int) (x2 : Int) (s : cm_S) : Option cm_R :=
  if (0 : Int) ≤ x2 ∧ x2 < 500 then
    if (0 : Int) ≤ (s.2 51 x2) ∧ (s.2 51 x2) < 500 then
      cm_bv (run 275 [.inr (.inl 41), .inl 10] s) fun s1 =>
        if (0 : Int) ≤ (s.2 51 (s.2 51 x2)) ∧ (s.2 51 (s.2 51 x2)) < 500 then
          cm_bv (run 271 [.inr (.inl 41), .inl 4, .inl (s1.2 51 (s.2 51 (s.2 51 x2))), .inl 0] s1) fun s2 =>
            cm_bv (run 271 [.inr (.inl 41), .inl 1, .inl 41, .inl 0] s2) fun s3 =>
              if (0 : Int) ≤ (s.2 51 (s.2 51 x2)) ∧ (s.2 51 (s.2 51 x2)) < 500 then
                if (s3.2 47 (s.2 51 (s.2 51 x2))) = 21 then
                  cm_bv (run 271 [.inr (.inl 41), .inl 1, .inl 59, .inl 0] s3) fun s4 =>
                    if (0 : Int) ≤ (s.2 51 x2) ∧ (s.2 51 x2) < 500 then
                      if (s4.2 47 (s.2 51 x2)) = 21 then
                        cm_bv (run 271 [.inr (.inl 41), .inl 1, .inl 59, .inl 0] s4) fun s5 =>
                          cm_bv (run 292 [.inr (.inl 41), .inl x2] s5) fun s6 =>
                            cm_bv (run 271 [.inr (.inl 41), .inl 1, .inl 40, .inl 0] s6) fun s7 =>
                              some (.inl none, s7)
                      else
                        cm_bv (run 271 [.inr (.inl 41), .inl 3, .inl (s.2 51 x2), .inl 0] s4) fun s8 =>
                          cm_bv (run 271 [.inr (.inl 41), .inl 1, .inl 59, .inl 0] s8) fun s9 =>
                            cm_bv (run 292 [.inr (.inl 41), .inl x2] s9) fun s10 =>
                              cm_bv (run 271 [.inr (.inl 41), .inl 1, .inl 40, .inl 0] s10) fun s11 =>
                                some (.inl none, s11)
                    else none
                else
                  cm_bv (run 271 [.inr (.inl 41), .inl 3, .inl (s.2 51 (s.2 51 x2)), .inl 0] s3) fun s12 =>
                    cm_bv (run 271 [.inr (.inl 41), .inl 1, .inl 59, .inl 0] s12) fun s13 =>
                      if (0 : Int) ≤ (s.2 51 x2) ∧ (s.2 51 x2) < 500 then
                        if (s13.2 47 (s.2 51 x2)) = 21 then
                          cm_bv (run 271 [.inr (.inl 41), .inl 1, .inl 59, .inl 0] s13) fun s14 =>
                            cm_bv (run 292 [.inr (.inl 41), .inl x2] s14) fun s15 =>
                              cm_bv (run 271 [.inr (.inl 41), .inl 1, .inl 40, .inl 0] s15) fun s16 =>
                                some (.inl none, s16)
                        else
                          cm_bv (run 271 [.inr (.inl 41), .inl 3, .inl (s.2 51 x2), .inl 0] s13) fun s17 =>
                            cm_bv (run 271 [.inr (.inl 41), .inl 1, .inl 59, .inl 0] s17) fun s18 =>
                              cm_bv (run 292 [.inr (.inl 41), .inl x2] s18) fun s19 =>
                                cm_bv (run 271 [.inr (.inl 41), .inl 1, .inl 40, .inl 0] s19) fun s20 =>
                                  some (.inl none, s20)
                      else none
              else none
        else none
    else none
  else none
set_option maxRecDepth 100000 in
theorem cE_291_0 (run : cm_RN) (x1 : Int) (x2 : Int) (s : cm_S) : cm_lp run cm_k291 0 [some (.inr (.inl 41)), some (.inl x1), some (.inl x2), none, none] [] s = cF_291_0 run (cm_lp run cm_k291) x1 x2 s := (cm_lp_eq run cm_k291 0 _ _ s).trans rfl
/-- ScriptFrontModel.planFirst, from 0 on -/
def cF_292_0 (run : cm_RN) (X : cm_X) (x1 : Int) (s : cm_S) : Option cm_R :=
  if (0 : Int) ≤ x1 ∧ x1 < 500 then
    if (s.2 47 x1) = 2 then
      if (0 : Int) ≤ x1 ∧ x1 < 500 then
        cm_bv (run 271 [.inr (.inl 41), .inl 7, .inl (s.2 50 x1), .inl 256] s) fun s1 =>
          cm_bv (run 271 [.inr (.inl 41), .inl 2, .inl 24, .inl 0] s1) fun s2 =>
            some (.inl none, s2)
      else none
    else
      if (0 : Int) ≤ x1 ∧ x1 < 500 then
        if (s.2 47 x1) = 21 then
          some (.inl none, s)
        else
          cm_bv (run 271 [.inr (.inl 41), .inl 3, .inl x1, .inl 256] s) fun s3 =>
            some (.inl none, s3)
      else none
  else none
set_option maxRecDepth 100000 in
theorem cE_292_0 (run : cm_RN) (x1 : Int) (s : cm_S) : cm_lp run cm_k292 0 [some (.inr (.inl 41)), some (.inl x1)] [] s = cF_292_0 run (cm_lp run cm_k292) x1 s := (cm_lp_eq run cm_k292 0 _ _ s).trans rfl
/-- ScriptFrontModel.printTry, from 0 on -/
def cF_293_0 (run : cm_RN) (X : cm_X) (x1 : Int) (x2 : Int) (x3 : Int) (s : cm_S) : Option cm_R :=
  cm_bv (run 275 [.inr (.inl 41), .inl 22] s) fun s1 =>
    if (0 : Int) ≤ x3 ∧ x3 < 500 then
      if (s1.2 47 x3) = 21 then
        if (0 : Int) ≤ x2 ∧ x2 < 500 then
          if (s1.2 47 x2) = 21 then
            cm_bv (run 286 [.inr (.inl 41), .inl x1] s1) fun s2 =>
              some (.inl none, s2)
          else
            if (0 : Int) ≤ x2 ∧ x2 < 500 then
              cm_bv (run 286 [.inr (.inl 41), .inl (s1.2 50 x2)] s1) fun s3 =>
                cm_bv (run 271 [.inr (.inl 41), .inl 1, .inl 41, .inl 0] s3) fun s4 =>
                  cm_bv (run 271 [.inr (.inl 41), .inl 8, .inl x2, .inl 0] s4) fun s5 =>
                    cm_bv (run 271 [.inr (.inl 41), .inl 1, .inl 40, .inl 0] s5) fun s6 =>
                      cm_bv (run 271 [.inr (.inl 41), .inl 2, .inl 2, .inl 0] s6) fun s7 =>
                        cm_bv (run 286 [.inr (.inl 41), .inl x1] s7) fun s8 =>
                          some (.inl none, s8)
            else none
        else none
      else
        cm_bv (run 286 [.inr (.inl 41), .inl x3] s1) fun s9 =>
          cm_bv (run 271 [.inr (.inl 41), .inl 2, .inl 9, .inl 0] s9) fun s10 =>
            if (0 : Int) ≤ x2 ∧ x2 < 500 then
              if (s10.2 47 x2) = 21 then
                cm_bv (run 286 [.inr (.inl 41), .inl x1] s10) fun s11 =>
                  some (.inl none, s11)
              else
                if (0 : Int) ≤ x2 ∧ x2 < 500 then
                  cm_bv (run 286 [.inr (.inl 41), .inl (s10.2 50 x2)] s10) fun s12 =>
                    cm_bv (run 271 [.inr (.inl 41), .inl 1, .inl 41, .inl 0] s12) fun s13 =>
                      cm_bv (run 271 [.inr (.inl 41), .inl 8, .inl x2, .inl 0] s13) fun s14 =>
                        cm_bv (run 271 [.inr (.inl 41), .inl 1, .inl 40, .inl 0] s14) fun s15 =>
                          cm_bv (run 271 [.inr (.inl 41), .inl 2, .inl 2, .inl 0] s15) fun s16 =>
                            cm_bv (run 286 [.inr (.inl 41), .inl x1] s16) fun s17 =>
                              some (.inl none, s17)
                else none
            else none
    else none
set_option maxRecDepth 100000 in
theorem cE_293_0 (run : cm_RN) (x1 : Int) (x2 : Int) (x3 : Int) (s : cm_S) : cm_lp run cm_k293 0 [some (.inr (.inl 41)), some (.inl x1), some (.inl x2), some (.inl x3)] [] s = cF_293_0 run (cm_lp run cm_k293) x1 x2 x3 s := (cm_lp_eq run cm_k293 0 _ _ s).trans rfl
/-- ScriptFrontModel.printChoice, from 0 on -/
def cF_294_0 (run : cm_RN) (X : cm_X) (x1 : Int) (s : cm_S) : Option cm_R :=
  if x1 = (-1) then
    some (.inl none, s)
  else
    if (0 : Int) ≤ x1 ∧ x1 < 500 then
      if (0 : Int) ≤ x1 ∧ x1 < 500 then
        cm_bv (run 271 [.inr (.inl 41), .inl 12, .inl (s.2 51 x1), .inl 0] s) fun s1 =>
          if (0 : Int) ≤ (s.2 50 x1) ∧ (s.2 50 x1) < 500 then
            cm_bv (run 271 [.inr (.inl 41), .inl 5, .inl (s1.2 51 (s.2 50 x1)), .inl 0] s1) fun s2 =>
              cm_bv (run 271 [.inr (.inl 41), .inl 1, .inl 58, .inl 0] s2) fun s3 =>
                if (0 : Int) ≤ (s.2 50 x1) ∧ (s.2 50 x1) < 500 then
                  if (s3.2 47 (s.2 50 x1)) = 21 then
                    cm_bv (run 275 [.inr (.inl 41), .inl 4] s3) fun s4 =>
                      some (.inl none, s4)
                  else
                    cm_bv (run 271 [.inr (.inl 41), .inl 3, .inl (s.2 50 x1), .inl 0] s3) fun s5 =>
                      cm_bv (run 275 [.inr (.inl 41), .inl 1] s5) fun s6 =>
                        some (.inl none, s6)
                else none
          else none
      else none
    else none
set_option maxRecDepth 100000 in
theorem cE_294_0 (run : cm_RN) (x1 : Int) (s : cm_S) : cm_lp run cm_k294 0 [some (.inr (.inl 41)), some (.inl x1), none] [] s = cF_294_0 run (cm_lp run cm_k294) x1 s := (cm_lp_eq run cm_k294 0 _ _ s).trans rfl
/-- ScriptFrontModel.printRow, from 0 on -/
def cF_295_0 (run : cm_RN) (X : cm_X) (x1 : Int) (x2 : Int) (x3 : Int) (s : cm_S) : Option cm_R :=
  if x2 = (-1) then
    some (.inl none, s)
  else
    if (0 : Int) ≤ x2 ∧ x2 < 500 then
      if (s.2 47 x2) = 23 then
        some (.inl none, s)
      else
        if 0 < (cm_and x3 512) then
          X 18 [some (.inr (.inl 41)), some (.inl x1), some (.inl x2), some (.inl x3), none, none] [.inl 1] s
        else
          X 18 [some (.inr (.inl 41)), some (.inl x1), some (.inl x2), some (.inl x3), none, none] [.inl 0] s
    else none
set_option maxRecDepth 100000 in
theorem cE_295_0 (run : cm_RN) (x1 : Int) (x2 : Int) (x3 : Int) (s : cm_S) : cm_lp run cm_k295 0 [some (.inr (.inl 41)), some (.inl x1), some (.inl x2), some (.inl x3), none, none] [] s = cF_295_0 run (cm_lp run cm_k295) x1 x2 x3 s := (cm_lp_eq run cm_k295 0 _ _ s).trans rfl
/-- ScriptFrontModel.printRow, from 17 on -/
def cF_295_18 (run : cm_RN) (X : cm_X) (x1 : Int) (x2 : Int) (x3 : Int) (o4 : Option cm_V) (o5 : Option cm_V) (y0 : Int) (s : cm_S) : Option cm_R :=
  if y0 = 0 then
    X 29 [some (.inr (.inl 41)), some (.inl x1), some (.inl x2), some (.inl x3), some (.inl y0), some (.inl (cm_or x3 512))] [] s
  else
    cm_bv (run 272 [.inr (.inl 41), .inl 44] s) fun s1 =>
      X 29 [some (.inr (.inl 41)), some (.inl x1), some (.inl x2), some (.inl x3), some (.inl y0), some (.inl (cm_or x3 512))] [] s1
set_option maxRecDepth 100000 in
theorem cE_295_18 (run : cm_RN) (x1 : Int) (x2 : Int) (x3 : Int) (o4 : Option cm_V) (o5 : Option cm_V) (y0 : Int) (s : cm_S) : cm_lp run cm_k295 18 [some (.inr (.inl 41)), some (.inl x1), some (.inl x2), some (.inl x3), o4, o5] [.inl y0] s = cF_295_18 run (cm_lp run cm_k295) x1 x2 x3 o4 o5 y0 s := (cm_lp_eq run cm_k295 18 _ _ s).trans rfl
/-- ScriptFrontModel.printRow, from 27 on -/
def cF_295_29 (run : cm_RN) (X : cm_X) (x1 : Int) (x2 : Int) (x3 : Int) (o4 : Option cm_V) (x5 : Int) (s : cm_S) : Option cm_R :=
  if x1 = 11 then
    if (0 : Int) ≤ x2 ∧ x2 < 500 then
      if (s.2 47 x2) = 21 then
        if (0 : Int) ≤ x2 ∧ x2 < 500 then
          if (s.2 51 x2) = (-1) then
            cm_bv (run 272 [.inr (.inl 41), .inl 44] s) fun s1 =>
              X 48 [some (.inr (.inl 41)), some (.inl x1), some (.inl x2), some (.inl x3), o4, some (.inl x5)] [] s1
          else
            X 48 [some (.inr (.inl 41)), some (.inl x1), some (.inl x2), some (.inl x3), o4, some (.inl x5)] [] s
        else none
      else
        X 48 [some (.inr (.inl 41)), some (.inl x1), some (.inl x2), some (.inl x3), o4, some (.inl x5)] [] s
    else none
  else
    X 48 [some (.inr (.inl 41)), some (.inl x1), some (.inl x2), some (.inl x3), o4, some (.inl x5)] [] s
set_option maxRecDepth 100000 in
theorem cE_295_29 (run : cm_RN) (x1 : Int) (x2 : Int) (x3 : Int) (o4 : Option cm_V) (x5 : Int) (s : cm_S) : cm_lp run cm_k295 29 [some (.inr (.inl 41)), some (.inl x1), some (.inl x2), some (.inl x3), o4, some (.inl x5)] [] s = cF_295_29 run (cm_lp run cm_k295) x1 x2 x3 o4 x5 s := (cm_lp_eq run cm_k295 29 _ _ s).trans rfl
/-- ScriptFrontModel.printRow, from 45 on -/
def cF_295_48 (run : cm_RN) (X : cm_X) (x1 : Int) (x2 : Int) (x3 : Int) (o4 : Option cm_V) (x5 : Int) (s : cm_S) : Option cm_R :=
  if (0 : Int) ≤ x2 ∧ x2 < 500 then
    cm_bv (run 271 [.inr (.inl 41), .inl x1, .inl (s.2 51 x2), .inl x5] s) fun s1 =>
      if x1 = 6 then
        cm_bv (run 271 [.inr (.inl 41), .inl 3, .inl x2, .inl (cm_or 1 (cm_and x3 256))] s1) fun s2 =>
          some (.inl none, s2)
      else
        if x1 = 11 then
          if (0 : Int) ≤ x2 ∧ x2 < 500 then
            if (s1.2 47 x2) = 21 then
              if x1 = 7 then
                if (0 : Int) ≤ x2 ∧ x2 < 500 then
                  if 0 < (s1.2 53 x2) then
                    cm_bv (run 282 [.inr (.inl 41), .inl x2] s1) fun s3 =>
                      if (0 : Int) ≤ x2 ∧ x2 < 500 then
                        cm_bv (run 271 [.inr (.inl 41), .inl 3, .inl (s3.2 50 x2), .inl (cm_or 1 (cm_and x3 256))] s3) fun s4 =>
                          cm_bv (run 271 [.inr (.inl 41), .inl 1, .inl 61, .inl 0] s4) fun s5 =>
                            some (.inl none, s5)
                      else none
                  else
                    if x1 = 10 then
                      cm_bv (run 282 [.inr (.inl 41), .inl x2] s1) fun s6 =>
                        if (0 : Int) ≤ x2 ∧ x2 < 500 then
                          cm_bv (run 271 [.inr (.inl 41), .inl 3, .inl (s6.2 50 x2), .inl 1] s6) fun s7 =>
                            cm_bv (run 271 [.inr (.inl 41), .inl 1, .inl 58, .inl 0] s7) fun s8 =>
                              some (.inl none, s8)
                        else none
                    else
                      if x1 = 11 then
                        some (.inl none, s1)
                      else
                        cm_bv (run 282 [.inr (.inl 41), .inl x2] s1) fun s9 =>
                          some (.inl none, s9)
                else none
              else
                if x1 = 10 then
                  cm_bv (run 282 [.inr (.inl 41), .inl x2] s1) fun s10 =>
                    if (0 : Int) ≤ x2 ∧ x2 < 500 then
                      cm_bv (run 271 [.inr (.inl 41), .inl 3, .inl (s10.2 50 x2), .inl 1] s10) fun s11 =>
                        cm_bv (run 271 [.inr (.inl 41), .inl 1, .inl 58, .inl 0] s11) fun s12 =>
                          some (.inl none, s12)
                    else none
                else
                  if x1 = 11 then
                    some (.inl none, s1)
                  else
                    cm_bv (run 282 [.inr (.inl 41), .inl x2] s1) fun s13 =>
                      some (.inl none, s13)
            else
              cm_bv (run 271 [.inr (.inl 41), .inl 3, .inl x2, .inl (cm_or 1 (cm_and x3 256))] s1) fun s14 =>
                some (.inl none, s14)
          else none
        else
          if x1 = 7 then
            if (0 : Int) ≤ x2 ∧ x2 < 500 then
              if 0 < (s1.2 53 x2) then
                cm_bv (run 282 [.inr (.inl 41), .inl x2] s1) fun s15 =>
                  if (0 : Int) ≤ x2 ∧ x2 < 500 then
                    cm_bv (run 271 [.inr (.inl 41), .inl 3, .inl (s15.2 50 x2), .inl (cm_or 1 (cm_and x3 256))] s15) fun s16 =>
                      cm_bv (run 271 [.inr (.inl 41), .inl 1, .inl 61, .inl 0] s16) fun s17 =>
                        some (.inl none, s17)
                  else none
              else
                if x1 = 10 then
                  cm_bv (run 282 [.inr (.inl 41), .inl x2] s1) fun s18 =>
                    if (0 : Int) ≤ x2 ∧ x2 < 500 then
                      cm_bv (run 271 [.inr (.inl 41), .inl 3, .inl (s18.2 50 x2), .inl 1] s18) fun s19 =>
                        cm_bv (run 271 [.inr (.inl 41), .inl 1, .inl 58, .inl 0] s19) fun s20 =>
                          some (.inl none, s20)
                    else none
                else
                  if x1 = 11 then
                    some (.inl none, s1)
                  else
                    cm_bv (run 282 [.inr (.inl 41), .inl x2] s1) fun s21 =>
                      some (.inl none, s21)
            else none
          else
            if x1 = 10 then
              cm_bv (run 282 [.inr (.inl 41), .inl x2] s1) fun s22 =>
                if (0 : Int) ≤ x2 ∧ x2 < 500 then
                  cm_bv (run 271 [.inr (.inl 41), .inl 3, .inl (s22.2 50 x2), .inl 1] s22) fun s23 =>
                    cm_bv (run 271 [.inr (.inl 41), .inl 1, .inl 58, .inl 0] s23) fun s24 =>
                      some (.inl none, s24)
                else none
            else
              if x1 = 11 then
                some (.inl none, s1)
              else
                cm_bv (run 282 [.inr (.inl 41), .inl x2] s1) fun s25 =>
                  some (.inl none, s25)
  else none
set_option maxRecDepth 100000 in
theorem cE_295_48 (run : cm_RN) (x1 : Int) (x2 : Int) (x3 : Int) (o4 : Option cm_V) (x5 : Int) (s : cm_S) : cm_lp run cm_k295 48 [some (.inr (.inl 41)), some (.inl x1), some (.inl x2), some (.inl x3), o4, some (.inl x5)] [] s = cF_295_48 run (cm_lp run cm_k295) x1 x2 x3 o4 x5 s := (cm_lp_eq run cm_k295 48 _ _ s).trans rfl
/-- ScriptFrontModel.fault, from 0 on -/
def cF_296_0 (run : cm_RN) (X : cm_X) (x1 : Int) (s : cm_S) : Option cm_R :=
  if x1 = 0 then
    some (.inl (some (.inl (s.1 4108))), (cm_p s 4103 0))
  else
    if x1 = 1 then
      some (.inl (some (.inl (s.1 4109))), (cm_p s 4103 0))
    else
      if x1 = 2 then
        some (.inl (some (.inl (s.1 4110))), (cm_p s 4103 0))
      else
        some (.inl (some (.inl (-1))), (cm_p s 4103 0))
set_option maxRecDepth 100000 in
theorem cE_296_0 (run : cm_RN) (x1 : Int) (s : cm_S) : cm_lp run cm_k296 0 [some (.inr (.inl 41)), some (.inl x1)] [] s = cF_296_0 run (cm_lp run cm_k296) x1 s := (cm_lp_eq run cm_k296 0 _ _ s).trans rfl
/-- ScriptFrontModel.node, from 0 on -/
def cF_297_0 (run : cm_RN) (X : cm_X) (x1 : Int) (x2 : Int) (s : cm_S) : Option cm_R :=
  if x1 < 0 then
    some (.inl (some (.inl 0)), (cm_p s 4103 1))
  else
    if x1 < (s.1 4143) then
      if x2 < 0 then
        some (.inl (some (.inl 0)), (cm_p s 4103 1))
      else
        if 5 < x2 then
          some (.inl (some (.inl 0)), (cm_p s 4103 1))
        else
          if (0 : Int) ≤ (cm_w ((cm_w (6 * x1)) + x2)) ∧ (cm_w ((cm_w (6 * x1)) + x2)) < 3000 then
            some (.inl (some (.inl (s.2 67 (cm_w ((cm_w (6 * x1)) + x2))))), (cm_p s 4103 0))
          else none
    else
      some (.inl (some (.inl 0)), (cm_p s 4103 1))
set_option maxRecDepth 100000 in
theorem cE_297_0 (run : cm_RN) (x1 : Int) (x2 : Int) (s : cm_S) : cm_lp run cm_k297 0 [some (.inr (.inl 41)), some (.inl x1), some (.inl x2)] [] s = cF_297_0 run (cm_lp run cm_k297) x1 x2 s := (cm_lp_eq run cm_k297 0 _ _ s).trans rfl
/-- ScriptFrontModel.many, from 0 on -/
def cF_298_0 (run : cm_RN) (X : cm_X) (x1 : Int) (s : cm_S) : Option cm_R :=
  X 8 [some (.inr (.inl 41)), some (.inl x1), some (.inl 0), some (.inl 0)] [] (cm_p s 4103 0)
set_option maxRecDepth 100000 in
theorem cE_298_0 (run : cm_RN) (x1 : Int) (s : cm_S) : cm_lp run cm_k298 0 [some (.inr (.inl 41)), some (.inl x1), none, none] [] s = cF_298_0 run (cm_lp run cm_k298) x1 s := (cm_lp_eq run cm_k298 0 _ _ s).trans rfl
/-- ScriptFrontModel.many, from 7 on -/
def cF_298_8 (run : cm_RN) (X : cm_X) (x1 : Int) (x2 : Int) (x3 : Int) (s : cm_S) : Option cm_R :=
  if x3 < (s.1 4143) then
    if (0 : Int) ≤ (cm_w (6 * x3)) ∧ (cm_w (6 * x3)) < 3000 then
      if (s.2 67 (cm_w (6 * x3))) = x1 then
        X 8 [some (.inr (.inl 41)), some (.inl x1), some (.inl (cm_w (x2 + 1))), some (.inl (cm_w (x3 + 1)))] [] s
      else
        X 8 [some (.inr (.inl 41)), some (.inl x1), some (.inl x2), some (.inl (cm_w (x3 + 1)))] [] s
    else none
  else
    some (.inl (some (.inl x2)), s)
set_option maxRecDepth 100000 in
theorem cE_298_8 (run : cm_RN) (x1 : Int) (x2 : Int) (x3 : Int) (s : cm_S) : cm_lp run cm_k298 8 [some (.inr (.inl 41)), some (.inl x1), some (.inl x2), some (.inl x3)] [] s = cF_298_8 run (cm_lp run cm_k298) x1 x2 x3 s := (cm_lp_eq run cm_k298 8 _ _ s).trans rfl
/-- ScriptFrontModel.printed, from 0 on -/
def cF_299_0 (run : cm_RN) (X : cm_X) (x1 : Int) (s : cm_S) : Option cm_R :=
  if x1 = (-1) then
    some (.inl (some (.inl (s.1 4148))), (cm_p s 4103 0))
  else
    if x1 < 0 then
      some (.inl (some (.inl (-1))), (cm_p s 4103 0))
    else
      if x1 < (s.1 4148) then
        if (0 : Int) ≤ x1 ∧ x1 < 1500 then
          some (.inl (some (.inl (s.2 68 x1))), (cm_p s 4103 0))
        else none
      else
        some (.inl (some (.inl (-1))), (cm_p s 4103 0))
set_option maxRecDepth 100000 in
theorem cE_299_0 (run : cm_RN) (x1 : Int) (s : cm_S) : cm_lp run cm_k299 0 [some (.inr (.inl 41)), some (.inl x1)] [] s = cF_299_0 run (cm_lp run cm_k299) x1 s := (cm_lp_eq run cm_k299 0 _ _ s).trans rfl
/-- ScriptFrontModel.again, from 0 on -/
def cF_300_0 (run : cm_RN) (X : cm_X) (s : cm_S) : Option cm_R :=
  if (s.1 4142) = 0 then
    some (.inl (some (.inl 0)), (cm_p s 4103 0))
  else
    if 480 < (s.1 4148) then
      some (.inl (some (.inl 0)), (cm_p s 4103 0))
    else
      X 15 [some (.inr (.inl 41)), some (.inl 0)] [] (cm_p s 4103 0)
set_option maxRecDepth 100000 in
theorem cE_300_0 (run : cm_RN) (s : cm_S) : cm_lp run cm_k300 0 [some (.inr (.inl 41)), none] [] s = cF_300_0 run (cm_lp run cm_k300) s := (cm_lp_eq run cm_k300 0 _ _ s).trans rfl
/-- ScriptFrontModel.again, from 14 on -/
def cF_300_15 (run : cm_RN) (X : cm_X) (x1 : Int) (s : cm_S) : Option cm_R :=
  if x1 < (s.1 4148) then
    if (0 : Int) ≤ x1 ∧ x1 < 1500 then
      if (0 : Int) ≤ x1 ∧ x1 < 480 then
        (if (-128) ≤ (s.2 68 x1) ∧ (s.2 68 x1) < 128 then
          X 15 [some (.inr (.inl 41)), some (.inl (cm_w (x1 + 1)))] [] (cm_q s 45 x1 (s.2 68 x1))
        else none)
      else none
    else none
  else
    some (.inl (some (.inl 1)), (cm_p s 4106 (s.1 4148)))
set_option maxRecDepth 100000 in
theorem cE_300_15 (run : cm_RN) (x1 : Int) (s : cm_S) : cm_lp run cm_k300 15 [some (.inr (.inl 41)), some (.inl x1)] [] s = cF_300_15 run (cm_lp run cm_k300) x1 s := (cm_lp_eq run cm_k300 15 _ _ s).trans rfl
