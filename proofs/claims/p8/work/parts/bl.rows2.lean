/-! ===== the reference's printer: holes, properties, parameters, variables, statements, cases ===== -/
section TXa7
variable {tx : Int → Int} {n : Int}
theorem PT_cg {T : tT} {o1 : Option cm_V} {K K1 : List pE} {a b : List tok} (e : ∀ st, ems st a = ems st b) (h : PT tx n T o1 K a K1) : PT tx n T o1 K b K1 := fun st r o2 o3 o4 q hl => by
  rw [← e st] at hl ⊢
  exact h st r o2 o3 o4 q hl
theorem QM_pl {T : tT} {K K' : List pE} {ws : List tok} {a b c : Int} {X g : cm_S → Option cm_R} (hK : K.length < 1000) (he : ∀ r, rJ tx n r T → X r = cm_bv (cm_sem 271 [.inr (.inl 41), .inl a, .inl b, .inl c] r) g) (h2 : QM tx n T g ((a, b, c) :: K) ws K') : QM tx n T X K ws K' := QM_eq he (QM_bv (a := []) (QM_plan hK a b c) h2)
theorem QM_sg {T : tT} {K K' : List pE} {ws : List tok} {c : Int} {X g : cm_S → Option cm_R} (hc : c ∈ sgC) (he : ∀ r, rJ tx n r T → X r = cm_bv (cm_sem 272 [.inr (.inl 41), .inl c] r) g) (h2 : QM tx n T g K ws K') : QM tx n T X K (([c], false) :: ws) K' := QM_eq he (QM_bv (a := [([c], false)]) (QM_sign hc) h2)
theorem QM_wo {T : tT} {K K' : List pE} {ws : List tok} {w : Nat} {X g : cm_S → Option cm_R} (hw : w < 27) (he : ∀ r, rJ tx n r T → X r = cm_bv (cm_sem 275 [.inr (.inl 41), .inl (w : Int)] r) g) (h2 : QM tx n T g K ws K') : QM tx n T X K ((wdS.getD w [], false) :: ws) K' := QM_eq he (QM_bv (a := [(wdS.getD w [], false)]) (QM_word hw) h2)
theorem QM_to (ht : tOk tx n) {T : tT} {K K' : List pE} {ws : List tok} {i : Int} {X g : cm_S → Option cm_R} (h0 : 0 ≤ i) (h1 : i < tSz T) (hn : 0 < lbN (nLb (nT T i))) (h38 : (nLb (nT T i)).1 ≠ 38) {b : Bool} (hb : b = decide ((nLb (nT T i)).1 = 33 ∨ (nLb (nT T i)).1 = 35)) (he : ∀ r, rJ tx n r T → X r = cm_bv (cm_sem 282 [.inr (.inl 41), .inl (nO T i)] r) g) (h2 : QM tx n T g K ws K') : QM tx n T X K (xTk tx n (nLb (nT T i)) b ++ ws) K' := QM_eq he (QM_bv (QM_tok ht h0 h1 hn h38 hb) h2)
theorem QM_nd {T : tT} {K : List pE} {X : cm_S → Option cm_R} (he : ∀ r, rJ tx n r T → X r = some (.inl none, r)) : QM tx n T X K [] K := QM_eq he QM_ret
theorem bt_le {pk c i w : Int} {l : tLb} {ch : tF} {ni fc : Bool} (hw : w = tWn pk c i) (hf : fc = true → l.1 = 33 ∨ (pk = 42 ∧ i = 0 ∧ tCa (l, ch) = true)) : (if vBr l w ni fc = true then (1 : Int) else 0) ≤ (if tB l < tWn pk c i ∨ pk = 42 ∧ i = 0 ∧ tCa (l, ch) = true then 2 else 0) + slF l ch := by
  have sl := slF_01 l ch
  rw [← hw]
  by_cases q : vBr l w ni fc = true
  · rw [if_pos q]
    unfold vBr at q
    rw [Bool.or_eq_true, Bool.or_eq_true, decide_eq_true_iff, Bool.and_eq_true, decide_eq_true_iff] at q
    rcases q with q | q | q
    · rcases hf q with e | e
      · have : slF l ch = 1 := by
          unfold slF
          rw [if_neg (by omega), if_pos (by omega)]
        split <;> omega
      · rw [if_pos (Or.inr e)]; omega
    · rw [if_pos (Or.inl q)]; omega
    · have : slF l ch = 2 := if_pos ⟨q.2.2, q.2.1⟩
      split <;> omega
  · rw [if_neg q]
    split <;> omega
theorem brN (pk c i : Int) (l : tLb) (ch : tF) : 0 ≤ (if tB l < tWn pk c i ∨ pk = 42 ∧ i = 0 ∧ tCa (l, ch) = true then (2 : Int) else 0) := by split <;> omega
theorem tWt_0 {l : tLb} {ch : tF} (f1 : gT tx n l) (f2 : gC l.1 (fK ch)) (f4 : gF tx n ch) : 0 ≤ tWt (l, ch) := by
  have a := tOw_0 f1 f2
  have b := fWt_0 ch l.1 (lbC l) 0 f4
  show 0 ≤ tOw l (fLn ch) + fWt l.1 (lbC l) 0 ch
  omega
def fLf : tF → Bool
  | .leaf => true
  | .inner _ _ _ _ _ => false
/-- HOLES -/
def hoB (tx : Int → Int) (n : Int) (l : tLb) (ch re : tF) : List tok := if l.1 = 21 then (if fLf re = true then [kTok 1005] else []) else vT tx n l ch false (vBr l 1 false false)
def hoT (tx : Int → Int) (n : Int) : Bool → tF → List tok
  | _, .leaf => []
  | fc, .inner _ l _ ch re => (if fc = true then [kTok 1005] else []) ++ (hoB tx n l ch re ++ hoT tx n true re)
theorem PT_11 (ht : tOk tx n) {T : tT} {o1 : Option cm_V} {c : Int} : ∀ (f : tF) (k i : Int) (K : List pE) (fc : Bool), fAt T k f → SVd tx n T o1 k f → gF tx n f → (∀ x ∈ fK f, isE x ∨ x = 21) → 0 ≤ k → k + fSz f ≤ tSz T → (K.length : Int) + 1 + fWt 36 c i f ≤ 1000 → PT tx n T o1 ((11, nNum T k f, asW 0 false fc) :: K) (hoT tx n fc f) K := by
  intro f
  induction f with
  | leaf =>
    intro k i K fc _ _ _ _ _ _ hr
    have e : fWt 36 c i .leaf = 0 := rfl
    exact PT_rn (by omega) (by omega)
  | inner x l u ch re i1 i2 =>
    intro k i K fc hA hS hF hk k0 k9 hr
    have e : fSz (.inner x l u ch re) = 1 + fSz ch + fSz re := rfl
    have c0 := fSz_0 ch
    have r0 := fSz_0 re
    have k1 : k < tSz T := by omega
    obtain ⟨hl, hch, hre⟩ := fAt_in hA
    obtain ⟨f1, f2, f3, f4, f5⟩ := hF
    obtain ⟨s1, s2, s3, s4⟩ := hS
    have fr := fAt_re (T := T) k0 k1
    rw [hch, hre] at fr
    have fw : fWt 36 c i (.inner x l u ch re) = tWt (l, ch) + (if tB l < tWn 36 c i ∨ (36 : Int) = 42 ∧ i = 0 ∧ tCa (l, ch) = true then 2 else 0) + fWt 36 c (i + 1) re := rfl
    have f0 := fWt_0 re 36 c (i + 1) f5
    have w0 := tWt_0 f1 f2 f4
    have b0 := brN 36 c i l ch
    have bt := bt_le (pk := 36) (c := c) (i := i) (w := 1) (l := l) (ch := ch) (ni := false) (fc := false) rfl (fun z => by cases z)
    rw [fw] at hr
    generalize (if tB l < tWn 36 c i ∨ (36 : Int) = 42 ∧ i = 0 ∧ tCa (l, ch) = true then (2 : Int) else 0) = B at *
    have en : nNum T k (.inner x l u ch re) = nO T k := rfl
    have hk23 : l.1 ≠ 23 := by
      have := hk l.1 (List.mem_cons_self ..)
      unfold isE at this
      omega
    have et : hoT tx n fc (.inner x l u ch re) = ((if fc = true then [kTok 1005] else []) ++ (if l.1 = 21 then (if fLf re = true then [kTok 1005] else []) else [])) ++ ((if l.1 = 21 then [] else vT tx n l ch false (vBr l 1 false false)) ++ hoT tx n true re) := by
      show (if fc = true then [kTok 1005] else []) ++ (hoB tx n l ch re ++ hoT tx n true re) = _
      unfold hoB
      by_cases h21 : l.1 = 21
      · rw [if_pos h21, if_pos h21, if_pos h21, List.append_assoc, List.nil_append]
      · rw [if_neg h21, if_neg h21, if_neg h21, List.append_nil]
    have rest := i2 (k + 1 + fSz ch) (i + 1) K true fr s4 f5 (fun y hy => hk y (List.mem_cons_of_mem _ hy)) (by omega) (by omega) (by omega)
    rw [en, et]
    by_cases h21 : l.1 = 21
    · rw [if_pos h21, if_pos h21, List.nil_append]
      refine PT_tr (K1 := (11, nNum T (k + 1 + fSz ch) re, asW 0 false true) :: K) (PT_ro (by omega) (by omega) (QM_eq (fun r h => r_295 h hA k0 k1 hk23 (by decide) (by decide)) (QM_cm ?_))) rest
      have q48 : QM tx n T (fun s => cm_lp cm_sem cm_k295 48 [some (.inr (.inl 41)), some (.inl 11), some (.inl (nO T k)), some (.inl (asW 0 false fc)), some (.inl (if fc = true then 1 else 0)), some (.inl (asW 0 false true))] [] s) K [] ((11, nNum T (k + 1 + fSz ch) re, asW 0 false true) :: K) := QM_pl (by omega) (fun r h => by
          rw [cE_295_48, cF_295_48, if_pos (h.no k0 k1), (h.nf hA k0 k1).1]) (QM_nd fun r h => by
          rw [if_neg (by decide), if_pos rfl, if_pos (h.no k0 k1), (h.nf hA k0 k1).2.2.1, if_pos h21, if_neg (by decide), if_neg (by decide), if_pos rfl])
      cases re with
      | leaf =>
        refine QM_sg (c := 44) (by decide) (fun r h => ?_) q48
        show rw29 T k 11 0 false fc r = _
        unfold rw29
        rw [cE_295_29, cF_295_29, if_pos rfl, if_pos (h.no k0 k1), (h.nf hA k0 k1).2.2.1, if_pos h21, if_pos (h.no k0 k1), (h.nf hA k0 k1).1, if_pos (show nNum T (k + 1 + fSz ch) .leaf = -1 from rfl)]
      | inner x2 l2 u2 ch2 re2 =>
        refine QM_eq (fun r h => ?_) q48
        have := h.no (i := k + 1 + fSz ch) (by omega) (by
          have e2 : fSz (.inner x2 l2 u2 ch2 re2) = 1 + fSz ch2 + fSz re2 := rfl
          have := fSz_0 ch2
          have := fSz_0 re2
          omega)
        show rw29 T k 11 0 false fc r = _
        unfold rw29
        rw [cE_295_29, cF_295_29, if_pos rfl, if_pos (h.no k0 k1), (h.nf hA k0 k1).2.2.1, if_pos h21, if_pos (h.no k0 k1), (h.nf hA k0 k1).1, if_neg (show ¬ nNum T (k + 1 + fSz ch) (.inner x2 l2 u2 ch2 re2) = -1 from fun z => by
          have z' : nO T (k + 1 + fSz ch) = -1 := z
          omega)]
    · rw [if_neg h21, if_neg h21]
      have lE : isE l.1 := (hk l.1 (List.mem_cons_self ..)).resolve_right h21
      have tw := tWs ht lE f1 f2 f4
      have sl := slF_01 l ch
      refine PT_tr (K1 := (3, nO T k, asW 1 false false) :: (11, nNum T (k + 1 + fSz ch) re, asW 0 false true) :: K) (PT_ro (by omega) (by omega) (QM_eq (fun r h => r_295 h hA k0 k1 hk23 (by decide) (by decide)) (QM_cm ?_))) (PT_tr (s1 lE _ 1 false false (by decide) (by decide) (by rw [List.length_cons]; omega)) rest)
      refine QM_eq (fun r h => ?_) (QM_pl (X := fun s => cm_lp cm_sem cm_k295 48 [some (.inr (.inl 41)), some (.inl 11), some (.inl (nO T k)), some (.inl (asW 0 false fc)), some (.inl (if fc = true then 1 else 0)), some (.inl (asW 0 false true))] [] s) (by omega) (fun r h => by
          rw [cE_295_48, cF_295_48, if_pos (h.no k0 k1), (h.nf hA k0 k1).1]) (QM_pl (by rw [List.length_cons]; omega) (fun r h => by
          have a4 : cm_and (asW 0 false fc) 256 = 0 := (asW_f 0 (by decide) false fc).2.2.2.1
          rw [if_neg (by decide), if_pos rfl, if_pos (h.no k0 k1), (h.nf hA k0 k1).2.2.1, if_neg h21, a4]
          rfl) (QM_nd fun r h => rfl)))
      show rw29 T k 11 0 false fc r = _
      unfold rw29
      rw [cE_295_29, cF_295_29, if_pos rfl, if_pos (h.no k0 k1), (h.nf hA k0 k1).2.2.1, if_neg h21]
theorem rl_282p (ht : tOk tx n) {T : tT} {i : Int} (h0 : 0 ≤ i) (h1 : i < tSz T) (hn : 0 < lbN (nLb (nT T i))) (h38 : (nLb (nT T i)).1 = 38) : ∀ (k : Nat) (j : Int) (r : cm_S) (R : List Int), rJ tx n r T → 0 ≤ j → j + k = lbN (nLb (nT T i)) → rOu0 r R → (pushL R (tkL tx n (lbP (nLb (nT T i)) + j) k)).length ≤ 1024 → ∃ r' z, cm_lp cm_sem cm_k282 12 [some (.inr (.inl 41)), some (.inl (nO T i)), some (.inl j)] [] r = some (.inl none, cm_p r' 4154 z) ∧ eF r r' ∧ rOu0 r' (pushL R (tkL tx n (lbP (nLb (nT T i)) + j) k)) ∧ (z = 2 ∨ z = 4 ↔ (cD (tA tx n (lbP (nLb (nT T i)))) ∨ tA tx n (lbP (nLb (nT T i))) = 46)) := by
  have n9 := ht.2.1
  intro k
  induction k with
  | zero =>
    intro j r R h j0 hj ho _
    have o := h.no h0 h1
    have g := (h.g h0 h1).1
    obtain ⟨g1, g2, g3, -⟩ := g
    rw [cE_282_12, cF_282_12]
    simp only [if_pos o, h.ln h0 h1, h.pl h0 h1, h.kd h0 h1]
    rw [if_neg (by omega), if_pos (by omega), h.tex g1 (by omega), if_neg (by omega), cs_188, cm_bi_i]
    simp only [cm_b0, h.kd h0 h1]
    by_cases cd : cD (tA tx n (lbP (nLb (nT T i))))
    · rw [if_neg (fun z => z cd)]
      exact ⟨r, 2, rfl, eF_rf r, ho, fun _ => Or.inl cd, fun _ => Or.inl rfl⟩
    · rw [if_pos cd, if_neg (by omega), if_pos h38]
      by_cases cd2 : tA tx n (lbP (nLb (nT T i))) = 46
      · rw [if_pos cd2]
        exact ⟨r, 2, rfl, eF_rf r, ho, fun _ => Or.inr cd2, fun _ => Or.inl rfl⟩
      · rw [if_neg cd2]
        exact ⟨r, 1, rfl, eF_rf r, ho, fun z => by omega, fun z => absurd z (by rintro (q | q) <;> contradiction)⟩
  | succ k ih =>
    intro j r R h j0 hj ho hl
    have o := h.no h0 h1
    obtain ⟨g1, g2, g3, -⟩ := (h.g h0 h1).1
    have b := tx_b ht (p := lbP (nLb (nT T i)) + j) (by omega) (by omega)
    have hl' : (pushL (tA tx n (lbP (nLb (nT T i)) + j) :: R) (tkL tx n (lbP (nLb (nT T i)) + j + 1) k)).length ≤ 1024 := hl
    have pl := pushL_len (tkL tx n (lbP (nLb (nT T i)) + j + 1) k) (tA tx n (lbP (nLb (nT T i)) + j) :: R)
    rw [List.length_cons] at pl
    rw [cE_282_12, cF_282_12, if_pos o, h.ln h0 h1, if_pos (by omega), if_pos o, h.pl h0 h1, cm_w_id (by omega) (by omega), if_pos (by omega), h.tex (by omega) (by omega), cm_w_id (by omega) (by omega)]
    obtain ⟨r1, e1, f1, t1, o1⟩ := r_274 ho (by omega) (c := tA tx n (lbP (nLb (nT T i)) + j)) (by omega)
    rw [e1, cm_bv_o]
    obtain ⟨r2, z, e2, f2, o2, q2⟩ := ih (j + 1) r1 (tA tx n (lbP (nLb (nT T i)) + j) :: R) (h.fg f1.g) (by omega) (by omega) o1 (by rw [← Int.add_assoc]; exact hl')
    rw [← Int.add_assoc] at o2
    exact ⟨r2, z, e2, f1.tr f2, o2, q2⟩
theorem QE_tokp (ht : tOk tx n) {r : cm_S} {T : tT} (h : rJ tx n r T) {i : Int} (h0 : 0 ≤ i) (h1 : i < tSz T) (hn : 0 < lbN (nLb (nT T i))) (h38 : (nLb (nT T i)).1 = 38) {st : oS} (ho : rOut r st) (hl : (ems st (xTk tx n (nLb (nT T i)) false)).1.length ≤ 1024) : ∃ r' z, cm_sem 282 [.inr (.inl 41), .inl (nO T i)] r = some (.inl none, cm_p r' 4154 z) ∧ eF r r' ∧ rOu0 r' (ems st (xTk tx n (nLb (nT T i)) false)).1 ∧ (z = 2 ∨ z = 4 ↔ (cD (tA tx n (lbP (nLb (nT T i)))) ∨ tA tx n (lbP (nLb (nT T i))) = 46)) := by
  have n9 := ht.2.1
  have o := h.no h0 h1
  obtain ⟨g1, g2, g3, -⟩ := (h.g h0 h1).1
  have e : xTk tx n (nLb (nT T i)) false = [(tkL tx n (lbP (nLb (nT T i))) (lbN (nLb (nT T i))).toNat, false)] := if_pos hn
  rw [e] at hl ⊢
  obtain ⟨k, hk⟩ : ∃ k, (lbN (nLb (nT T i))).toNat = k + 1 := ⟨(lbN (nLb (nT T i))).toNat - 1, by omega⟩
  rw [hk] at hl ⊢
  have hl' : (pushL (sepR st (tA tx n (lbP (nLb (nT T i))))) (tkL tx n (lbP (nLb (nT T i))) (k + 1))).length ≤ 1024 := hl
  have pl := pushL_len (tkL tx n (lbP (nLb (nT T i))) (k + 1)) (sepR st (tA tx n (lbP (nLb (nT T i)))))
  rw [cS_282, cF_282_0, if_pos o, h.pl h0 h1, if_pos (by omega), h.tex g1 (by omega)]
  obtain ⟨r1, e1, f1, o1⟩ := r_273 ho (c := tA tx n (lbP (nLb (nT T i)))) (by omega)
  rw [e1, cm_bv_o]
  obtain ⟨r2, z, e2, f2, o2, q2⟩ := rl_282p ht h0 h1 hn h38 (k + 1) 0 r1 _ (h.fg f1.g) (Int.le_refl _) (by omega) o1 (by rw [Int.add_zero]; exact hl')
  rw [Int.add_zero] at o2
  exact ⟨r2, z, e2, f1.tr f2, o2, q2⟩
theorem QM_tokp (ht : tOk tx n) {T : tT} {K : List pE} {i : Int} (h0 : 0 ≤ i) (h1 : i < tSz T) (hn : 0 < lbN (nLb (nT T i))) (h38 : (nLb (nT T i)).1 = 38) : QM tx n T (fun r => cm_sem 282 [.inr (.inl 41), .inl (nO T i)] r) K (xTk tx n (nLb (nT T i)) (decide (cD (tA tx n (lbP (nLb (nT T i)))) ∨ tA tx n (lbP (nLb (nT T i))) = 46))) K := QM_e fun r st h ho hl => by
  have e : ∀ b, xTk tx n (nLb (nT T i)) b = [(tkL tx n (lbP (nLb (nT T i))) (lbN (nLb (nT T i))).toNat, b)] := fun b => if_pos hn
  obtain ⟨r', z, e1, f1, o1, q1⟩ := QE_tokp ht h h0 h1 hn h38 ho (by rw [e] at hl ⊢; exact hl)
  rw [e] at o1 ⊢
  refine ⟨_, e1, eF_t f1 z, rOut_t o1 ?_⟩
  rw [q1, decide_eq_true_iff]
/-- behind a key the : is written alike, whatever the key is -/
theorem key_cg (l : tLb) (b : Bool) (ws : List tok) (st : oS) : ems st (xTk tx n l b ++ (([58], false) :: ws)) = ems st (xTk tx n l false ++ (([58], false) :: ws)) := by
  unfold xTk
  split
  · show ems (emT (emT st (tkL tx n (lbP l) (lbN l).toNat, b)) ([58], false)) ws = ems (emT (emT st (tkL tx n (lbP l) (lbN l).toNat, false)) ([58], false)) ws
    have key : ∀ (R : List Int) (b : Bool), emT (R, b) ([58], false) = (58 :: R, false) := fun R b => by
      have : ¬ joins (R, b) 58 := by
        rintro (z | z)
        · exact absurd z.1 (by decide)
        · obtain ⟨-, -, z⟩ := z
          omega
      show (pushL (sepR (R, b) 58) [58], false) = _
      unfold sepR
      rw [if_neg this]
      rfl
    rw [show emT st (tkL tx n (lbP l) (lbN l).toNat, b) = ((emT st (tkL tx n (lbP l) (lbN l).toNat, false)).1, b) from rfl, key, show emT st (tkL tx n (lbP l) (lbN l).toNat, false) = ((emT st (tkL tx n (lbP l) (lbN l).toNat, false)).1, false) from rfl, key]
  · rfl
/-- PARTS -/
def paB (tx : Int → Int) (n : Int) : tF → List tok
  | .leaf => []
  | .inner _ l _ ch _ => vT tx n l ch false (vBr l 1 false false)
def paT (tx : Int → Int) (n : Int) : Bool → tF → List tok
  | _, .leaf => []
  | fc, .inner _ l _ ch re => (if fc = true then [kTok 1005] else []) ++ (xTk tx n l false ++ (kTok 1012 :: (paB tx n ch ++ paT tx n true re)))
theorem PT_10 (ht : tOk tx n) {T : tT} {o1 : Option cm_V} {c : Int} : ∀ (f : tF) (k i : Int) (K : List pE) (fc : Bool), fAt T k f → SVd tx n T o1 k f → gF tx n f → (∀ x ∈ fK f, x = 38) → 0 ≤ k → k + fSz f ≤ tSz T → (K.length : Int) + 1 + fWt 37 c i f ≤ 1000 → PT tx n T o1 ((10, nNum T k f, asW 0 false fc) :: K) (paT tx n fc f) K := by
  intro f
  induction f with
  | leaf =>
    intro k i K fc _ _ _ _ _ _ hr
    have e : fWt 37 c i .leaf = 0 := rfl
    exact PT_rn (by omega) (by omega)
  | inner x l u ch re i1 i2 =>
    intro k i K fc hA hS hF hk k0 k9 hr
    have e : fSz (.inner x l u ch re) = 1 + fSz ch + fSz re := rfl
    have c0 := fSz_0 ch
    have r0 := fSz_0 re
    have k1 : k < tSz T := by omega
    obtain ⟨hl, hch, hre⟩ := fAt_in hA
    obtain ⟨f1, f2, f3, f4, f5⟩ := hF
    obtain ⟨s1, s2, s3, s4⟩ := hS
    have fr := fAt_re (T := T) k0 k1
    rw [hch, hre] at fr
    have fc1 := fAt_ch (T := T) k0 k1
    rw [hch] at fc1
    have f0 := fWt_0 re 37 c (i + 1) f5
    have w0 := tWt_0 f1 f2 f4
    have b0 := brN 37 c i l ch
    have fw : fWt 37 c i (.inner x l u ch re) = tWt (l, ch) + (if tB l < tWn 37 c i ∨ (37 : Int) = 42 ∧ i = 0 ∧ tCa (l, ch) = true then 2 else 0) + fWt 37 c (i + 1) re := rfl
    rw [fw] at hr
    generalize (if tB l < tWn 37 c i ∨ (37 : Int) = 42 ∧ i = 0 ∧ tCa (l, ch) = true then (2 : Int) else 0) = B at *
    have en : nNum T k (.inner x l u ch re) = nO T k := rfl
    have h38 : l.1 = 38 := hk l.1 (List.mem_cons_self ..)
    have ln := gT_len ht f1 (by omega)
    have f2' : ∃ a, fK ch = [a] ∧ isE a := by
      unfold gC at f2
      rw [h38] at f2
      exact f2
    have rest := i2 (k + 1 + fSz ch) (i + 1) K true fr s4 f5 (fun y hy => hk y (List.mem_cons_of_mem _ hy)) (by omega) (by omega) (by omega)
    obtain ⟨a, ea, iE⟩ := f2'
    cases ch with
    | leaf => cases ea
    | inner x1 l1 u1 c1 r1 =>
      have ek : fK (.inner x1 l1 u1 c1 r1) = l1.1 :: fK r1 := rfl
      rw [ek] at ea
      obtain ⟨e1, e2⟩ := List.cons.inj ea
      rw [← e1] at iE
      obtain ⟨v1, v2, v3, v4⟩ := s3
      obtain ⟨g1, g2, g3, g4, g5⟩ := f4
      have tw1 := tWs ht iE g1 g2 g4
      have sl1 := slF_01 l1 c1
      have ow : tOw l (fLn (.inner x1 l1 u1 c1 r1)) = 2 * lbN l + 1 := by simp [tOw, h38]
      have bt := bt_le (pk := 38) (c := lbC l) (i := 0) (w := 1) (l := l1) (ch := c1) (ni := false) (fc := false) rfl (fun z => by cases z)
      have wt : tWt (l, .inner x1 l1 u1 c1 r1) = tOw l (fLn (.inner x1 l1 u1 c1 r1)) + (tWt (l1, c1) + (if tB l1 < tWn 38 (lbC l) 0 ∨ (38 : Int) = 42 ∧ (0 : Int) = 0 ∧ tCa (l1, c1) = true then 2 else 0) + fWt 38 (lbC l) (0 + 1) r1) := by rw [← h38]; rfl
      have f01 := fWt_0 r1 38 (lbC l) (0 + 1) g5
      have nl := (fAt_in fc1).1
      rw [wt, ow] at hr
      generalize (if tB l1 < tWn 38 (lbC l) 0 ∨ (38 : Int) = 42 ∧ (0 : Int) = 0 ∧ tCa (l1, c1) = true then (2 : Int) else 0) = B1 at *
      rw [en]
      refine PT_cg (a := ((if fc = true then [kTok 1005] else []) ++ (xTk tx n l (decide (cD (tA tx n (lbP l)) ∨ tA tx n (lbP l) = 46)) ++ [])) ++ ([([58], false)] ++ (vT tx n l1 c1 false (vBr l1 1 false false) ++ paT tx n true re))) (fun st => ?_) ?_
      · show _ = ems st ((if fc = true then [kTok 1005] else []) ++ (xTk tx n l false ++ (([58], false) :: (vT tx n l1 c1 false (vBr l1 1 false false) ++ paT tx n true re))))
        rw [List.append_nil, List.append_assoc, ems_ap (if fc = true then [kTok 1005] else []), ems_ap (if fc = true then [kTok 1005] else [])]
        exact key_cg l _ _ _
      · refine PT_tr (K1 := (1, 58, 0) :: (3, nO T (k + 1), asW 1 false false) :: (10, nNum T (k + 1 + fSz (.inner x1 l1 u1 c1 r1)) re, asW 0 false true) :: K) (PT_ro (by omega) (by omega) (QM_eq (fun r h => r_295 h hA k0 k1 (by omega) (by decide) (by decide)) (QM_cm ?_))) (PT_tr (PT_1 (by simp only [List.length_cons]; omega) (by decide)) (PT_tr (v1 iE _ 1 false false (by decide) (by decide) (by simp only [List.length_cons]; omega)) rest))
        exact QM_pl (by omega) (fun r h => by
          show rw29 T k 10 0 false fc r = _
          unfold rw29
          rw [cE_295_29, cF_295_29, if_neg (by decide), cE_295_48, cF_295_48, if_pos (h.no k0 k1), (h.nf hA k0 k1).1]) (QM_eq (fun r h => by
          rw [if_neg (by decide), if_neg (by decide), if_neg (by decide), if_pos rfl]) (QM_bv (y := fun s2 => if (0 : Int) ≤ nO T k ∧ nO T k < 500 then cm_bv (cm_sem 271 [.inr (.inl 41), .inl 3, .inl (s2.2 50 (nO T k)), .inl 1] s2) fun s3 => cm_bv (cm_sem 271 [.inr (.inl 41), .inl 1, .inl 58, .inl 0] s3) fun s4 => some (.inl none, s4) else none) (by have := QM_tokp (K := (10, nNum T (k + 1 + fSz (.inner x1 l1 u1 c1 r1)) re, asW 0 false true) :: K) ht k0 k1 (by rw [hl]; exact ln) (by rw [hl]; exact h38); rw [hl] at this; exact this) (QM_pl (by simp only [List.length_cons]; omega) (fun r h => by
          rw [if_pos (h.no k0 k1), (h.nf hA k0 k1).2.1]
          rfl) (QM_pl (by simp only [List.length_cons]; omega) (fun r h => rfl) (QM_nd fun r h => rfl)))))
/-- PARAMETERS -/
def pmT (tx : Int → Int) (n : Int) : Bool → tF → List tok
  | _, .leaf => []
  | fc, .inner _ l _ _ re => if l.1 = 23 then [] else (if fc = true then [kTok 1005] else []) ++ (xTk tx n l false ++ pmT tx n true re)
theorem PT_9 (ht : tOk tx n) {T : tT} {o1 : Option cm_V} {pk c : Int} : ∀ (f : tF) (k i : Int) (K : List pE) (fc : Bool), fAt T k f → SVd tx n T o1 k f → gF tx n f → (∀ x ∈ fK f, x = 22 ∨ x = 23) → 0 ≤ k → k + fSz f ≤ tSz T → (K.length : Int) + 1 + fWt pk c i f ≤ 1000 → PT tx n T o1 ((9, nNum T k f, asW 0 false fc) :: K) (pmT tx n fc f) K := by
  intro f
  induction f with
  | leaf =>
    intro k i K fc _ _ _ _ _ _ hr
    have e : fWt pk c i .leaf = 0 := rfl
    exact PT_rn (by omega) (by omega)
  | inner x l u ch re i1 i2 =>
    intro k i K fc hA hS hF hk k0 k9 hr
    have e : fSz (.inner x l u ch re) = 1 + fSz ch + fSz re := rfl
    have c0 := fSz_0 ch
    have r0 := fSz_0 re
    have k1 : k < tSz T := by omega
    obtain ⟨hl, hch, hre⟩ := fAt_in hA
    obtain ⟨f1, f2, f3, f4, f5⟩ := hF
    obtain ⟨s1, s2, s3, s4⟩ := hS
    have fr := fAt_re (T := T) k0 k1
    rw [hch, hre] at fr
    have fc1 := fAt_ch (T := T) k0 k1
    rw [hch] at fc1
    have f0 := fWt_0 re pk c (i + 1) f5
    have w0 := tWt_0 f1 f2 f4
    have b0 := brN pk c i l ch
    have fw : fWt pk c i (.inner x l u ch re) = tWt (l, ch) + (if tB l < tWn pk c i ∨ pk = 42 ∧ i = 0 ∧ tCa (l, ch) = true then 2 else 0) + fWt pk c (i + 1) re := rfl
    rw [fw] at hr
    generalize (if tB l < tWn pk c i ∨ pk = 42 ∧ i = 0 ∧ tCa (l, ch) = true then (2 : Int) else 0) = B at *
    have en : nNum T k (.inner x l u ch re) = nO T k := rfl
    have rest := fun h => i2 (k + 1 + fSz ch) (i + 1) K true fr s4 f5 (fun y hy => hk y (List.mem_cons_of_mem _ hy)) (by omega) (by omega) h
    rw [en]
    by_cases h23 : l.1 = 23
    · rw [show pmT tx n fc (.inner x l u ch re) = [] from if_pos h23]
      refine PT_ro (by omega) (by omega) (QM_nd fun r h => ?_)
      have o := h.no k0 k1
      rw [cS_295, cF_295_0, if_neg (by omega), if_pos o, (h.nf hA k0 k1).2.2.1, if_pos h23]
    · have h22 : l.1 = 22 := by
        have := hk l.1 (List.mem_cons_self ..)
        omega
      have ln := gT_len ht f1 (by omega)
      rw [show pmT tx n fc (.inner x l u ch re) = ((if fc = true then [kTok 1005] else []) ++ (xTk tx n l false ++ [])) ++ pmT tx n true re by
        rw [List.append_nil, List.append_assoc]
        exact if_neg h23]
      refine PT_tr (K1 := (9, nNum T (k + 1 + fSz ch) re, asW 0 false true) :: K) (PT_ro (by omega) (by omega) (QM_eq (fun r h => r_295 h hA k0 k1 h23 (by decide) (by decide)) (QM_cm ?_))) (rest (by omega))
      refine QM_pl (by omega) (fun r h => ?_) (by
        have q := QM_to (X := fun s => cm_bv (cm_sem 282 [.inr (.inl 41), .inl (nO T k)] s) fun s1 => some (.inl none, s1)) (K := (9, nNum T (k + 1 + fSz ch) re, asW 0 false true) :: K) (b := false) ht k0 k1 (by rw [hl]; exact ln) (by rw [hl]; omega) (by rw [hl]; exact (decide_eq_false (by omega)).symm) (fun r h => rfl) (QM_nd fun r h => rfl)
        rw [hl] at q
        exact q)
      show rw29 T k 9 0 false fc r = _
      unfold rw29
      rw [cE_295_29, cF_295_29, if_neg (by decide), cE_295_48, cF_295_48, if_pos (h.no k0 k1), (h.nf hA k0 k1).1]
      simp only [if_neg (show ¬ (9 : Int) = 6 by decide), if_neg (show ¬ (9 : Int) = 11 by decide), if_neg (show ¬ (9 : Int) = 7 by decide), if_neg (show ¬ (9 : Int) = 10 by decide)]
/-- VARIABLES -/
def viT (tx : Int → Int) (n : Int) (ni : Bool) : tF → List tok
  | .leaf => []
  | .inner _ l _ ch _ => kTok 1014 :: vT tx n l ch ni (vBr l 1 ni false)
def vaT (tx : Int → Int) (n : Int) (ni : Bool) : Bool → tF → List tok
  | _, .leaf => []
  | fc, .inner _ l _ ch re => (if fc = true then [kTok 1005] else []) ++ (xTk tx n l false ++ (viT tx n ni ch ++ vaT tx n ni true re))
theorem PT_7 (ht : tOk tx n) {T : tT} {o1 : Option cm_V} {c : Int} (ni : Bool) : ∀ (f : tF) (k i : Int) (K : List pE) (fc : Bool), fAt T k f → SVd tx n T o1 k f → gF tx n f → (∀ x ∈ fK f, x = 3) → 0 ≤ k → k + fSz f ≤ tSz T → (K.length : Int) + 1 + fWt 2 c i f ≤ 1000 → PT tx n T o1 ((7, nNum T k f, asW 0 ni fc) :: K) (vaT tx n ni fc f) K := by
  intro f
  induction f with
  | leaf =>
    intro k i K fc _ _ _ _ _ _ hr
    have e : fWt 2 c i .leaf = 0 := rfl
    exact PT_rn (by omega) (by omega)
  | inner x l u ch re i1 i2 =>
    intro k i K fc hA hS hF hk k0 k9 hr
    have e : fSz (.inner x l u ch re) = 1 + fSz ch + fSz re := rfl
    have c0 := fSz_0 ch
    have r0 := fSz_0 re
    have k1 : k < tSz T := by omega
    obtain ⟨hl, hch, hre⟩ := fAt_in hA
    obtain ⟨f1, f2, f3, f4, f5⟩ := hF
    obtain ⟨s1, s2, s3, s4⟩ := hS
    have fr := fAt_re (T := T) k0 k1
    rw [hch, hre] at fr
    have fc1 := fAt_ch (T := T) k0 k1
    rw [hch] at fc1
    have f0 := fWt_0 re 2 c (i + 1) f5
    have w0 := tWt_0 f1 f2 f4
    have b0 := brN 2 c i l ch
    have fw : fWt 2 c i (.inner x l u ch re) = tWt (l, ch) + (if tB l < tWn 2 c i ∨ (2 : Int) = 42 ∧ i = 0 ∧ tCa (l, ch) = true then 2 else 0) + fWt 2 c (i + 1) re := rfl
    rw [fw] at hr
    generalize (if tB l < tWn 2 c i ∨ (2 : Int) = 42 ∧ i = 0 ∧ tCa (l, ch) = true then (2 : Int) else 0) = B at *
    have en : nNum T k (.inner x l u ch re) = nO T k := rfl
    have h3 : l.1 = 3 := hk l.1 (List.mem_cons_self ..)
    have ln := gT_len ht f1 (by omega)
    have f2' : fK ch = [] ∨ ∃ a, fK ch = [a] ∧ isE a := by
      unfold gC at f2
      rw [h3] at f2
      exact f2
    have rest := i2 (k + 1 + fSz ch) (i + 1) K true fr s4 f5 (fun y hy => hk y (List.mem_cons_of_mem _ hy)) (by omega) (by omega) (by omega)
    have ow : tOw l (fLn ch) = 2 * lbN l + 2 * fLn ch := by simp [tOw, h3]
    obtain ⟨a1, a2, a3, a4, a5, a6⟩ := asW_f 0 (by decide) ni fc
    have a4' : cm_and (asW 0 ni fc) 256 = if ni = true then 256 else 0 := a4
    have a6' : cm_or 1 (if ni = true then 256 else 0) = asW 1 ni false := (asW_f 1 (by decide) ni fc).2.2.2.2.2
    have tk : ∀ (K : List pE) (ws : List tok) (K' : List pE) (g : cm_S → Option cm_R), QM tx n T g K ws K' → QM tx n T (fun s => cm_bv (cm_sem 282 [.inr (.inl 41), .inl (nO T k)] s) g) K (xTk tx n l false ++ ws) K' := fun K ws K' g q => by
      have := QM_to (X := fun s => cm_bv (cm_sem 282 [.inr (.inl 41), .inl (nO T k)] s) g) (b := false) ht k0 k1 (by rw [hl]; exact ln) (by rw [hl]; omega) (by rw [hl]; exact (decide_eq_false (by omega)).symm) (fun r h => rfl) q
      rw [hl] at this
      exact this
    rw [en]
    cases ch with
    | leaf =>
      rw [show vaT tx n ni fc (.inner x l u .leaf re) = ((if fc = true then [kTok 1005] else []) ++ (xTk tx n l false ++ [])) ++ vaT tx n ni true re by
        rw [List.append_nil, List.append_assoc]
        rfl]
      refine PT_tr (K1 := (7, nNum T (k + 1 + fSz .leaf) re, asW 0 ni true) :: K) (PT_ro (by omega) (by omega) (QM_eq (fun r h => r_295 h hA k0 k1 (by omega) (by decide) (by decide)) (QM_cm ?_))) rest
      exact QM_pl (by omega) (fun r h => by
        show rw29 T k 7 0 ni fc r = _
        unfold rw29
        rw [cE_295_29, cF_295_29, if_neg (by decide), cE_295_48, cF_295_48, if_pos (h.no k0 k1), (h.nf hA k0 k1).1]) (QM_eq (fun r h => by
        rw [if_neg (by decide), if_neg (by decide), if_pos rfl, if_pos (h.no k0 k1), (h.nf hA k0 k1).2.2.2.1, if_neg (by decide), if_neg (by decide), if_neg (by decide)]) (tk _ _ _ _ (QM_nd fun r h => rfl)))
    | inner x1 l1 u1 c1 r1 =>
      have ek : fK (.inner x1 l1 u1 c1 r1) = l1.1 :: fK r1 := rfl
      have iE : isE l1.1 := by
        rcases f2' with z | ⟨a, ea, ia⟩
        · rw [ek] at z; cases z
        · rw [ek] at ea
          obtain ⟨e1, e2⟩ := List.cons.inj ea
          rw [e1]
          exact ia
      obtain ⟨v1, v2, v3, v4⟩ := s3
      obtain ⟨g1, g2, g3, g4, g5⟩ := f4
      have tw1 := tWs ht iE g1 g2 g4
      have sl1 := slF_01 l1 c1
      have fl : fLn (.inner x1 l1 u1 c1 r1) = 1 + fLn r1 := rfl
      have fl0 := fLn_0 r1
      have bt := bt_le (pk := 3) (c := lbC l) (i := 0) (w := 1) (l := l1) (ch := c1) (ni := ni) (fc := false) rfl (fun z => by cases z)
      have wt : tWt (l, .inner x1 l1 u1 c1 r1) = tOw l (fLn (.inner x1 l1 u1 c1 r1)) + (tWt (l1, c1) + (if tB l1 < tWn 3 (lbC l) 0 ∨ (3 : Int) = 42 ∧ (0 : Int) = 0 ∧ tCa (l1, c1) = true then 2 else 0) + fWt 3 (lbC l) (0 + 1) r1) := by rw [← h3]; rfl
      have f01 := fWt_0 r1 3 (lbC l) (0 + 1) g5
      rw [wt, ow, fl] at hr
      generalize (if tB l1 < tWn 3 (lbC l) 0 ∨ (3 : Int) = 42 ∧ (0 : Int) = 0 ∧ tCa (l1, c1) = true then (2 : Int) else 0) = B1 at *
      rw [show vaT tx n ni fc (.inner x l u (.inner x1 l1 u1 c1 r1) re) = ((if fc = true then [kTok 1005] else []) ++ (xTk tx n l false ++ [])) ++ ([([61], false)] ++ (vT tx n l1 c1 ni (vBr l1 1 ni false) ++ vaT tx n ni true re)) by
        rw [List.append_nil, List.append_assoc]
        rfl]
      refine PT_tr (K1 := (1, 61, 0) :: (3, nO T (k + 1), asW 1 ni false) :: (7, nNum T (k + 1 + fSz (.inner x1 l1 u1 c1 r1)) re, asW 0 ni true) :: K) (PT_ro (by omega) (by omega) (QM_eq (fun r h => r_295 h hA k0 k1 (by omega) (by decide) (by decide)) (QM_cm ?_))) (PT_tr (PT_1 (by simp only [List.length_cons]; omega) (by decide)) (PT_tr (v1 iE _ 1 ni false (by decide) (by decide) (by simp only [List.length_cons]; omega)) rest))
      exact QM_pl (by omega) (fun r h => by
        show rw29 T k 7 0 ni fc r = _
        unfold rw29
        rw [cE_295_29, cF_295_29, if_neg (by decide), cE_295_48, cF_295_48, if_pos (h.no k0 k1), (h.nf hA k0 k1).1, a4', a6']) (QM_eq (fun r h => by
        rw [if_neg (by decide), if_neg (by decide), if_pos rfl, if_pos (h.no k0 k1), (h.nf hA k0 k1).2.2.2.1, if_pos (by omega)]) (tk _ _ _ (fun s2 => if (0 : Int) ≤ nO T k ∧ nO T k < 500 then cm_bv (cm_sem 271 [.inr (.inl 41), .inl 3, .inl (s2.2 50 (nO T k)), .inl (asW 1 ni false)] s2) fun s3 => cm_bv (cm_sem 271 [.inr (.inl 41), .inl 1, .inl 61, .inl 0] s3) fun s4 => some (.inl none, s4) else none) (QM_pl (by simp only [List.length_cons]; omega) (fun r h => by
          rw [if_pos (h.no k0 k1), (h.nf hA k0 k1).2.1]
          rfl) (QM_pl (by simp only [List.length_cons]; omega) (fun r h => rfl) (QM_nd fun r h => rfl)))))
/-- ACTS -/
def acB (tx : Int → Int) (n : Int) (l : tLb) (ch : tF) : List tok := opn tx n l (fK0 ch) ++ (prF tx n l 0 false false ch ++ clS 0 0 l (fLn ch))
def acT (tx : Int → Int) (n : Int) : tF → List tok
  | .leaf => []
  | .inner _ l _ ch re => acB tx n l ch ++ acT tx n re
theorem PT_5f {T : tT} {o1 : Option cm_V} {pk c : Int} : ∀ (f : tF) (k i : Int) (K : List pE), fAt T k f → SVd tx n T o1 k f → gF tx n f → (∀ x ∈ fK f, isS x ∨ x = 20) → 0 ≤ k → k + fSz f ≤ tSz T → (K.length : Int) + 2 + fWt pk c i f ≤ 1000 → PT tx n T o1 ((5, nNum T k f, 0) :: K) (acT tx n f) K := by
  intro f
  induction f with
  | leaf =>
    intro k i K hA _ _ _ _ _ hr
    have e : fWt pk c i .leaf = 0 := rfl
    exact PT_5 (by omega) hA (fun z => absurd rfl z)
  | inner x l u ch re i1 i2 =>
    intro k i K hA hS hF hk k0 k9 hr
    have e : fSz (.inner x l u ch re) = 1 + fSz ch + fSz re := rfl
    have c0 := fSz_0 ch
    have r0 := fSz_0 re
    have k1 : k < tSz T := by omega
    obtain ⟨hl, hch, hre⟩ := fAt_in hA
    obtain ⟨f1, f2, f3, f4, f5⟩ := hF
    obtain ⟨s1, s2, s3, s4⟩ := hS
    have fr := fAt_re (T := T) k0 k1
    rw [hch, hre] at fr
    have fc1 := fAt_ch (T := T) k0 k1
    rw [hch] at fc1
    have f0 := fWt_0 re pk c (i + 1) f5
    have w0 := tWt_0 f1 f2 f4
    have b0 := brN pk c i l ch
    have fw : fWt pk c i (.inner x l u ch re) = tWt (l, ch) + (if tB l < tWn pk c i ∨ pk = 42 ∧ i = 0 ∧ tCa (l, ch) = true then 2 else 0) + fWt pk c (i + 1) re := rfl
    rw [fw] at hr
    generalize (if tB l < tWn pk c i ∨ pk = 42 ∧ i = 0 ∧ tCa (l, ch) = true then (2 : Int) else 0) = B at *
    have en : nNum T k (.inner x l u ch re) = nO T k := rfl
    have rest := i2 (k + 1 + fSz ch) (i + 1) K fr s4 f5 (fun y hy => hk y (List.mem_cons_of_mem _ hy)) (by omega) (by omega) (by omega)
    have p5 := PT_5 (n := n) (tx := tx) (o1 := o1) (K := K) (c := 0) (by omega) hA (fun _ => ⟨k0, k1⟩)
    exact PT_tr (a := []) p5 (PT_tr (s2 (hk l.1 (List.mem_cons_self ..)) _ (by rw [List.length_cons]; omega)) rest)
/-- CHOICES -/
def coB (tx : Int → Int) (n : Int) (l : tLb) (ch : tF) : List tok := if l.1 = 21 then [kTok 1028] else kTok 1029 :: vT tx n l ch false (vBr l 0 false false)
def coT (tx : Int → Int) (n : Int) : tF → List tok
  | .leaf => []
  | .inner _ l _ ch re => coB tx n l ch ++ (kTok 1012 :: acT tx n re)
def chT (tx : Int → Int) (n : Int) : tF → List tok
  | .leaf => []
  | .inner _ _ _ ch re => coT tx n ch ++ chT tx n re
theorem PT_12f (ht : tOk tx n) {T : tT} {o1 : Option cm_V} {c : Int} : ∀ (f : tF) (k i : Int) (K : List pE), fAt T k f → SVd tx n T o1 k f → gF tx n f → (∀ x ∈ fK f, x = 15) → 0 ≤ k → k + fSz f ≤ tSz T → (K.length : Int) + 1 + fWt 14 c i f ≤ 1000 → PT tx n T o1 ((12, nNum T k f, 0) :: K) (chT tx n f) K := by
  intro f
  induction f with
  | leaf =>
    intro k i K _ _ _ _ _ _ hr
    have e : fWt 14 c i .leaf = 0 := rfl
    refine PT_12 (by omega) (QM_nd fun r h => ?_)
    rw [cS_294, cF_294_0, if_pos (show nNum T k .leaf = -1 from rfl)]
  | inner x l u ch re i1 i2 =>
    intro k i K hA hS hF hk k0 k9 hr
    have e : fSz (.inner x l u ch re) = 1 + fSz ch + fSz re := rfl
    have c0 := fSz_0 ch
    have r0 := fSz_0 re
    have k1 : k < tSz T := by omega
    obtain ⟨hl, hch, hre⟩ := fAt_in hA
    obtain ⟨f1, f2, f3, f4, f5⟩ := hF
    obtain ⟨s1, s2, s3, s4⟩ := hS
    have fr := fAt_re (T := T) k0 k1
    rw [hch, hre] at fr
    have fc1 := fAt_ch (T := T) k0 k1
    rw [hch] at fc1
    have f0 := fWt_0 re 14 c (i + 1) f5
    have w0 := tWt_0 f1 f2 f4
    have b0 := brN 14 c i l ch
    have fw : fWt 14 c i (.inner x l u ch re) = tWt (l, ch) + (if tB l < tWn 14 c i ∨ (14 : Int) = 42 ∧ i = 0 ∧ tCa (l, ch) = true then 2 else 0) + fWt 14 c (i + 1) re := rfl
    rw [fw] at hr
    generalize (if tB l < tWn 14 c i ∨ (14 : Int) = 42 ∧ i = 0 ∧ tCa (l, ch) = true then (2 : Int) else 0) = B at *
    have en : nNum T k (.inner x l u ch re) = nO T k := rfl
    have h15 : l.1 = 15 := hk l.1 (List.mem_cons_self ..)
    have f2' : ∃ a r, fK ch = a :: r ∧ (isE a ∨ a = 21) ∧ ∀ x ∈ r, isS x := by
      unfold gC at f2
      rw [h15] at f2
      exact f2
    have rest := i2 (k + 1 + fSz ch) (i + 1) K fr s4 f5 (fun y hy => hk y (List.mem_cons_of_mem _ hy)) (by omega) (by omega) (by omega)
    obtain ⟨a, r', ea, iE, iS⟩ := f2'
    cases ch with
    | leaf => cases ea
    | inner x1 l1 u1 c1 r1 =>
      have ek : fK (.inner x1 l1 u1 c1 r1) = l1.1 :: fK r1 := rfl
      rw [ek] at ea
      obtain ⟨e1, e2⟩ := List.cons.inj ea
      rw [← e1] at iE
      rw [← e2] at iS
      obtain ⟨v1, v2, v3, v4⟩ := s3
      obtain ⟨g1, g2, g3, g4, g5⟩ := f4
      have ez : fSz (.inner x1 l1 u1 c1 r1) = 1 + fSz c1 + fSz r1 := rfl
      have c10 := fSz_0 c1
      have r10 := fSz_0 r1
      have ow : tOw l (fLn (.inner x1 l1 u1 c1 r1)) = 9 := by simp [tOw, h15]
      have wt : tWt (l, .inner x1 l1 u1 c1 r1) = tOw l (fLn (.inner x1 l1 u1 c1 r1)) + (tWt (l1, c1) + (if tB l1 < tWn 15 (lbC l) 0 ∨ (15 : Int) = 42 ∧ (0 : Int) = 0 ∧ tCa (l1, c1) = true then 2 else 0) + fWt 15 (lbC l) (0 + 1) r1) := by rw [← h15]; rfl
      have f01 := fWt_0 r1 15 (lbC l) (0 + 1) g5
      have w01 := tWt_0 g1 g2 g4
      have bt := bt_le (pk := 15) (c := lbC l) (i := 0) (w := 0) (l := l1) (ch := c1) (ni := false) (fc := false) rfl (fun z => by cases z)
      have b01 := brN 15 (lbC l) 0 l1 c1
      rw [wt, ow] at hr
      generalize (if tB l1 < tWn 15 (lbC l) 0 ∨ (15 : Int) = 42 ∧ (0 : Int) = 0 ∧ tCa (l1, c1) = true then (2 : Int) else 0) = B1 at *
      have fr1 := fAt_re (T := T) (i := k + 1) (by omega) (by omega)
      obtain ⟨hl1, hch1, hre1⟩ := fAt_in fc1
      rw [hch1, hre1] at fr1
      have acts := PT_5f (o1 := o1) (tx := tx) (n := n) (pk := 15) (c := lbC l) r1 (k + 1 + 1 + fSz c1) (0 + 1) ((12, nNum T (k + 1 + fSz (.inner x1 l1 u1 c1 r1)) re, 0) :: K) fr1 v4 g5 (fun y hy => Or.inl (iS y hy)) (by omega) (by omega) (by rw [List.length_cons]; omega)
      rw [en]
      have h1k : k + 1 < tSz T := by omega
      have r294 : ∀ r, rJ tx n r T → cm_sem 294 [.inr (.inl 41), .inl (nO T k)] r = cm_bv (cm_sem 271 [.inr (.inl 41), .inl 12, .inl (nNum T (k + 1 + fSz (.inner x1 l1 u1 c1 r1)) re), .inl 0] r) fun s1 => if (0 : Int) ≤ nO T (k + 1) ∧ nO T (k + 1) < 500 then cm_bv (cm_sem 271 [.inr (.inl 41), .inl 5, .inl (s1.2 51 (nO T (k + 1))), .inl 0] s1) fun s2 => cm_bv (cm_sem 271 [.inr (.inl 41), .inl 1, .inl 58, .inl 0] s2) fun s3 => if (0 : Int) ≤ nO T (k + 1) ∧ nO T (k + 1) < 500 then (if (s3.2 47 (nO T (k + 1))) = 21 then cm_bv (cm_sem 275 [.inr (.inl 41), .inl 4] s3) fun s4 => some (.inl none, s4) else cm_bv (cm_sem 271 [.inr (.inl 41), .inl 3, .inl (nO T (k + 1)), .inl 0] s3) fun s5 => cm_bv (cm_sem 275 [.inr (.inl 41), .inl 1] s5) fun s6 => some (.inl none, s6)) else none else none := fun r h => by
        have o := h.no k0 k1
        have q := (h.nf hA k0 k1).2.1
        have q' : r.2 50 (nO T k) = nO T (k + 1) := q
        rw [cS_294, cF_294_0, if_neg (by omega), if_pos o, if_pos o, q', (h.nf hA k0 k1).1]
      by_cases h21 : l1.1 = 21
      · rw [show chT tx n (.inner x l u (.inner x1 l1 u1 c1 r1) re) = (kTok 1028 :: []) ++ ([([58], false)] ++ (acT tx n r1 ++ chT tx n re)) by
          show (coB tx n l1 c1 ++ (kTok 1012 :: acT tx n r1)) ++ chT tx n re = _
          unfold coB
          rw [if_pos h21, List.append_assoc]
          rfl]
        refine PT_tr (K1 := (1, 58, 0) :: (5, nNum T (k + 1 + 1 + fSz c1) r1, 0) :: (12, nNum T (k + 1 + fSz (.inner x1 l1 u1 c1 r1)) re, 0) :: K) (PT_12 (by omega) (QM_pl (by omega) r294 (QM_pl (by simp only [List.length_cons]; omega) (fun r h => by rw [if_pos (h.no (by omega) h1k), (h.nf fc1 (by omega) h1k).1]) (QM_pl (by simp only [List.length_cons]; omega) (fun r h => rfl) (QM_wo (w := 4) (by decide) (fun r h => by
            rw [if_pos (h.no (by omega) h1k), (h.nf fc1 (by omega) h1k).2.2.1, if_pos h21]
            rfl) (QM_nd fun r h => rfl)))))) (PT_tr (PT_1 (by simp only [List.length_cons]; omega) (by decide)) (PT_tr acts rest))
      · have lE : isE l1.1 := iE.resolve_right h21
        have tw1 := tWs ht lE g1 g2 g4
        have sl1 := slF_01 l1 c1
        rw [show chT tx n (.inner x l u (.inner x1 l1 u1 c1 r1) re) = (kTok 1029 :: []) ++ (vT tx n l1 c1 false (vBr l1 0 false false) ++ ([([58], false)] ++ (acT tx n r1 ++ chT tx n re))) by
          show (coB tx n l1 c1 ++ (kTok 1012 :: acT tx n r1)) ++ chT tx n re = _
          unfold coB
          rw [if_neg h21, List.append_assoc]
          show kTok 1029 :: (vT tx n l1 c1 false (vBr l1 0 false false) ++ ([kTok 1012] ++ acT tx n r1 ++ chT tx n re)) = kTok 1029 :: (vT tx n l1 c1 false (vBr l1 0 false false) ++ ([kTok 1012] ++ (acT tx n r1 ++ chT tx n re)))
          rw [List.append_assoc]]
        refine PT_tr (K1 := (3, nO T (k + 1), asW 0 false false) :: (1, 58, 0) :: (5, nNum T (k + 1 + 1 + fSz c1) r1, 0) :: (12, nNum T (k + 1 + fSz (.inner x1 l1 u1 c1 r1)) re, 0) :: K) (PT_12 (by omega) (QM_pl (by omega) r294 (QM_pl (by simp only [List.length_cons]; omega) (fun r h => by rw [if_pos (h.no (by omega) h1k), (h.nf fc1 (by omega) h1k).1]) (QM_pl (by simp only [List.length_cons]; omega) (fun r h => rfl) (QM_pl (by simp only [List.length_cons]; omega) (fun r h => by
            rw [if_pos (h.no (by omega) h1k), (h.nf fc1 (by omega) h1k).2.2.1, if_neg h21]
            rfl) (QM_wo (w := 1) (by decide) (fun r h => rfl) (QM_nd fun r h => rfl))))))) (PT_tr (v1 lE _ 0 false false (by decide) (by decide) (by simp only [List.length_cons]; omega)) (PT_tr (PT_1 (by simp only [List.length_cons]; omega) (by decide)) (PT_tr acts rest)))
end TXa7
