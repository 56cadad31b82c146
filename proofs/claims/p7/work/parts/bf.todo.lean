/-! ===== the reference's printer: tokens, what is to be done ===== -/
abbrev pE : Type := Int × Int × Int
def rTdA (r : cm_S) : List pE → Prop
  | [] => True
  | e :: K => r.2 69 K.length = e.1 ∧ r.2 70 K.length = e.2.1 ∧ r.2 71 K.length = e.2.2 ∧ rTdA r K
def gFm (r r' : cm_S) : Prop := (∀ a : Nat, ¬ (68 ≤ a ∧ a ≤ 71) → r'.2 a = r.2 a) ∧ ∀ j : Nat, j ≠ 4148 → j ≠ 4149 → j ≠ 4153 → j ≠ 4154 → r'.1 j = r.1 j
theorem gFm_rf (r : cm_S) : gFm r r := ⟨fun _ _ => rfl, fun _ _ _ _ _ => rfl⟩
theorem gFm.tr {r r' r'' : cm_S} (h : gFm r r') (h' : gFm r' r'') : gFm r r'' := ⟨fun a ha => (h'.1 a ha).trans (h.1 a ha), fun j a b c d => (h'.2 j a b c d).trans (h.2 j a b c d)⟩
theorem eF.g {r r' : cm_S} (h : eF r r') : gFm r r' := ⟨fun a ha => h.1 a (by omega), fun j a b c d => h.2 j a c d⟩
theorem rTdA_fr {s s' : cm_S} : ∀ (K : List pE), (∀ (a : Nat) (i : Int), 69 ≤ a → a ≤ 71 → i < K.length → s'.2 a i = s.2 a i) → rTdA s K → rTdA s' K
  | [], _, _ => trivial
  | e :: K, h, ⟨h1, h2, h3, h4⟩ => by
    have hl : ((K.length : Nat) : Int) < ((e :: K).length : Nat) := by rw [List.length_cons]; omega
    exact ⟨(h 69 _ (by omega) (by omega) hl).trans h1, (h 70 _ (by omega) (by omega) hl).trans h2, (h 71 _ (by omega) (by omega) hl).trans h3, rTdA_fr K (fun a i g1 g2 g3 => h a i g1 g2 (by omega)) h4⟩
theorem rOutA_68 {s s' : cm_S} (h : s'.2 68 = s.2 68) (R : List Int) (ho : rOutA s R) : rOutA s' R := rOutA_fr R (fun i _ => by rw [h]) ho
section TXa1
variable {tx : Int → Int} {n : Int}
theorem rJ.fg {r r' : cm_S} {T : tT} (h : rJ tx n r T) (hf : gFm r r') : rJ tx n r' T := by
  obtain ⟨h1, h2, h3, h4, h5⟩ := h
  exact ⟨h1, ⟨(hf.2 4107 (by decide) (by decide) (by decide) (by decide)).trans h2.1, fun j a b => by rw [hf.1 46 (by omega)]; exact h2.2 j a b⟩, rFo_fr _ _ _ _ _ (fun a i a1 a2 _ _ => by rw [hf.1 a (by omega)]) h3, rOr_fr _ _ _ (fun i _ _ => by rw [hf.1 65 (by omega)]) (fun i _ _ => by rw [hf.1 66 (by omega)]) h4, h5⟩
def rPs (tx : Int → Int) (n : Int) (T : tT) (r : cm_S) (st : oS) (K : List pE) : Prop := rJ tx n r T ∧ rOut r st ∧ r.1 4149 = K.length ∧ rTdA r K
/-- the run x writes ws and goes from the todo list K to K' -/
def QM (tx : Int → Int) (n : Int) (T : tT) (x : cm_S → Option cm_R) (K : List pE) (ws : List tok) (K' : List pE) : Prop := ∀ (r : cm_S) (st : oS), rPs tx n T r st K → (ems st ws).1.length ≤ 1024 → ∃ r', x r = some (.inl none, r') ∧ gFm r r' ∧ rPs tx n T r' (ems st ws) K'
theorem QM_ret {T : tT} {K : List pE} : QM tx n T (fun r => some (.inl none, r)) K [] K := fun r st h _ => ⟨r, rfl, gFm_rf r, h⟩
theorem QM_bv {T : tT} {x y : cm_S → Option cm_R} {K K1 K2 : List pE} {a b : List tok} (h1 : QM tx n T x K a K1) (h2 : QM tx n T y K1 b K2) : QM tx n T (fun r => cm_bv (x r) y) K (a ++ b) K2 := fun r st h hl => by
  rw [ems_ap] at hl ⊢
  have := ems_len b (ems st a)
  obtain ⟨r1, e1, f1, p1⟩ := h1 r st h (by omega)
  obtain ⟨r2, e2, f2, p2⟩ := h2 r1 (ems st a) p1 hl
  exact ⟨r2, by show cm_bv (x r) y = _; rw [e1, cm_bv_o, e2], f1.tr f2, p2⟩
theorem QM_tl {T : tT} {x : cm_S → Option cm_R} {K K1 : List pE} {a : List tok} (h1 : QM tx n T x K a K1) : QM tx n T (fun r => cm_bv (x r) fun s1 => some (.inl none, s1)) K a K1 := by
  have := QM_bv h1 (QM_ret (tx := tx) (n := n) (T := T) (K := K1))
  rw [List.append_nil] at this
  exact this
theorem QM_eq {T : tT} {x y : cm_S → Option cm_R} {K K1 : List pE} {a : List tok} (h : ∀ r, rJ tx n r T → x r = y r) (h1 : QM tx n T y K a K1) : QM tx n T x K a K1 := fun r st q hl => by
  rw [h r q.1]
  exact h1 r st q hl
theorem QM_e {T : tT} {x : cm_S → Option cm_R} {K : List pE} {a : List tok} (h : ∀ r st, rJ tx n r T → QE r (x r) st a) : QM tx n T x K a K := fun r st q hl => by
  obtain ⟨r', e1, f1, o1⟩ := h r st q.1 q.2.1 hl
  exact ⟨r', e1, f1.g, q.1.fg f1.g, o1, (f1.2 4149 (by decide) (by decide) (by decide)).trans q.2.2.1, rTdA_fr _ (fun a i a1 a2 _ => by rw [f1.1 a (by omega)]) q.2.2.2⟩
theorem QM_sign {T : tT} {K : List pE} {c : Int} (hc : c ∈ sgC) : QM tx n T (fun r => cm_sem 272 [.inr (.inl 41), .inl c] r) K [([c], false)] K := QM_e fun _ _ _ => QE_sign hc
theorem QM_word {T : tT} {K : List pE} {w : Nat} (hw : w < 27) : QM tx n T (fun r => cm_sem 275 [.inr (.inl 41), .inl w] r) K [(wdS.getD w [], false)] K := QM_e fun _ _ _ => QE_word hw
theorem QM_plan {T : tT} {K : List pE} (hK : K.length < 1000) (a b c : Int) : QM tx n T (fun r => cm_sem 271 [.inr (.inl 41), .inl a, .inl b, .inl c] r) K [] ((a, b, c) :: K) := fun r st q _ => by
  obtain ⟨h1, h2, h3, h4⟩ := q
  show ∃ r', cm_sem 271 [.inr (.inl 41), .inl a, .inl b, .inl c] r = _ ∧ _
  rw [cS_271, cF_271_0]
  simp only [if_pos (show (0 : Int) ≤ r.1 4149 ∧ r.1 4149 < 1000 by omega)]
  rw [cm_w_id (by omega) (by omega)]
  have gf : gFm r (cm_p (cm_q (cm_q (cm_q r 69 (r.1 4149) a) 70 (r.1 4149) b) 71 (r.1 4149) c) 4149 (r.1 4149 + 1)) := ⟨fun x hx => by rw [cm_p_row, cm_q_ne (by omega), cm_q_ne (by omega), cm_q_ne (by omega)], fun j a1 a2 a3 a4 => by rw [cm_p_ne a2]; rfl⟩
  have r68 : (cm_p (cm_q (cm_q (cm_q r 69 (r.1 4149) a) 70 (r.1 4149) b) 71 (r.1 4149) c) 4149 (r.1 4149 + 1)).2 68 = r.2 68 := by rw [cm_p_row, cm_q_ne (by decide), cm_q_ne (by decide), cm_q_ne (by decide)]
  refine ⟨_, rfl, gf, h1.fg gf, ⟨by rw [cm_p_ne (by decide)]; exact h2.1, by rw [cm_p_ne (by decide)]; exact h2.2.1, by rw [cm_p_ne (by decide)]; exact h2.2.2.1, rOutA_68 r68 _ h2.2.2.2⟩, by rw [cm_p_at, List.length_cons, h3]; omega, ?_, ?_, ?_, ?_⟩
  · show (cm_p (cm_q (cm_q (cm_q r 69 (r.1 4149) a) 70 (r.1 4149) b) 71 (r.1 4149) c) 4149 (r.1 4149 + 1)).2 69 K.length = a
    rw [cm_p_row, cm_q_ne (by decide), cm_q_ne (by decide), cm_q_at, if_pos h3.symm]
  · show (cm_p (cm_q (cm_q (cm_q r 69 (r.1 4149) a) 70 (r.1 4149) b) 71 (r.1 4149) c) 4149 (r.1 4149 + 1)).2 70 K.length = b
    rw [cm_p_row, cm_q_ne (by decide), cm_q_at, if_pos h3.symm]
  · show (cm_p (cm_q (cm_q (cm_q r 69 (r.1 4149) a) 70 (r.1 4149) b) 71 (r.1 4149) c) 4149 (r.1 4149 + 1)).2 71 K.length = c
    rw [cm_p_row, cm_q_at, if_pos h3.symm]
  · refine rTdA_fr (s := r) _ (fun x i x1 x2 hi => ?_) h4
    rw [cm_p_row, cm_q_old (by omega), cm_q_old (by omega), cm_q_old (by omega)]
/-! printToken() -/
theorem sg_nd : ∀ x ∈ sgS, ¬ (48 ≤ x ∧ x ≤ 57) := by
  intro x hx
  rw [sgS_eq] at hx
  revert x
  decide
theorem tk_fst (ht : tOk tx n) {l : tLb} (h : gT tx n l) (hn : 0 < lbN l) (h33 : l.1 ≠ 33) (h38 : l.1 ≠ 38) : ¬ cD (tA tx n (lbP l)) := by
  have tk : ∀ kd, kd ≠ 0 → kd ≠ 3 → tkA tx n l kd → ¬ cD (tA tx n (lbP l)) := fun kd h0 h3 ⟨g, e, b, a1, a2, a3⟩ => by
    have := lx_all ht a1 a2 a3
    simp only at this
    rcases this with q | q | q | q | q | q
    · exact absurd q h0
    · exact absurd q.1 h3
    · exact q.2.2.1
    · omega
    · omega
    · obtain ⟨q1, q2, q3, q4, q5⟩ := q
      have : tA tx n (lbP l) ∈ sgS := by
        unfold sgE at q5
        split at q5
        · assumption
        · exact absurd rfl q5
      exact sg_nd _ this
  obtain ⟨g1, g2, g3, g4⟩ := h
  by_cases c0 : l.1 = 3 ∨ l.1 = 16 ∨ l.1 = 19 ∨ l.1 = 20 ∨ l.1 = 22 ∨ l.1 = 31
  · rw [if_pos c0] at g4
    exact tk _ (by decide) (by decide) g4
  rw [if_neg c0] at g4
  by_cases c1 : l.1 = 11 ∨ l.1 = 12 ∨ l.1 = 39
  · rw [if_pos c1] at g4
    exact tk _ (by decide) (by decide) (g4.resolve_left (by omega))
  rw [if_neg c1] at g4
  by_cases c2 : l.1 = 32
  · rw [if_pos c2] at g4
    exact tk _ (by decide) (by decide) g4.1
  rw [if_neg c2, if_neg h33] at g4
  by_cases c4 : l.1 = 34
  · rw [if_pos c4] at g4
    exact tk _ (by decide) (by decide) g4
  rw [if_neg c4] at g4
  by_cases c5 : l.1 = 35
  · rw [if_pos c5] at g4
    exact tk _ (by decide) (by decide) g4
  rw [if_neg c5, if_neg h38] at g4
  by_cases c7 : l.1 = 41
  · rw [if_pos c7] at g4
    rcases g4 with g | g <;> exact tk _ (by decide) (by decide) g
  rw [if_neg c7] at g4
  by_cases c8 : l.1 = 44
  · rw [if_pos c8] at g4
    exact tk _ (by decide) (by decide) g4.1
  rw [if_neg c8] at g4
  by_cases c9 : l.1 = 45
  · rw [if_pos c9] at g4
    rcases g4 with g | g <;> exact tk _ (by decide) (by decide) g.1
  rw [if_neg c9] at g4
  by_cases c10 : l.1 = 46
  · rw [if_pos c10] at g4
    rcases g4.1 with g | g <;> exact tk _ (by decide) (by decide) g
  rw [if_neg c10] at g4
  by_cases c11 : l.1 = 48
  · rw [if_pos c11] at g4
    exact tk _ (by decide) (by decide) g4
  rw [if_neg c11] at g4
  omega
theorem rl_282 (ht : tOk tx n) {T : tT} {i : Int} (h0 : 0 ≤ i) (h1 : i < tSz T) (hn : 0 < lbN (nLb (nT T i))) : ∀ (k : Nat) (j : Int) (r : cm_S) (R : List Int), rJ tx n r T → 0 ≤ j → j + k = lbN (nLb (nT T i)) → rOu0 r R → (pushL R (tkL tx n (lbP (nLb (nT T i)) + j) k)).length ≤ 1024 → ∃ r' z, cm_lp cm_sem cm_k282 12 [some (.inr (.inl 41)), some (.inl (nO T i)), some (.inl j)] [] r = some (.inl none, cm_p r' 4154 z) ∧ eF r r' ∧ rOu0 r' (pushL R (tkL tx n (lbP (nLb (nT T i)) + j) k)) ∧ (((nLb (nT T i)).1 ≠ 38) → (z = 2 ∨ z = 4 ↔ ((nLb (nT T i)).1 = 33 ∨ (nLb (nT T i)).1 = 35))) := by
  have n9 := ht.2.1
  intro k
  induction k with
  | zero =>
    intro j r R h j0 hj ho _
    have o := h.no h0 h1
    have g := (h.g h0 h1).1
    have fst := tk_fst ht g hn
    obtain ⟨g1, g2, g3, -⟩ := g
    rw [cE_282_12, cF_282_12]
    simp only [if_pos o, h.ln h0 h1, h.pl h0 h1, h.kd h0 h1]
    rw [if_neg (by omega), if_pos (by omega), h.tex g1 (by omega)]
    by_cases c35 : (nLb (nT T i)).1 = 35
    · rw [if_pos c35]
      exact ⟨r, 4, rfl, eF_rf r, ho, fun _ => ⟨fun _ => Or.inr c35, fun _ => Or.inr rfl⟩⟩
    rw [if_neg c35, cs_188, cm_bi_i]
    simp only [cm_b0, h.kd h0 h1]
    by_cases cd : cD (tA tx n (lbP (nLb (nT T i))))
    · rw [if_neg (fun z => z cd)]
      refine ⟨r, 2, rfl, eF_rf r, ho, fun h38 => ⟨fun _ => Or.inl ?_, fun _ => Or.inl rfl⟩⟩
      exact Decidable.byContradiction fun z => fst z h38 cd
    · rw [if_pos cd]
      by_cases c33 : (nLb (nT T i)).1 = 33
      · rw [if_pos c33]
        exact ⟨r, 2, rfl, eF_rf r, ho, fun _ => ⟨fun _ => Or.inl c33, fun _ => Or.inl rfl⟩⟩
      rw [if_neg c33]
      by_cases c38 : (nLb (nT T i)).1 = 38
      · rw [if_pos c38]
        by_cases cd2 : tA tx n (lbP (nLb (nT T i))) = 46
        · rw [if_pos cd2]
          exact ⟨r, 2, rfl, eF_rf r, ho, fun z => absurd c38 z⟩
        · rw [if_neg cd2]
          exact ⟨r, 1, rfl, eF_rf r, ho, fun z => absurd c38 z⟩
      · rw [if_neg c38]
        exact ⟨r, 1, rfl, eF_rf r, ho, fun _ => by omega⟩
  | succ k ih =>
    intro j r R h j0 hj ho hl
    have o := h.no h0 h1
    obtain ⟨g1, g2, g3, -⟩ := (h.g h0 h1).1
    have b := tx_b ht (p := lbP (nLb (nT T i)) + j) (by omega) (by omega)
    have hl' : (pushL (tA tx n (lbP (nLb (nT T i)) + j) :: R) (tkL tx n (lbP (nLb (nT T i)) + j + 1) k)).length ≤ 1024 := hl
    have pl := pushL_len (tkL tx n (lbP (nLb (nT T i)) + j + 1) k) (tA tx n (lbP (nLb (nT T i)) + j) :: R)
    rw [List.length_cons] at pl
    rw [cE_282_12, cF_282_12, if_pos o, h.ln h0 h1, if_pos (by omega), if_pos o, h.pl h0 h1, cm_w_id (by omega) (by omega), if_pos (by omega), h.tex (by omega) (by omega), cm_w_id (by omega) (by omega)]
    obtain ⟨r1, e1, f1, t1, o1⟩ := r_274 ho (by omega) (c := tA tx n (lbP (nLb (nT T i)) + j)) (by omega)
    rw [e1, cm_bv_o]
    obtain ⟨r2, z, e2, f2, o2, q2⟩ := ih (j + 1) r1 (tA tx n (lbP (nLb (nT T i)) + j) :: R) (h.fg f1.g) (by omega) (by omega) o1 (by rw [← Int.add_assoc]; exact hl')
    rw [← Int.add_assoc] at o2
    exact ⟨r2, z, e2, f1.tr f2, o2, q2⟩
theorem QE_tok (ht : tOk tx n) {r : cm_S} {T : tT} (h : rJ tx n r T) {i : Int} (h0 : 0 ≤ i) (h1 : i < tSz T) (hn : 0 < lbN (nLb (nT T i))) {st : oS} (ho : rOut r st) (hl : (ems st (xTk tx n (nLb (nT T i)) false)).1.length ≤ 1024) : ∃ r' z, cm_sem 282 [.inr (.inl 41), .inl (nO T i)] r = some (.inl none, cm_p r' 4154 z) ∧ eF r r' ∧ rOu0 r' (ems st (xTk tx n (nLb (nT T i)) false)).1 ∧ (((nLb (nT T i)).1 ≠ 38) → (z = 2 ∨ z = 4 ↔ ((nLb (nT T i)).1 = 33 ∨ (nLb (nT T i)).1 = 35))) := by
  have n9 := ht.2.1
  have o := h.no h0 h1
  obtain ⟨g1, g2, g3, -⟩ := (h.g h0 h1).1
  have e : xTk tx n (nLb (nT T i)) false = [(tkL tx n (lbP (nLb (nT T i))) (lbN (nLb (nT T i))).toNat, false)] := if_pos hn
  rw [e] at hl ⊢
  obtain ⟨k, hk⟩ : ∃ k, (lbN (nLb (nT T i))).toNat = k + 1 := ⟨(lbN (nLb (nT T i))).toNat - 1, by omega⟩
  rw [hk] at hl ⊢
  have hl' : (pushL (sepR st (tA tx n (lbP (nLb (nT T i))))) (tkL tx n (lbP (nLb (nT T i))) (k + 1))).length ≤ 1024 := hl
  have pl := pushL_len (tkL tx n (lbP (nLb (nT T i))) (k + 1)) (sepR st (tA tx n (lbP (nLb (nT T i)))))
  rw [cS_282, cF_282_0, if_pos o, h.pl h0 h1, if_pos (by omega), h.tex g1 (by omega)]
  obtain ⟨r1, e1, f1, o1⟩ := r_273 ho (c := tA tx n (lbP (nLb (nT T i)))) (by omega)
  rw [e1, cm_bv_o]
  obtain ⟨r2, z, e2, f2, o2, q2⟩ := rl_282 ht h0 h1 hn (k + 1) 0 r1 _ (h.fg f1.g) (Int.le_refl _) (by omega) o1 (by rw [Int.add_zero]; exact hl')
  rw [Int.add_zero] at o2
  exact ⟨r2, z, e2, f1.tr f2, o2, q2⟩
theorem QM_tok (ht : tOk tx n) {T : tT} {K : List pE} {i : Int} (h0 : 0 ≤ i) (h1 : i < tSz T) (hn : 0 < lbN (nLb (nT T i))) (h38 : (nLb (nT T i)).1 ≠ 38) {b : Bool} (hb : b = decide ((nLb (nT T i)).1 = 33 ∨ (nLb (nT T i)).1 = 35)) : QM tx n T (fun r => cm_sem 282 [.inr (.inl 41), .inl (nO T i)] r) K (xTk tx n (nLb (nT T i)) b) K := QM_e fun r st h ho hl => by
  have e : ∀ b, xTk tx n (nLb (nT T i)) b = [(tkL tx n (lbP (nLb (nT T i))) (lbN (nLb (nT T i))).toNat, b)] := fun b => if_pos hn
  obtain ⟨r', z, e1, f1, o1, q1⟩ := QE_tok ht h h0 h1 hn ho (by rw [e] at hl ⊢; exact hl)
  rw [e] at o1 ⊢
  refine ⟨_, e1, eF_t f1 z, rOut_t o1 ?_⟩
  rw [q1 h38, hb, decide_eq_true_iff]
end TXa1
