/-! ===== the reference's printer: its loop, step by step ===== -/
noncomputable def pLp (o1 o2 o3 o4 : Option cm_V) (r : cm_S) : Option cm_R := cm_lp cm_sem cm_k270 21 [some (.inr (.inl 41)), o1, o2, o3, o4] [] r
/-- the number of a forest's first root -/
def nNum (T : tT) (k : Int) : tF → Int
  | .leaf => -1
  | .inner _ _ _ _ _ => nO T k
section TXa3
variable {tx : Int → Int} {n : Int}
theorem rJ.fn {r : cm_S} {T : tT} (h : rJ tx n r T) {i : Int} (h0 : 0 ≤ i) (h1 : i < tSz T) : r.2 50 (nO T i) = nNum T (i + 1) (nCh (nT T i)) := by
  cases hc : nCh (nT T i) with
  | leaf => exact h.fl h0 h1 hc
  | inner x l u ch re => exact h.fi h0 h1 (by rw [hc]; intro z; cases z)
theorem rJ.nn {r : cm_S} {T : tT} (h : rJ tx n r T) {i : Int} (h0 : 0 ≤ i) (h1 : i < tSz T) : r.2 51 (nO T i) = nNum T (i + 1 + fSz (nCh (nT T i))) (nRe (nT T i)) := by
  cases hc : nRe (nT T i) with
  | leaf => exact h.nl h0 h1 hc
  | inner x l u ch re => exact h.nx h0 h1 (by rw [hc]; intro z; cases z)
/-- the loop goes from the todo list K to K' and writes ws -/
def PT (tx : Int → Int) (n : Int) (T : tT) (o1 : Option cm_V) (K : List pE) (ws : List tok) (K' : List pE) : Prop := ∀ (st : oS) (r : cm_S) (o2 o3 o4 : Option cm_V), rPs tx n T r st K → (ems st ws).1.length ≤ 1024 → ∃ (r' : cm_S) (p2 p3 p4 : Option cm_V), pLp o1 o2 o3 o4 r = pLp o1 p2 p3 p4 r' ∧ gFm r r' ∧ rPs tx n T r' (ems st ws) K'
theorem PT_rf {T : tT} {o1 : Option cm_V} {K : List pE} : PT tx n T o1 K [] K := fun st r o2 o3 o4 h _ => ⟨r, o2, o3, o4, rfl, gFm_rf r, h⟩
theorem PT_tr {T : tT} {o1 : Option cm_V} {K K1 K2 : List pE} {a b : List tok} (h1 : PT tx n T o1 K a K1) (h2 : PT tx n T o1 K1 b K2) : PT tx n T o1 K (a ++ b) K2 := fun st r o2 o3 o4 h hl => by
  rw [ems_ap] at hl ⊢
  have := ems_len b (ems st a)
  obtain ⟨r1, p2, p3, p4, e1, f1, q1⟩ := h1 st r o2 o3 o4 h (by omega)
  obtain ⟨r2, s2, s3, s4, e2, f2, q2⟩ := h2 _ r1 p2 p3 p4 q1 hl
  exact ⟨r2, s2, s3, s4, e1.trans e2, f1.tr f2, q2⟩
theorem rPs_pop {T : tT} {r : cm_S} {st : oS} {e : pE} {K : List pE} (h : rPs tx n T r st (e :: K)) (hK : K.length < 1000) : cm_w (r.1 4149 - 1) = K.length ∧ 0 < r.1 4149 ∧ rPs tx n T (cm_p r 4149 K.length) st K ∧ gFm r (cm_p r 4149 K.length) ∧ r.2 69 K.length = e.1 ∧ r.2 70 K.length = e.2.1 ∧ r.2 71 K.length = e.2.2 := by
  obtain ⟨h1, h2, h3, h4, h5, h6, h7⟩ := h
  rw [List.length_cons] at h3
  have gf : gFm r (cm_p r 4149 K.length) := ⟨fun _ _ => rfl, fun j _ b _ _ => cm_p_ne b⟩
  exact ⟨by rw [cm_w_id (by omega) (by omega)]; omega, by omega, ⟨h1.fg gf, ⟨by rw [cm_p_ne (by decide)]; exact h2.1, by rw [cm_p_ne (by decide)]; exact h2.2.1, by rw [cm_p_ne (by decide)]; exact h2.2.2.1, rOutA_68 (s := r) (s' := cm_p r 4149 K.length) rfl _ h2.2.2.2⟩, cm_p_at, rTdA_fr (s := r) _ (fun _ _ _ _ _ => rfl) h7⟩, gf, h4, h5, h6⟩
theorem PT_of {T : tT} {o1 : Option cm_V} {K K' : List pE} {ws : List tok} {a b c : Int} {x : cm_S → Option cm_R} (hK : K.length < 1000) (hx : QM tx n T x K ws K') (hc : ∀ (r : cm_S) (o2 o3 o4 : Option cm_V), rJ tx n r T → 0 < r.1 4149 → cm_w (r.1 4149 - 1) = K.length → r.2 69 K.length = a → r.2 70 K.length = b → r.2 71 K.length = c → ∃ p2 p3 p4, pLp o1 o2 o3 o4 r = cm_bv (x (cm_p r 4149 K.length)) fun s => pLp o1 p2 p3 p4 s) : PT tx n T o1 ((a, b, c) :: K) ws K' := fun st r o2 o3 o4 h hl => by
  obtain ⟨e1, e2, e3, e4, e5, e6, e7⟩ := rPs_pop h hK
  obtain ⟨r1, g1, g2, g3⟩ := hx _ st e3 hl
  obtain ⟨p2, p3, p4, q⟩ := hc r o2 o3 o4 h.1 e2 e1 e5 e6 e7
  exact ⟨r1, p2, p3, p4, by rw [q, g1, cm_bv_o], e4.tr g2, g3⟩
theorem PT_1 {T : tT} {o1 : Option cm_V} {K : List pE} {b c : Int} (hK : K.length < 1000) (hb : b ∈ sgC) : PT tx n T o1 ((1, b, c) :: K) [([b], false)] K := PT_of hK (QM_sign hb) fun r o2 o3 o4 hJ h1 h2 h3 h4 h5 => by
  refine ⟨some (.inl b), some (.inl c), some (.inl 1), ?_⟩
  unfold pLp
  rw [cE_270_21, cF_270_21, if_pos h1]
  simp only [h2, if_pos (show (0 : Int) ≤ (K.length : Int) ∧ (K.length : Int) < 1000 by omega), h3, h4, h5]
  rw [if_pos trivial]
theorem PT_2 {T : tT} {o1 : Option cm_V} {K : List pE} {w : Nat} {c : Int} (hK : K.length < 1000) (hw : w < 27) : PT tx n T o1 ((2, w, c) :: K) [(wdS.getD w [], false)] K := PT_of hK (QM_word hw) fun r o2 o3 o4 hJ h1 h2 h3 h4 h5 => by
  refine ⟨some (.inl (w : Int)), some (.inl c), some (.inl 2), ?_⟩
  unfold pLp
  rw [cE_270_21, cF_270_21, if_pos h1]
  simp only [h2, if_pos (show (0 : Int) ≤ (K.length : Int) ∧ (K.length : Int) < 1000 by omega), h3, h4, h5]
  rw [if_neg (show ¬ (2 : Int) = 1 by decide), if_pos trivial]
theorem PT_3 {T : tT} {o1 : Option cm_V} {K K' : List pE} {ws : List tok} {b c : Int} (hK : K.length < 1000) (hx : QM tx n T (fun r => cm_sem 276 [.inr (.inl 41), .inl b, .inl c] r) K ws K') : PT tx n T o1 ((3, b, c) :: K) ws K' := PT_of hK hx fun r o2 o3 o4 hJ h1 h2 h3 h4 h5 => by
  refine ⟨some (.inl b), some (.inl c), some (.inl 3), ?_⟩
  unfold pLp
  rw [cE_270_21, cF_270_21, if_pos h1]
  simp only [h2, if_pos (show (0 : Int) ≤ (K.length : Int) ∧ (K.length : Int) < 1000 by omega), h3, h4, h5]
  rw [if_neg (show ¬ (3 : Int) = 1 by decide), if_neg (show ¬ (3 : Int) = 2 by decide), if_pos trivial]
theorem PT_4 {T : tT} {o1 : Option cm_V} {K K' : List pE} {ws : List tok} {b c : Int} (hK : K.length < 1000) (hx : QM tx n T (fun r => cm_sem 285 [.inr (.inl 41), .inl b] r) K ws K') : PT tx n T o1 ((4, b, c) :: K) ws K' := PT_of hK hx fun r o2 o3 o4 hJ h1 h2 h3 h4 h5 => by
  refine ⟨some (.inl b), some (.inl c), some (.inl 4), ?_⟩
  unfold pLp
  rw [cE_270_21, cF_270_21, if_pos h1]
  simp only [h2, if_pos (show (0 : Int) ≤ (K.length : Int) ∧ (K.length : Int) < 1000 by omega), h3, h4, h5]
  rw [if_neg (show ¬ (4 : Int) = 1 by decide), if_neg (show ¬ (4 : Int) = 2 by decide), if_neg (show ¬ (4 : Int) = 3 by decide), if_pos trivial]
theorem PT_8 {T : tT} {o1 : Option cm_V} {K K' : List pE} {ws : List tok} {b c : Int} (hK : K.length < 1000) (hx : QM tx n T (fun r => cm_sem 282 [.inr (.inl 41), .inl b] r) K ws K') : PT tx n T o1 ((8, b, c) :: K) ws K' := PT_of hK hx fun r o2 o3 o4 hJ h1 h2 h3 h4 h5 => by
  refine ⟨some (.inl b), some (.inl c), some (.inl 8), ?_⟩
  unfold pLp
  rw [cE_270_21, cF_270_21, if_pos h1]
  simp only [h2, if_pos (show (0 : Int) ≤ (K.length : Int) ∧ (K.length : Int) < 1000 by omega), h3, h4, h5]
  rw [if_neg (show ¬ (8 : Int) = 1 by decide), if_neg (show ¬ (8 : Int) = 2 by decide), if_neg (show ¬ (8 : Int) = 3 by decide), if_neg (show ¬ (8 : Int) = 4 by decide), if_neg (show ¬ (8 : Int) = 5 by decide), if_pos trivial]
theorem PT_12 {T : tT} {o1 : Option cm_V} {K K' : List pE} {ws : List tok} {b c : Int} (hK : K.length < 1000) (hx : QM tx n T (fun r => cm_sem 294 [.inr (.inl 41), .inl b] r) K ws K') : PT tx n T o1 ((12, b, c) :: K) ws K' := PT_of hK hx fun r o2 o3 o4 hJ h1 h2 h3 h4 h5 => by
  refine ⟨some (.inl b), some (.inl c), some (.inl 12), ?_⟩
  unfold pLp
  rw [cE_270_21, cF_270_21, if_pos h1]
  simp only [h2, if_pos (show (0 : Int) ≤ (K.length : Int) ∧ (K.length : Int) < 1000 by omega), h3, h4, h5]
  rw [if_neg (show ¬ (12 : Int) = 1 by decide), if_neg (show ¬ (12 : Int) = 2 by decide), if_neg (show ¬ (12 : Int) = 3 by decide), if_neg (show ¬ (12 : Int) = 4 by decide), if_neg (show ¬ (12 : Int) = 5 by decide), if_neg (show ¬ (12 : Int) = 8 by decide), if_pos trivial]
theorem PT_ro {T : tT} {o1 : Option cm_V} {K K' : List pE} {ws : List tok} {a b c : Int} (ha : a = 6 ∨ a = 7 ∨ a = 9 ∨ a = 10 ∨ a = 11) (hK : K.length < 1000) (hx : QM tx n T (fun r => cm_sem 295 [.inr (.inl 41), .inl a, .inl b, .inl c] r) K ws K') : PT tx n T o1 ((a, b, c) :: K) ws K' := PT_of hK hx fun r o2 o3 o4 hJ h1 h2 h3 h4 h5 => by
  refine ⟨some (.inl b), some (.inl c), some (.inl a), ?_⟩
  unfold pLp
  rw [cE_270_21, cF_270_21, if_pos h1]
  simp only [h2, if_pos (show (0 : Int) ≤ (K.length : Int) ∧ (K.length : Int) < 1000 by omega), h3, h4, h5]
  rw [if_neg (by omega), if_neg (by omega), if_neg (by omega), if_neg (by omega), if_neg (by omega), if_neg (by omega), if_neg (by omega)]
theorem PT_5 {T : tT} {o1 : Option cm_V} {K : List pE} {c : Int} (hK : K.length < 999) {f : tF} {k : Int} (hA : fAt T k f) (hk : f ≠ .leaf → 0 ≤ k ∧ k < tSz T) : PT tx n T o1 ((5, nNum T k f, c) :: K) [] (match f with | .leaf => K | .inner _ _ _ ch re => (4, nO T k, 0) :: (5, nNum T (k + 1 + fSz ch) re, 0) :: K) := by
  cases f with
  | leaf =>
    refine PT_of (x := fun r => some (.inl none, r)) (by omega) QM_ret fun r o2 o3 o4 hJ h1 h2 h3 h4 h5 => ?_
    refine ⟨some (.inl (-1)), some (.inl c), some (.inl 5), ?_⟩
    have e : nNum T k .leaf = -1 := rfl
    rw [e] at h4
    rw [cm_bv_o]
    unfold pLp
    rw [cE_270_21, cF_270_21, if_pos h1]
    simp only [h2, if_pos (show (0 : Int) ≤ (K.length : Int) ∧ (K.length : Int) < 1000 by omega), h3, h4, h5]
    rw [if_neg (show ¬ (5 : Int) = 1 by decide), if_neg (show ¬ (5 : Int) = 2 by decide), if_neg (show ¬ (5 : Int) = 3 by decide), if_neg (show ¬ (5 : Int) = 4 by decide), if_pos trivial, if_pos trivial]
  | inner x l u ch re =>
    obtain ⟨k0, k1⟩ := hk (by intro z; cases z)
    obtain ⟨hl, hch, hre⟩ := hA
    have e : nNum T k (.inner x l u ch re) = nO T k := rfl
    rw [e]
    refine PT_of (x := fun r => cm_bv (cm_sem 271 [.inr (.inl 41), .inl 5, .inl (r.2 51 (nO T k)), .inl 0] r) fun s5 => cm_sem 271 [.inr (.inl 41), .inl 4, .inl (nO T k), .inl 0] s5) (by omega) ?_ fun r o2 o3 o4 hJ h1 h2 h3 h4 h5 => ?_
    · refine QM_eq (y := fun r => cm_bv (cm_sem 271 [.inr (.inl 41), .inl 5, .inl (nNum T (k + 1 + fSz ch) re), .inl 0] r) fun s5 => cm_sem 271 [.inr (.inl 41), .inl 4, .inl (nO T k), .inl 0] s5) (fun r h => ?_) ?_
      · have := h.nn k0 k1
        rw [hch, hre] at this
        show cm_bv (cm_sem 271 [.inr (.inl 41), .inl 5, .inl (r.2 51 (nO T k)), .inl 0] r) _ = _
        rw [this]
      · exact QM_bv (a := []) (b := []) (QM_plan (by omega) _ _ _) (QM_plan (by rw [List.length_cons]; omega) _ _ _)
    · -- the number is one of the rows'
      refine ⟨some (.inl (nO T k)), some (.inl c), some (.inl 5), ?_⟩
      unfold pLp
      rw [cE_270_21, cF_270_21, if_pos h1]
      simp only [h2, if_pos (show (0 : Int) ≤ (K.length : Int) ∧ (K.length : Int) < 1000 by omega), h3, h4, h5]
      rw [if_neg (show ¬ (5 : Int) = 1 by decide), if_neg (show ¬ (5 : Int) = 2 by decide), if_neg (show ¬ (5 : Int) = 3 by decide), if_neg (show ¬ (5 : Int) = 4 by decide), if_pos trivial, if_neg (by have := hJ.no k0 k1; omega), if_pos (hJ.no k0 k1)]
      rw [show (cm_p r 4149 (K.length : Int)).2 51 (nO T k) = r.2 51 (nO T k) from rfl]
      cases cm_sem 271 [.inr (.inl 41), .inl 5, .inl (r.2 51 (nO T k)), .inl 0] (cm_p r 4149 (K.length : Int)) with
      | none => rfl
      | some z => obtain ⟨z1 | z1, z2⟩ := z <;> first | rfl | (cases z1 <;> rfl)
end TXa3
