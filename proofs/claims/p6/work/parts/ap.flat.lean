/-! ===== the class's ordered tree: its rows, put() ===== -/
def isTr (t : Nat) : Prop := t = 18 ∨ t = 27
theorem tr_f {t : Nat} (h : isTr t) : cm_cl t = 6 ∧ cm_pt t 0 = t + 1 ∧ cm_pt t 1 = t + 2 ∧ cm_pt t 2 = t + 3 ∧ cm_pt t 3 = t + 4 ∧ cm_pt t 4 = t + 5 ∧ cm_pt t 5 = t + 6 ∧ cm_pt t 6 = t + 7 ∧ cm_pt t 7 = t + 8 := by
  rcases h with rfl | rfl <;> exact ⟨rfl, rfl, rfl, rfl, rfl, rfl, rfl, rfl, rfl⟩
theorem tr_k {t : Nat} (h : isTr t) : cm_rk (t + 1) = 0 ∧ cm_rk (t + 2) = 0 ∧ cm_rk (t + 3) = 0 ∧ cm_rk (t + 4) = 0 ∧ cm_rk (t + 5) = 0 ∧ cm_rk (t + 6) = 0 ∧ cm_rk (t + 7) = 0 ∧ cm_rk (t + 8) = 2 := by
  rcases h with rfl | rfl <;> exact ⟨rfl, rfl, rfl, rfl, rfl, rfl, rfl, rfl⟩
theorem tr_n {t : Nat} (h : isTr t) : cm_rn (t + 1) = 512 ∧ cm_rn (t + 2) = 512 ∧ cm_rn (t + 3) = 512 ∧ cm_rn (t + 4) = 512 ∧ cm_rn (t + 5) = 512 ∧ cm_rn (t + 6) = 512 ∧ cm_rn (t + 7) = 512 ∧ cm_rn (t + 8) = 512 := by
  rcases h with rfl | rfl <;> exact ⟨rfl, rfl, rfl, rfl, rfl, rfl, rfl, rfl⟩
/-- a row of the tree at k; d where there is no such node -/
def tg (s : cm_S) (t j : Nat) (d k : Int) : Int := if 0 ≤ k ∧ k < s.1 (100 * t + 8) then s.2 (t + j) k else d
theorem cs_16 {t : Nat} (h : isTr t) {s : cm_S} (hz : s.1 (100 * t + 8) ≤ 512) (k : Int) : cm_sem 16 [.inr (.inl t), .inl k] s = some (.inl (some (.inl (cm_b (0 ≤ k ∧ k < s.1 (100 * t + 8))))), s) := by
  rw [cS_16, cF_16_0, (tr_f h).1]
  unfold cm_b
  repeat' split
  all_goals first | rfl | (exfalso; omega)
theorem tg_acc {t j : Nat} {s : cm_S} {d k z : Int} (hz : s.1 (100 * t + 8) ≤ 512) : (if cm_b (0 ≤ k ∧ k < s.1 (100 * t + 8)) = 0 then some (.inl (some (.inl d)), s) else (if (0 : Int) ≤ k ∧ k < 512 then some (.inl (some (.inl (s.2 (t + j) k))), s) else none)) = (some (.inl (some (.inl (tg s t j d k))), s) : Option cm_R) := by
  simp only [cm_b0]
  unfold tg
  repeat' split
  all_goals first | rfl | (exfalso; omega)
theorem cs_15 {t : Nat} (h : isTr t) {s : cm_S} (hz : s.1 (100 * t + 8) ≤ 512) (k : Int) : cm_sem 15 [.inr (.inl t), .inl k] s = some (.inl (some (.inl (tg s t 1 (-1) k))), s) := by
  rw [cS_15, cF_15_0, cs_16 h hz, cm_bi_i]
  simp only [tr_f h, tr_k h, tr_n h, if_true]
  exact tg_acc (z := 0) hz
theorem cs_120 {t : Nat} (h : isTr t) {s : cm_S} (hz : s.1 (100 * t + 8) ≤ 512) (k : Int) : cm_sem 120 [.inr (.inl t), .inl k] s = some (.inl (some (.inl (tg s t 2 (-1) k))), s) := by
  rw [cS_120, cF_120_0, cs_16 h hz, cm_bi_i]
  simp only [tr_f h, tr_k h, tr_n h, if_true]
  exact tg_acc (z := 0) hz
theorem cs_121 {t : Nat} (h : isTr t) {s : cm_S} (hz : s.1 (100 * t + 8) ≤ 512) (k : Int) : cm_sem 121 [.inr (.inl t), .inl k] s = some (.inl (some (.inl (tg s t 3 0 k))), s) := by
  rw [cS_121, cF_121_0, cs_16 h hz, cm_bi_i]
  simp only [tr_f h, tr_k h, tr_n h, if_true]
  exact tg_acc (z := 0) hz
theorem cs_128 {t : Nat} (h : isTr t) {s : cm_S} (hz : s.1 (100 * t + 8) ≤ 512) (k : Int) : cm_sem 128 [.inr (.inl t), .inl k] s = some (.inl (some (.inl (tg s t 4 0 k))), s) := by
  rw [cS_128, cF_128_0, cs_16 h hz, cm_bi_i]
  simp only [tr_f h, tr_k h, tr_n h, if_true]
  exact tg_acc (z := 0) hz
theorem cs_117 {t : Nat} (h : isTr t) {s : cm_S} (hz : s.1 (100 * t + 8) ≤ 512) (k : Int) : cm_sem 117 [.inr (.inl t), .inl k] s = some (.inl (some (.inl (tg s t 5 (-1) k))), s) := by
  rw [cS_117, cF_117_0, cs_16 h hz, cm_bi_i]
  simp only [tr_f h, tr_k h, tr_n h, if_true]
  exact tg_acc (z := 0) hz
theorem cs_145 {t : Nat} (h : isTr t) {s : cm_S} (hz : s.1 (100 * t + 8) ≤ 512) (k : Int) : cm_sem 145 [.inr (.inl t), .inl k] s = some (.inl (some (.inl (tg s t 6 0 k))), s) := by
  rw [cS_145, cF_145_0, cs_16 h hz, cm_bi_i]
  simp only [tr_f h, tr_k h, tr_n h, if_true]
  exact tg_acc (z := 0) hz
theorem cs_124 {t : Nat} (h : isTr t) {s : cm_S} (hz : s.1 (100 * t + 8) ≤ 512) (k : Int) : cm_sem 124 [.inr (.inl t), .inl k] s = some (.inl (some (.inl (tg s t 7 0 k))), s) := by
  rw [cS_124, cF_124_0, cs_16 h hz, cm_bi_i]
  simp only [tr_f h, tr_k h, tr_n h, if_true]
  exact tg_acc (z := 0) hz
theorem cs_123 {t : Nat} (h : isTr t) {s : cm_S} (hz : s.1 (100 * t + 8) ≤ 512) (k : Int) : cm_sem 123 [.inr (.inl t), .inl k] s = some (.inl (some (.inl (cm_b (tg s t 8 0 k ≠ 0)))), s) := by
  rw [cS_123, cF_123_0, cs_16 h hz, cm_bi_i]
  simp only [tr_f h, tr_k h, tr_n h, if_true, cm_b0, true_or]
  unfold tg cm_b
  repeat' split
  all_goals first | rfl | (exfalso; omega)
theorem cs_125 {t : Nat} (h : isTr t) {s : cm_S} (hz : s.1 (100 * t + 8) ≤ 512) {k x : Int} (hk : 0 ≤ k ∧ k < s.1 (100 * t + 8)) (hx : 0 ≤ x ∧ x < 2) : cm_sem 125 [.inr (.inl t), .inl k, .inl x] s = some (.inl none, cm_q s (t + 8) k x) := by
  rw [cS_125, cF_125_0, cs_16 h hz, cm_bi_i]
  simp only [tr_f h, tr_k h, tr_n h, if_true, cm_b0]
  rw [if_neg (fun z => z hk), if_pos (by omega), if_pos hx]
/-! put() -/
def tPa (s : cm_S) (t : Nat) (x1 x2 x3 x4 x5 : Int) : cm_S := cm_q (cm_q (cm_q (cm_q (cm_q (cm_q (cm_q (cm_q s (t + 1) (s.1 (100 * t + 8)) x1) (t + 2) (s.1 (100 * t + 8)) x2) (t + 3) (s.1 (100 * t + 8)) x3) (t + 4) (s.1 (100 * t + 8)) x4) (t + 5) (s.1 (100 * t + 8)) x5) (t + 6) (s.1 (100 * t + 8)) 0) (t + 7) (s.1 (100 * t + 8)) 0) (t + 8) (s.1 (100 * t + 8)) 0
def tPu (s : cm_S) (t : Nat) (x1 x2 x3 x4 x5 : Int) : cm_S := cm_p (if 0 ≤ x5 ∧ x5 < s.1 (100 * t + 8) then cm_q (cm_q (tPa s t x1 x2 x3 x4 x5) (t + 6) (s.1 (100 * t + 8)) (s.2 (t + 7) x5)) (t + 7) x5 (s.2 (t + 7) x5 + 1) else tPa s t x1 x2 x3 x4 x5) (100 * t + 8) (s.1 (100 * t + 8) + 1)
theorem tPa_old {s : cm_S} {t : Nat} {x1 x2 x3 x4 x5 : Int} {a : Nat} {i : Int} (h : i ≠ s.1 (100 * t + 8)) : (tPa s t x1 x2 x3 x4 x5).2 a i = s.2 a i := by
  unfold tPa
  rw [cm_q_old h, cm_q_old h, cm_q_old h, cm_q_old h, cm_q_old h, cm_q_old h, cm_q_old h, cm_q_old h]
theorem cs_113 {t : Nat} (h : isTr t) {s : cm_S} (h0 : 0 ≤ s.1 (100 * t + 8)) (h9 : s.1 (100 * t + 8) < 512) {x1 x2 x3 x4 x5 : Int} (h5 : 0 ≤ x5 → x5 < s.1 (100 * t + 8) → 0 ≤ s.2 (t + 7) x5 ∧ s.2 (t + 7) x5 < 1000) : cm_sem 113 [.inr (.inl t), .inl x1, .inl x2, .inl x3, .inl x4, .inl x5] s = some (.inl (some (.inl (s.1 (100 * t + 8)))), tPu s t x1 x2 x3 x4 x5) := by
  rw [cS_113, cF_113_0]
  simp only [tr_f h, tr_k h, tr_n h, if_true]
  rw [if_neg (by omega), if_pos h9]
  simp only [if_pos (show (0 : Int) ≤ s.1 (100 * t + 8) ∧ s.1 (100 * t + 8) < 512 from ⟨h0, h9⟩)]
  rw [show cm_q (cm_q (cm_q (cm_q (cm_q (cm_q (cm_q (cm_q s (t + 1) (s.1 (100 * t + 8)) x1) (t + 2) (s.1 (100 * t + 8)) x2) (t + 3) (s.1 (100 * t + 8)) x3) (t + 4) (s.1 (100 * t + 8)) x4) (t + 5) (s.1 (100 * t + 8)) x5) (t + 6) (s.1 (100 * t + 8)) 0) (t + 7) (s.1 (100 * t + 8)) 0) (t + 8) (s.1 (100 * t + 8)) 0 = tPa s t x1 x2 x3 x4 x5 from rfl]
  have e8 : (tPa s t x1 x2 x3 x4 x5).1 (100 * t + 8) = s.1 (100 * t + 8) := rfl
  rw [cs_16 h (by rw [e8]; omega), cm_bi_i, e8, cm_w_id (by omega) (by omega)]
  simp only [cm_b0]
  unfold tPu
  by_cases hx : 0 ≤ x5 ∧ x5 < s.1 (100 * t + 8)
  · have := h5 hx.1 hx.2
    rw [if_neg (fun z => z hx)]
    simp only [if_pos (show (0 : Int) ≤ x5 ∧ x5 < 512 by omega), if_pos hx]
    rw [tPa_old (by omega), cm_q_old (by omega), tPa_old (by omega), cm_w_id (by omega) (by omega)]
  · rw [if_pos hx, if_neg hx]
theorem tPu_fld {s : cm_S} {t : Nat} {x1 x2 x3 x4 x5 : Int} {j : Nat} (h : j ≠ 100 * t + 8) : (tPu s t x1 x2 x3 x4 x5).1 j = s.1 j := by
  unfold tPu
  rw [cm_p_ne h]
  split <;> rfl
theorem tPu_size {s : cm_S} {t : Nat} {x1 x2 x3 x4 x5 : Int} : (tPu s t x1 x2 x3 x4 x5).1 (100 * t + 8) = s.1 (100 * t + 8) + 1 := cm_p_at
theorem tPu_row {s : cm_S} {t : Nat} {x1 x2 x3 x4 x5 : Int} {a : Nat} (h : ¬ (t + 1 ≤ a ∧ a ≤ t + 8)) : (tPu s t x1 x2 x3 x4 x5).2 a = s.2 a := by
  unfold tPu
  rw [cm_p_row]
  split
  · rw [cm_q_ne (by omega), cm_q_ne (by omega)]
    unfold tPa
    rw [cm_q_ne (by omega), cm_q_ne (by omega), cm_q_ne (by omega), cm_q_ne (by omega), cm_q_ne (by omega), cm_q_ne (by omega), cm_q_ne (by omega), cm_q_ne (by omega)]
  · unfold tPa
    rw [cm_q_ne (by omega), cm_q_ne (by omega), cm_q_ne (by omega), cm_q_ne (by omega), cm_q_ne (by omega), cm_q_ne (by omega), cm_q_ne (by omega), cm_q_ne (by omega)]
theorem tPu_old {s : cm_S} {t : Nat} {x1 x2 x3 x4 x5 : Int} {a : Nat} {i : Int} (h : i ≠ s.1 (100 * t + 8)) (h7 : a = t + 7 → i ≠ x5) : (tPu s t x1 x2 x3 x4 x5).2 a i = s.2 a i := by
  unfold tPu
  rw [cm_p_row]
  split
  · by_cases ha : a = t + 7
    · rw [cm_q_old (h7 ha), cm_q_old h, tPa_old h]
    · rw [cm_q_ne ha, cm_q_old h, tPa_old h]
  · rw [tPa_old h]
theorem tPu_cnt {s : cm_S} {t : Nat} {x1 x2 x3 x4 x5 : Int} (h : 0 ≤ x5 ∧ x5 < s.1 (100 * t + 8)) : (tPu s t x1 x2 x3 x4 x5).2 (t + 7) x5 = s.2 (t + 7) x5 + 1 := by
  unfold tPu
  rw [cm_p_row, if_pos h, cm_q_at, if_pos rfl]
theorem tPu_new {s : cm_S} {t : Nat} {x1 x2 x3 x4 x5 : Int} (h : x5 < s.1 (100 * t + 8)) : (tPu s t x1 x2 x3 x4 x5).2 (t + 1) (s.1 (100 * t + 8)) = x1 ∧ (tPu s t x1 x2 x3 x4 x5).2 (t + 2) (s.1 (100 * t + 8)) = x2 ∧ (tPu s t x1 x2 x3 x4 x5).2 (t + 3) (s.1 (100 * t + 8)) = x3 ∧ (tPu s t x1 x2 x3 x4 x5).2 (t + 4) (s.1 (100 * t + 8)) = x4 ∧ (tPu s t x1 x2 x3 x4 x5).2 (t + 5) (s.1 (100 * t + 8)) = x5 ∧ (tPu s t x1 x2 x3 x4 x5).2 (t + 6) (s.1 (100 * t + 8)) = (if 0 ≤ x5 then s.2 (t + 7) x5 else 0) ∧ (tPu s t x1 x2 x3 x4 x5).2 (t + 7) (s.1 (100 * t + 8)) = 0 := by
  have a1 : (tPa s t x1 x2 x3 x4 x5).2 (t + 1) (s.1 (100 * t + 8)) = x1 := by
    unfold tPa
    rw [cm_q_ne (by omega), cm_q_ne (by omega), cm_q_ne (by omega), cm_q_ne (by omega), cm_q_ne (by omega), cm_q_ne (by omega), cm_q_ne (by omega), cm_q_at, if_pos rfl]
  have a2 : (tPa s t x1 x2 x3 x4 x5).2 (t + 2) (s.1 (100 * t + 8)) = x2 := by
    unfold tPa
    rw [cm_q_ne (by omega), cm_q_ne (by omega), cm_q_ne (by omega), cm_q_ne (by omega), cm_q_ne (by omega), cm_q_ne (by omega), cm_q_at, if_pos rfl]
  have a3 : (tPa s t x1 x2 x3 x4 x5).2 (t + 3) (s.1 (100 * t + 8)) = x3 := by
    unfold tPa
    rw [cm_q_ne (by omega), cm_q_ne (by omega), cm_q_ne (by omega), cm_q_ne (by omega), cm_q_ne (by omega), cm_q_at, if_pos rfl]
  have a4 : (tPa s t x1 x2 x3 x4 x5).2 (t + 4) (s.1 (100 * t + 8)) = x4 := by
    unfold tPa
    rw [cm_q_ne (by omega), cm_q_ne (by omega), cm_q_ne (by omega), cm_q_ne (by omega), cm_q_at, if_pos rfl]
  have a5 : (tPa s t x1 x2 x3 x4 x5).2 (t + 5) (s.1 (100 * t + 8)) = x5 := by
    unfold tPa
    rw [cm_q_ne (by omega), cm_q_ne (by omega), cm_q_ne (by omega), cm_q_at, if_pos rfl]
  have a6 : (tPa s t x1 x2 x3 x4 x5).2 (t + 6) (s.1 (100 * t + 8)) = 0 := by
    unfold tPa
    rw [cm_q_ne (by omega), cm_q_ne (by omega), cm_q_at, if_pos rfl]
  have a7 : (tPa s t x1 x2 x3 x4 x5).2 (t + 7) (s.1 (100 * t + 8)) = 0 := by
    unfold tPa
    rw [cm_q_ne (by omega), cm_q_at, if_pos rfl]
  unfold tPu
  rw [cm_p_row]
  by_cases h5 : 0 ≤ x5
  · rw [if_pos ⟨h5, h⟩, if_pos h5]
    refine ⟨?_, ?_, ?_, ?_, ?_, ?_, ?_⟩
    · rw [cm_q_ne (by omega), cm_q_ne (by omega)]; exact a1
    · rw [cm_q_ne (by omega), cm_q_ne (by omega)]; exact a2
    · rw [cm_q_ne (by omega), cm_q_ne (by omega)]; exact a3
    · rw [cm_q_ne (by omega), cm_q_ne (by omega)]; exact a4
    · rw [cm_q_ne (by omega), cm_q_ne (by omega)]; exact a5
    · rw [cm_q_ne (by omega), cm_q_at, if_pos rfl]
    · rw [cm_q_old (by omega), cm_q_ne (by omega)]; exact a7
  · rw [if_neg (fun z => h5 z.1), if_neg h5]
    exact ⟨a1, a2, a3, a4, a5, a6, a7⟩
