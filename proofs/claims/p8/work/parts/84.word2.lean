section TX14
variable {tx : Int → Int} {n : Int}
def mtB (tk0 : Int → Int) (len : Int) : List Int → Int → Bool
  | [], a => decide (a = len)
  | c :: r, a => decide (tk0 a = c) && mtB tk0 len r (a + 1)
theorem wlk_dead {tk0 : Int → Int} {len : Int} (hl : 0 ≤ len) : ∀ (u r : List Int) (w : Int), (∀ c ∈ u, c ≠ 32) → wlk tk0 len (u ++ 32 :: r) w (-1) = wlk tk0 len r (w + 1) 0 := by
  intro u
  induction u with
  | nil =>
    intro r w _
    simp only [List.nil_append, wlk, if_true]
    rw [if_neg (by omega)]
  | cons c u ih =>
    intro r w hu
    simp only [List.cons_append, wlk]
    rw [if_neg (hu c (List.mem_cons_self ..)), if_pos trivial]
    exact ih r w fun c hc => hu c (List.mem_cons_of_mem _ hc)
theorem wlk_word {tk0 : Int → Int} {len : Int} (hl : 0 ≤ len) : ∀ (u r : List Int) (w a : Int), (∀ c ∈ u, c ≠ 32) → 0 ≤ a → wlk tk0 len (u ++ 32 :: r) w a = if mtB tk0 len u a = true then w else wlk tk0 len r (w + 1) 0 := by
  intro u
  induction u with
  | nil =>
    intro r w a _ ha
    simp only [List.nil_append, wlk, if_true, mtB, decide_eq_true_eq]
  | cons c u ih =>
    intro r w a hu ha
    have hu2 : ∀ c ∈ u, c ≠ 32 := fun c hc => hu c (List.mem_cons_of_mem _ hc)
    simp only [List.cons_append, wlk, mtB]
    rw [if_neg (hu c (List.mem_cons_self ..)), if_neg (by omega)]
    by_cases hm : tk0 a = c
    · rw [if_pos hm, ih r w (a + 1) hu2 (by omega)]
      simp [hm]
    · rw [if_neg hm, wlk_dead hl u r w hu2]
      simp [hm]
theorem mtB_big {tk0 : Int → Int} {len : Int} : ∀ (u : List Int) (a : Int), len < a → mtB tk0 len u a = false := by
  intro u
  induction u with
  | nil => intro a ha; simp only [mtB, decide_eq_false_iff_not]; omega
  | cons c u ih => intro a ha; simp only [mtB, ih (a + 1) (by omega), Bool.and_false]
theorem mtB_tk {p len : Int} : ∀ (u : List Int) (a : Int) (k : Nat), a + k = len → (mtB (fun i => tA tx n (p + i)) len u a = true ↔ tkL tx n (p + a) k = u) := by
  intro u
  induction u with
  | nil =>
    intro a k hk
    cases k with
    | zero => simp only [mtB, decide_eq_true_eq, tkL, iff_true]; omega
    | succ k => simp only [mtB, decide_eq_true_eq, tkL, reduceCtorEq, iff_false]; omega
  | cons c u ih =>
    intro a k hk
    cases k with
    | zero =>
      simp only [mtB, tkL, Bool.and_eq_true, mtB_big u (a + 1) (show len < a + 1 by omega)]
      simp
    | succ k =>
      have := ih (a + 1) k (by omega)
      simp only [mtB, tkL, Bool.and_eq_true, decide_eq_true_eq, this, List.cons.injEq, show p + (a + 1) = p + a + 1 by omega]
theorem wlk_all {p len : Int} {k : Nat} (hk : (k : Int) = len) : ∀ (l : List (List Int)) (w : Int), (∀ u ∈ l, ∀ c ∈ u, c ≠ 32) → wlk (fun i => tA tx n (p + i)) len ((l.map (· ++ [32])).flatten) w 0 = wdF (tkL tx n p k) l w := by
  intro l
  induction l with
  | nil => intro w _; rfl
  | cons u l ih =>
    intro w hu
    have e : ((u :: l).map (· ++ [32])).flatten = u ++ 32 :: ((l.map (· ++ [32])).flatten) := by simp
    rw [e, wlk_word (by omega) u _ w 0 (hu u (List.mem_cons_self ..)) (by omega), ih (w + 1) fun v hv => hu v (List.mem_cons_of_mem _ hv)]
    have := mtB_tk (tx := tx) (n := n) (p := p) (len := len) u 0 k (by omega)
    rw [show p + 0 = p by omega] at this
    simp only [wdF]
    by_cases hm : tkL tx n p k = u
    · rw [if_pos hm, if_pos (this.mpr hm)]
    · rw [if_neg hm, if_neg (fun z => hm (this.mp z))]
theorem wd_row : cm_kT.getD 1 [] = (wdS.map (· ++ [32])).flatten := by decide +kernel
theorem wd_no32 : ∀ u ∈ wdS, ∀ c ∈ u, c ≠ 32 := by decide +kernel
theorem wd_len : ∀ u ∈ wdS, 2 ≤ u.length ∧ u.length ≤ 10 := by decide +kernel
theorem wdF_mem {tk : List Int} : ∀ (l : List (List Int)) (w : Int), wdF tk l w ≠ 0 → tk ∈ l := by
  intro l
  induction l with
  | nil => intro w h; exact absurd rfl h
  | cons u l ih =>
    intro w h
    simp only [wdF] at h
    split at h
    · next e => rw [e]; exact List.mem_cons_self ..
    · exact List.mem_cons_of_mem _ (ih _ h)
/-- the class: wordCode -/
theorem cs_39 (ht : tOk tx n) {s : cm_S} (h : cTx tx n s) {p e : Int} (hp : s.1 1505 = p) (he : s.1 1506 = e) (h0 : 0 ≤ p) (h1 : p ≤ e) (h2 : e ≤ 480) : cm_sem 39 [.inr (.inl 15)] s = some (.inl (some (.inl (wdI (tkL tx n p (e - p).toNat)))), s) := by
  have e40 : cm_sem 40 [.inr (.inl 15)] s = some (.inl (some (.inl (e - p))), s) := by
    rw [cS_40, cF_40_0, hp, he, cm_w_id (by omega) (by omega)]
  have hlen := tkL_len (tx := tx) (n := n) (p := p) (e - p).toNat
  have hz : (e - p < 2 ∨ 10 < e - p) → wdI (tkL tx n p (e - p).toNat) = 0 := by
    intro hh
    apply Decidable.byContradiction
    intro hne
    have := wd_len _ (wdF_mem _ _ hne)
    rw [hlen] at this
    omega
  rw [cS_39, cF_39_0, e40, cm_bi_i]
  by_cases ha : e - p < 2
  · rw [if_pos ha, hz (Or.inl ha)]
  · rw [if_neg ha, e40, cm_bi_i]
    by_cases hb : 10 < e - p
    · rw [if_pos hb, hz (Or.inr hb)]
    · rw [if_neg hb]
      have hr : (cm_kT.getD 1 []).length = 158 := by decide +kernel
      have hkn : cm_kn 1001 = 158 := by decide +kernel
      have := cl_39 ht h hp (len := e - p) (by rw [he]) h0 (by omega) (by omega) (cm_kT.getD 1 []) 0 1 0 none (fun i hi => by simp [cm_ka]) (by omega) (by rw [hr, hkn]; rfl) (by omega) (by omega) (by omega) (by omega)
      rw [this, wd_row, wlk_all (k := (e - p).toNat) (by omega) wdS 1 wd_no32]
      rfl
theorem cs_40 {s : cm_S} {p e : Int} (hp : s.1 1505 = p) (he : s.1 1506 = e) (h0 : 0 ≤ p) (h1 : p ≤ e) (h2 : e ≤ 480) : cm_sem 40 [.inr (.inl 15)] s = some (.inl (some (.inl (e - p))), s) := by
  rw [cS_40, cF_40_0, hp, he, cm_w_id (by omega) (by omega)]
/-- what readName leaves -/
def cNm (s : cm_S) (e c : Int) : cm_S := cm_p (cm_p (cm_p s 1506 e) 1504 c) 1503 (if c = 0 then 1 else 2)
theorem cl_38 (ht : tOk tx n) {s : cm_S} (h : cTx tx n s) {p : Int} (hp : s.1 1505 = p) (h0 : 0 ≤ p) (h1 : p ≤ n) : ∀ (k : Nat) (q x1 : Int), x1 + k = 480 → 0 ≤ x1 → p + x1 = q → q ≤ n → cm_lp cm_sem cm_k38 7 [some (.inr (.inl 15)), some (.inl x1)] [] (cm_p s 1506 q) = some (.inl none, cNm s (whE tx n cN q) (wdI (tkL tx n p (whE tx n cN q - p).toNat))) := by
  obtain ⟨t1, t2, -⟩ := id ht
  intro k
  have fin : ∀ q, p ≤ q → q ≤ n → (cm_bi (cm_sem 39 [.inr (.inl 15)] (cm_p s 1506 q)) fun z3 s3 =>
            if z3 = 0 then
              some (.inl none, (cm_p (cm_p s3 1504 z3) 1503 1))
            else
              some (.inl none, (cm_p (cm_p s3 1504 z3) 1503 2))) = some (.inl none, cNm s q (wdI (tkL tx n p (q - p).toNat))) := by
    intro q g1 g2
    rw [cs_39 ht (cTx_p h (by decide)) (p := p) (e := q) (by rw [cm_p_ne (by decide)]; exact hp) cm_p_at h0 g1 (by omega), cm_bi_i]
    unfold cNm
    split <;> rfl
  induction k with
  | zero =>
    intro q x1 hk hx hq hn
    rw [cE_38_7, cF_38_7, if_neg (by omega), fin q (by omega) hn, whE_ge cN (by omega)]
  | succ k ih =>
    intro q x1 hk hx hq hn
    rw [cE_38_7, cF_38_7, if_pos (by omega), cm_p_at, cs_28 ht (cTx_p h (by decide)), cm_bi_i, cs_37, cm_bi_i, whE_eq cN (by decide) (by omega : 0 ≤ q)]
    simp only [cm_b0]
    by_cases hc : cN (tA tx n q)
    · have hl : q < n := by
        apply Int.lt_of_not_ge
        intro z
        rw [tA_out z] at hc
        omega
      rw [if_neg (fun z => z hc), if_pos hc, cm_p_at, cm_p_p, cm_w_id (by omega) (by omega), cm_w_id (by omega) (by omega)]
      exact ih (q + 1) (x1 + 1) (by omega) (by omega) (by omega) (by omega)
    · rw [if_pos hc, if_neg hc]
      exact fin q (by omega) hn
/-- the class: readName -/
theorem cs_38 (ht : tOk tx n) {s : cm_S} (h : cTx tx n s) {p : Int} (hp : s.1 1505 = p) (h0 : 0 ≤ p) (h1 : p ≤ n) : cm_sem 38 [.inr (.inl 15)] s = some (.inl none, cNm s (whE tx n cN p) (wdI (tkL tx n p (whE tx n cN p - p).toNat))) := by
  rw [cS_38, cF_38_0, hp]
  exact cl_38 ht h hp h0 h1 480 p 0 (by omega) (by omega) (by omega) h1
end TX14
