/-! ===== the reference: wordOf ===== -/
def evr : List Int → Int
  | [] => 0
  | c :: r => 32 * evr r + (c - 96)
def cmBd : Nat → Int
  | 0 => 1
  | k + 1 => 32 * cmBd k
theorem cmBd_le : ∀ k : Nat, k ≤ 10 → cmBd k ≤ 1125899906842624 := by decide
theorem evr_b : ∀ l : List Int, (∀ c ∈ l, 97 ≤ c ∧ c ≤ 122) → 0 ≤ evr l ∧ evr l < cmBd l.length := by
  intro l
  induction l with
  | nil => intro _; exact ⟨Int.le_refl _, by decide⟩
  | cons c r ih =>
    intro h
    have h1 := h c (List.mem_cons_self ..)
    have h2 := ih fun c hc => h c (List.mem_cons_of_mem _ hc)
    simp only [evr, List.length_cons, cmBd]
    omega
theorem evr_inj : ∀ l m : List Int, (∀ c ∈ l, 97 ≤ c ∧ c ≤ 122) → (∀ c ∈ m, 97 ≤ c ∧ c ≤ 122) → evr l = evr m → l = m := by
  intro l
  induction l with
  | nil =>
    intro m _ hm e
    cases m with
    | nil => rfl
    | cons c r =>
      have h1 := hm c (List.mem_cons_self ..)
      have h2 := (evr_b r fun c hc => hm c (List.mem_cons_of_mem _ hc)).1
      simp only [evr] at e
      omega
  | cons c r ih =>
    intro m hl hm e
    have h1 := hl c (List.mem_cons_self ..)
    have h2 := (evr_b r fun c hc => hl c (List.mem_cons_of_mem _ hc)).1
    cases m with
    | nil =>
      simp only [evr] at e
      omega
    | cons d t =>
      have h3 := hm d (List.mem_cons_self ..)
      have h4 := (evr_b t fun c hc => hm c (List.mem_cons_of_mem _ hc)).1
      simp only [evr] at e
      have e1 : c = d := by omega
      have e2 : evr r = evr t := by omega
      rw [e1, ih t (fun c hc => hl c (List.mem_cons_of_mem _ hc)) (fun c hc => hm c (List.mem_cons_of_mem _ hc)) e2]
theorem wd_low : ∀ u ∈ wdS, ∀ c ∈ u.reverse, 97 ≤ c ∧ c ≤ 122 := by decide +kernel
theorem wd_kr : ∀ w : Nat, w < 27 → cm_kr 42 w = evr (wdS.getD w []).reverse := by decide +kernel
theorem wdF_is {l u : List Int} {r : List (List Int)} {x : Int} (e : l = u) : wdF l (u :: r) x = x := by rw [wdF, if_pos e]
theorem wdF_not {l u : List Int} {r : List (List Int)} {x : Int} (e : ¬ l = u) : wdF l (u :: r) x = wdF l r (x + 1) := by rw [wdF, if_neg e]
section TX15
variable {tx : Int → Int} {n : Int}
theorem tkL_snoc {p : Int} : ∀ k : Nat, tkL tx n p (k + 1) = tkL tx n p k ++ [tA tx n (p + k)] := by
  intro k
  induction k generalizing p with
  | zero => simp [tkL]
  | succ k ih =>
    rw [tkL, ih (p := p + 1), tkL]
    simp only [List.cons_append, show p + 1 + (k : Int) = p + ((k + 1 : Nat) : Int) by omega]
theorem cm_wl_id {z : Int} (h1 : -9223372036854775808 ≤ z) (h2 : z < 9223372036854775808) : cm_wl z = z := Int64.toInt_ofInt_of_le h1 h2
/-- the search: which word has the number -/
theorem rl_189b {s : cm_S} {l : List Int} (hl : ∀ c ∈ l.reverse, 97 ≤ c ∧ c ≤ 122) (o1 o2 o4 : Option cm_V) : ∀ (k : Nat) (w : Nat), w + k = 27 → cm_lp cm_sem cm_k189 46 [some (.inr (.inl 41)), o1, o2, some (.inr (.inr (evr l.reverse))), o4, some (.inl w)] [] s = some (.inl (some (.inl (if wdF l (wdS.drop w) (w + 1) = 0 then 1 else 999 + wdF l (wdS.drop w) (w + 1)))), s) := by
  intro k
  have hlen : wdS.length = 27 := by decide
  induction k with
  | zero =>
    intro w hw
    rw [cE_189_46, cF_189_46, if_neg (by omega), List.drop_eq_nil_of_le (by omega)]
    rfl
  | succ k ih =>
    intro w hw
    have hd : wdS.drop w = wdS.getD w [] :: wdS.drop (w + 1) := by
      rw [List.drop_eq_getElem_cons (by omega), List.getD_eq_getElem?_getD, List.getElem?_eq_getElem (by omega)]
      rfl
    have hmem : wdS.getD w [] ∈ wdS := by
      rw [List.getD_eq_getElem?_getD, List.getElem?_eq_getElem (show w < wdS.length by omega)]
      exact List.getElem_mem _
    rw [cE_189_46, cF_189_46, if_pos (by omega), if_pos (by omega), wd_kr w (by omega), hd]
    have key : (evr (wdS.getD w []).reverse = evr l.reverse) = (l = wdS.getD w []) := by
      apply propext
      constructor
      · intro e
        have := evr_inj _ _ (wd_low _ hmem) hl e
        rw [← List.reverse_reverse l, ← this, List.reverse_reverse]
      · intro e; rw [e]
    by_cases he : l = wdS.getD w []
    · have e2 := key.symm ▸ he
      rw [if_pos (by rw [if_neg (by omega), if_pos e2]), wdF_is he, if_neg (by omega), cm_w_id (by omega) (by omega)]
      rw [show (1000 + (w : Int)) = 999 + ((w : Int) + 1) by omega]
    · have e2 : ¬ evr (wdS.getD w []).reverse = evr l.reverse := fun z => he (key ▸ z)
      rw [if_neg (by rw [if_neg (c := evr (wdS.getD w []).reverse = evr l.reverse) e2]; split <;> decide), wdF_not he, cm_w_id (by omega) (by omega)]
      have := ih (w + 1) (by omega)
      rw [show ((w + 1 : Nat) : Int) = (w : Int) + 1 by omega] at this
      exact this
theorem rl_189a (ht : tOk tx n) {s : cm_S} (h : rTx tx n s) {p e : Int} (h0 : 0 ≤ p) (h1 : e ≤ n) (h2 : e - p ≤ 10) (o1 o4 : Option cm_V) : ∀ (k j : Nat), p + j + k = e → (∀ c ∈ (tkL tx n p j).reverse, 97 ≤ c ∧ c ≤ 122) → cm_lp cm_sem cm_k189 12 [some (.inr (.inl 41)), o1, some (.inl e), some (.inr (.inr (evr (tkL tx n p j).reverse))), o4, some (.inl (p + j))] [] s = some (.inl (some (.inl (if wdI (tkL tx n p (j + k)) = 0 then 1 else 999 + wdI (tkL tx n p (j + k))))), s) := by
  obtain ⟨t1, t2, -⟩ := id ht
  intro k
  induction k generalizing o4 with
  | zero =>
    intro j hj hc
    rw [cE_189_12, cF_189_12, if_neg (by omega)]
    exact rl_189b hc _ _ _ 27 0 rfl
  | succ k ih =>
    intro j hj hc
    have hlt : p + j < n := by omega
    rw [cE_189_12, cF_189_12, if_pos (by omega), if_pos (show (0 : Int) ≤ p + j ∧ p + j < 480 by omega), h.2 _ (by omega) hlt, if_pos (show (0 : Int) ≤ p + j ∧ p + j < 480 by omega), if_pos (show (0 : Int) ≤ p + j ∧ p + j < 480 by omega)]
    have eA : tA tx n (p + j) = tx (p + j) := tA_in (by omega) hlt
    have hsn := tkL_snoc (tx := tx) (n := n) (p := p) j
    have bad : ¬ (97 ≤ tx (p + j) ∧ tx (p + j) ≤ 122) → wdI (tkL tx n p (j + (k + 1))) = 0 := by
      intro hb
      apply Decidable.byContradiction
      intro hne
      have hm := wdF_mem _ _ hne
      have : tA tx n (p + j) ∈ (tkL tx n p (j + (k + 1))).reverse := by
        rw [List.mem_reverse]
        have : ∀ (m q : Nat), q < m → tA tx n (p + q) ∈ tkL tx n p m := by
          intro m
          induction m with
          | zero => intro q hq; omega
          | succ m ihm =>
            intro q hq
            rw [tkL_snoc, List.mem_append]
            by_cases hqm : q = m
            · right; rw [hqm]; exact List.mem_singleton.mpr rfl
            · left; exact ihm q (by omega)
        exact this _ j (by omega)
      have := wd_low _ hm _ this
      rw [eA] at this
      exact hb this
    by_cases ha : tx (p + j) < 97
    · rw [if_pos ha, bad (by omega), if_pos rfl]
    · rw [if_neg ha]
      by_cases hb : 122 < tx (p + j)
      · rw [if_pos hb, bad (by omega), if_pos rfl]
      · rw [if_neg hb]
        have hr : (tkL tx n p (j + 1)).reverse = tA tx n (p + j) :: (tkL tx n p j).reverse := by rw [hsn]; simp
        have hb2 := evr_b _ hc
        rw [List.length_reverse, tkL_len] at hb2
        have hb3 := cmBd_le j (by omega)
        have ev : cm_wl (cm_wl (cm_wl (32 * evr (tkL tx n p j).reverse) + tx (p + j)) - 96) = evr (tkL tx n p (j + 1)).reverse := by
          rw [hr, evr, eA, cm_wl_id (z := 32 * evr (tkL tx n p j).reverse) (by omega) (by omega), cm_wl_id (z := 32 * evr (tkL tx n p j).reverse + tx (p + j)) (by omega) (by omega), cm_wl_id (by omega) (by omega)]
          omega
        rw [ev, cm_w_id (by omega) (by omega)]
        have := ih none (j + 1) (by omega) (by
          intro c hcm
          rw [hr] at hcm
          rcases List.mem_cons.mp hcm with z | z
          · rw [z, eA]; omega
          · exact hc c z)
        rw [show p + ((j + 1 : Nat) : Int) = p + j + 1 by omega, show j + 1 + k = j + (k + 1) by omega] at this
        exact this
/-- the reference: wordOf -/
theorem cs_189 (ht : tOk tx n) {s : cm_S} (h : rTx tx n s) {p e : Int} (h0 : 0 ≤ p) (hpe : p ≤ e) (h1 : e ≤ n) : cm_sem 189 [.inr (.inl 41), .inl p, .inl e] s = some (.inl (some (.inl (if wdI (tkL tx n p (e - p).toNat) = 0 then 1 else 999 + wdI (tkL tx n p (e - p).toNat)))), s) := by
  obtain ⟨t1, t2, -⟩ := id ht
  rw [cS_189, cF_189_0, cm_w_id (by omega) (by omega)]
  by_cases hl : 10 < e - p
  · have : wdI (tkL tx n p (e - p).toNat) = 0 := by
      apply Decidable.byContradiction
      intro hne
      have := wd_len _ (wdF_mem _ _ hne)
      rw [tkL_len] at this
      omega
    rw [if_pos hl, this, if_pos rfl]
  · rw [if_neg hl]
    have := rl_189a ht h h0 h1 (by omega) (some (.inl p)) none (e - p).toNat 0 (by omega) (fun c hc => by cases hc)
    rw [Nat.zero_add, show p + ((0 : Nat) : Int) = p by omega] at this
    exact this
end TX15
