/-! ===== names and words, on both sides ===== -/
section TX12
variable (tx : Int → Int) (n : Int)
/-- the token's characters -/
def tkL (p : Int) : Nat → List Int
  | 0 => []
  | k + 1 => tA tx n p :: tkL (p + 1) k
end TX12
def wdS : List (List Int) := [[98, 114, 101, 97, 107], [99, 97, 115, 101], [99, 97, 116, 99, 104], [99, 111, 110, 116, 105, 110, 117, 101], [100, 101, 102, 97, 117, 108, 116], [100, 101, 108, 101, 116, 101], [100, 111], [101, 108, 115, 101], [102, 97, 108, 115, 101], [102, 105, 110, 97, 108, 108, 121], [102, 111, 114], [102, 117, 110, 99, 116, 105, 111, 110], [105, 102], [105, 110], [105, 110, 115, 116, 97, 110, 99, 101, 111, 102], [110, 101, 119], [110, 117, 108, 108], [114, 101, 116, 117, 114, 110], [115, 119, 105, 116, 99, 104], [116, 104, 105, 115], [116, 104, 114, 111, 119], [116, 114, 117, 101], [116, 114, 121], [116, 121, 112, 101, 111, 102], [118, 97, 114], [118, 111, 105, 100], [119, 104, 105, 108, 101]]
/-- which word: from w on, 0 if it is none -/
def wdF (tk : List Int) : List (List Int) → Int → Int
  | [], _ => 0
  | u :: r, w => if tk = u then w else wdF tk r (w + 1)
def wdI (tk : List Int) : Int := wdF tk wdS 1
theorem wdF_ge (tk : List Int) : ∀ (l : List (List Int)) (w : Int), 1 ≤ w → wdF tk l w = 0 ∨ w ≤ wdF tk l w ∧ wdF tk l w < w + l.length := by
  intro l
  induction l with
  | nil => intro w _; exact Or.inl rfl
  | cons u r ih =>
    intro w hw
    simp only [wdF]
    split
    · exact Or.inr ⟨Int.le_refl _, by simp only [List.length_cons]; omega⟩
    · have := ih (w + 1) (by omega)
      simp only [List.length_cons]
      omega
theorem wdI_le (tk : List Int) : 0 ≤ wdI tk ∧ wdI tk ≤ 27 := by
  have := wdF_ge tk wdS 1 (by omega)
  have h : wdS.length = 27 := by decide
  unfold wdI
  omega
section TX13
variable {tx : Int → Int} {n : Int}
theorem tkL_len {p : Int} : ∀ k : Nat, (tkL tx n p k).length = k := by
  intro k
  induction k generalizing p with
  | zero => rfl
  | succ k ih => simp [tkL, ih]
/-- the class's walk over the row of words: what is left of it, which word, how many characters were alike -/
def wlk (tk0 : Int → Int) (len : Int) : List Int → Int → Int → Int
  | [], _, _ => 0
  | c :: r, w, a => if c = 32 then (if a = len then w else wlk tk0 len r (w + 1) 0) else if a = -1 then wlk tk0 len r w (-1) else if tk0 a = c then wlk tk0 len r w (a + 1) else wlk tk0 len r w (-1)
theorem cl_39 (ht : tOk tx n) {s : cm_S} (h : cTx tx n s) {p len : Int} (hp : s.1 1505 = p) (hl : s.1 1506 - p = len) (h0 : 0 ≤ p) (h1 : p ≤ 480) (h2 : 0 ≤ len ∧ len ≤ 480) : ∀ (l : List Int) (x3 : Int) (w a : Int) (o4 : Option cm_V), (∀ i : Nat, i < l.length → cm_ka 1001 (x3 + i) = l.getD i 0) → 0 ≤ x3 → x3 + l.length = cm_kn 1001 → 0 ≤ w → w ≤ 200 - l.length → -1 ≤ a → a ≤ 200 - l.length → cm_lp cm_sem cm_k39 17 [some (.inr (.inl 15)), some (.inl w), some (.inl a), some (.inl x3), o4] [] s = some (.inl (some (.inl (wlk (fun i => tA tx n (p + i)) len l w a))), s) := by
  have hkn : cm_kn 1001 = 158 := by decide +kernel
  have e40 : cm_sem 40 [.inr (.inl 15)] s = some (.inl (some (.inl len)), s) := by
    rw [cS_40, cF_40_0, hp, hl, cm_w_id (by omega) (by omega)]
  intro l
  induction l with
  | nil =>
    intro x3 w a o4 hi h3 h4 hw hw2 ha ha2
    rw [cE_39_17, cF_39_17, if_neg (by simp only [List.length_nil] at h4; omega)]
    rfl
  | cons c r ih =>
    intro x3 w a o4 hi h3 h4 hw hw2 ha ha2
    simp only [List.length_cons] at h4 hw2 ha2
    have hc : cm_ka 1001 x3 = c := by
      have := hi 0 (by simp)
      simpa using this
    have hi2 : ∀ i : Nat, i < r.length → cm_ka 1001 (x3 + 1 + i) = r.getD i 0 := by
      intro i hlt
      have := hi (i + 1) (by simp only [List.length_cons]; omega)
      rw [show x3 + 1 + (i : Int) = x3 + ((i + 1 : Nat) : Int) by omega]
      simpa using this
    have ew : cm_w (x3 + 1) = x3 + 1 := cm_w_id (by omega) (by omega)
    have go : ∀ w2 a2 o4, 0 ≤ w2 → w2 ≤ w + 1 → -1 ≤ a2 → a2 ≤ a + 1 → cm_lp cm_sem cm_k39 17 [some (.inr (.inl 15)), some (.inl w2), some (.inl a2), some (.inl (x3 + 1)), o4] [] s = some (.inl (some (.inl (wlk (fun i => tA tx n (p + i)) len r w2 a2))), s) := fun w2 a2 o4 g1 g2 g3 g4 => ih (x3 + 1) w2 a2 o4 hi2 (by omega) (by omega) g1 (by omega) g3 (by omega)
    rw [cE_39_17, cF_39_17, if_pos (by omega), if_pos (by omega), hc, ew]
    simp only [wlk]
    by_cases h32 : c = 32
    · rw [if_pos h32, if_pos h32, e40, cm_bi_i]
      by_cases ha3 : a = len
      · rw [if_pos ha3, if_pos ha3]
      · rw [if_neg ha3, if_neg ha3, cm_w_id (by omega) (by omega)]
        exact go _ _ _ (by omega) (by omega) (by omega) (by omega)
    · rw [if_neg h32, if_neg h32]
      by_cases ha3 : a = -1
      · rw [if_pos ha3, if_pos ha3]
        exact go _ _ _ (by omega) (by omega) (by omega) (by omega)
      · rw [if_neg ha3, if_neg ha3, hp, cm_w_id (show -2147483648 ≤ p + a by omega) (by omega), cs_28 ht h, cm_bi_i]
        by_cases hm : tA tx n (p + a) = c
        · rw [if_pos hm, if_pos hm, cm_w_id (by omega) (by omega)]
          exact go _ _ _ (by omega) (by omega) (by omega) (by omega)
        · rw [if_neg hm, if_neg hm]
          exact go _ _ _ (by omega) (by omega) (by omega) (by omega)
end TX13
