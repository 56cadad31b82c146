/-! ===== what the class and the reference have in common between two calls ===== -/
abbrev okc (x : Int) : Prop := x = 9 ∨ x = 10 ∨ x = 13 ∨ 32 ≤ x ∧ x ≤ 126
def trE (s r : cm_S) (t : Nat) (i : Int) : Prop := s.2 (t + 1) i = r.2 67 (6 * i) ∧ s.2 (t + 2) i = r.2 67 (6 * i + 1) ∧ s.2 (t + 3) i = r.2 67 (6 * i + 2) ∧ s.2 (t + 7) i = r.2 67 (6 * i + 3) ∧ s.2 (t + 5) i = r.2 67 (6 * i + 4) ∧ s.2 (t + 8) i = r.2 67 (6 * i + 5) ∧ (s.2 (t + 8) i = 0 ∨ s.2 (t + 8) i = 1)
def FI (s r : cm_S) : Prop :=
  (∃ t t' : Nat, s.1 6 = t ∧ s.1 7 = t' ∧ (t = 18 ∧ t' = 27 ∨ t = 27 ∧ t' = 18) ∧ s.1 (100 * t + 8) = r.1 4143 ∧ ∀ i, 0 ≤ i → i < r.1 4143 → trE s r t i) ∧
  0 ≤ r.1 4143 ∧ r.1 4143 ≤ 482 ∧ (r.1 4142 = if r.1 4143 = 0 then 0 else 1) ∧
  s.1 101 = r.1 4106 ∧ 0 ≤ s.1 101 ∧ s.1 101 ≤ 480 ∧ (∀ i, 0 ≤ i → i < s.1 101 → s.2 2 i = r.2 45 i ∧ okc (s.2 2 i)) ∧
  s.1 3706 = r.1 4148 ∧ 0 ≤ s.1 3706 ∧ s.1 3706 ≤ 1024 ∧ ∀ i, 0 ≤ i → i < s.1 3706 → s.2 38 i = r.2 68 i ∧ okc (s.2 38 i)
/-! the characters that are printed -/
abbrev tL (ws : List tok) : Prop := ∀ w ∈ ws, ∀ c ∈ w.1, okc c
theorem tL_ap {a b : List tok} (h : tL a) (h' : tL b) : tL (a ++ b) := fun w hw => by
  rcases List.mem_append.mp hw with q | q
  · exact h w q
  · exact h' w q
theorem tL_ite {c : Prop} [Decidable c] {a b : List tok} (h : c → tL a) (h' : ¬ c → tL b) : tL (if c then a else b) := by
  by_cases q : c
  · rw [if_pos q]; exact h q
  · rw [if_neg q]; exact h' q
theorem tL_nil : tL [] := fun w hw => by cases hw
theorem pushL_ok : ∀ (w R : List Int), (∀ c ∈ w, okc c) → (∀ c ∈ R, okc c) → ∀ c ∈ pushL R w, okc c
  | [], _, _, h => h
  | x :: w, R, h, h' => pushL_ok w (x :: R) (fun c hc => h c (List.mem_cons_of_mem _ hc)) (fun c hc => by
      rcases List.mem_cons.mp hc with rfl | hc
      · exact h _ (List.mem_cons_self ..)
      · exact h' c hc)
theorem ems_ok : ∀ (ws : List tok) (st : oS), tL ws → (∀ c ∈ st.1, okc c) → ∀ c ∈ (ems st ws).1, okc c
  | [], _, _, h => h
  | w :: ws, st, hw, h => ems_ok ws (emT st w) (fun v hv => hw v (List.mem_cons_of_mem _ hv)) (by
      refine pushL_ok w.1 _ (hw w (List.mem_cons_self ..)) ?_
      intro c hc
      unfold sepR at hc
      split at hc
      · rcases List.mem_cons.mp hc with rfl | hc
        · exact Or.inr (Or.inr (Or.inr (by decide)))
        · exact h c hc
      · exact h c hc)
theorem tL_k : ∀ p ∈ List.range 32, tL [kTok (1005 + p)] := by decide
theorem tL_1 {p : Nat} (h : 1005 ≤ p ∧ p ≤ 1036) : tL [kTok p] := by
  have := tL_k (p - 1005) (List.mem_range.mpr (by omega))
  rw [show 1005 + (p - 1005) = p by omega] at this
  exact this
theorem tL_2 {p q : Nat} (h : 1005 ≤ p ∧ p ≤ 1036) (h' : 1005 ≤ q ∧ q ≤ 1036) : tL [kTok p, kTok q] := tL_ap (tL_1 h) (tL_1 h')
section TXb9
variable {tx : Int → Int} {n : Int}
theorem tkL_ok (ht : tOk tx n) : ∀ (k : Nat) (p : Int), 0 ≤ p → p + k ≤ n → ∀ c ∈ tkL tx n p k, okc c
  | 0, _, _, _ => fun c hc => by cases hc
  | k + 1, p, h0, h1 => fun c hc => by
    have e : tkL tx n p (k + 1) = tA tx n p :: tkL tx n (p + 1) k := rfl
    rw [e] at hc
    rcases List.mem_cons.mp hc with rfl | hc
    · have : tA tx n p = tx p := if_pos ⟨h0, by omega⟩
      rw [this]
      exact ht.2.2 p h0 (by omega)
    · exact tkL_ok ht k (p + 1) (by omega) (by omega) c hc
theorem tL_x (ht : tOk tx n) {l : tLb} (g : gT tx n l) (b : Bool) : tL (xTk tx n l b) := by
  unfold xTk
  split
  · intro w hw
    have : w = _ := List.mem_singleton.mp hw
    rw [this]
    exact tkL_ok ht _ _ g.1 (by have := g.2.1; have := g.2.2.1; omega)
  · exact tL_nil
theorem tL_ahd (ht : tOk tx n) {l : tLb} (g : gT tx n l) (r k : Int) : tL (ahd tx n l r k) := by
  unfold ahd ahH
  repeat' (first | exact tL_nil | exact tL_1 (by omega) | exact tL_2 (by omega) (by omega) | exact tL_x ht g _ | refine tL_ite (fun _ => ?_) (fun _ => ?_))
theorem tL_opn (ht : tOk tx n) {l : tLb} (g : gT tx n l) (k : Int) : tL (opn tx n l k) := by
  unfold opn opS opE opH
  repeat' (first | exact tL_nil | exact tL_1 (by omega) | exact tL_2 (by omega) (by omega) | exact tL_x ht g _ | refine tL_ite (fun _ => ?_) (fun _ => ?_) | refine tL_ap ?_ ?_)
theorem tL_clo (ht : tOk tx n) {l : tLb} (g : gT tx n l) (pk r : Int) (ch : tF) (br : Bool) : tL (clo tx n pk r l ch br) := by
  have a : tL (clS pk r l (fLn ch)) := by
    unfold clS
    repeat' (first | exact tL_nil | exact tL_1 (by omega) | exact tL_2 (by omega) (by omega) | exact tL_ap (a := [kTok 1010]) (tL_1 (by omega)) (tL_2 (by omega) (by omega)) | refine tL_ite (fun _ => ?_) (fun _ => ?_))
  have b : tL (clE tx n l (fLn ch) (nlF ch)) := by
    unfold clE
    repeat' (first | exact tL_nil | exact tL_1 (by omega) | exact tL_x ht g _ | refine tL_ite (fun _ => ?_) (fun _ => ?_) | refine tL_ap ?_ ?_)
  unfold clo
  split
  · exact a
  · refine tL_ap b ?_
    split
    · exact tL_1 (by omega)
    · exact tL_nil
theorem tL_prF (ht : tOk tx n) : ∀ (f : tF) (pl : tLb) (r : Int) (hp bp : Bool), gF tx n f → (f ≠ .leaf → ∀ r k, tL (ahd tx n pl r k)) → tL (prF tx n pl r hp bp f) := by
  intro f
  induction f with
  | leaf => intro pl r hp bp _ _; exact tL_nil
  | inner x l u ch re i1 i2 =>
    intro pl r hp bp hF ha
    obtain ⟨f1, f2, f3, f4, f5⟩ := hF
    have ha' := ha (by intro z; cases z)
    rw [prF_in]
    refine tL_ap (ha' _ _) (tL_ap ?_ (i2 pl (r + 1) hp bp f5 (fun _ => ha')))
    unfold bdT
    refine tL_ap ?_ (tL_ap (tL_opn ht f1 _) (tL_ap (i1 l 0 _ _ f4 (fun _ r k => tL_ahd ht f1 r k)) (tL_clo ht f1 _ _ _ _)))
    split
    · exact tL_1 (by omega)
    · exact tL_nil
theorem prT_ok (ht : tOk tx n) {T : tT} (g : gF tx n (fo [T])) : ∀ c ∈ (prT tx n T).1, okc c := by
  unfold prT
  refine ems_ok _ _ (tL_prF ht (fo [T]) rootL 0 false false g (fun _ r k => ?_)) (fun c hc => by cases hc)
  have : ahd tx n rootL r k = [] := by simp [ahd, ahH, rootL]
  rw [this]
  exact tL_nil
end TXb9
theorem out_eq {s r : cm_S} : ∀ (R : List Int), cOutA s R → rOutA r R → (∀ c ∈ R, okc c) → ∀ i : Int, 0 ≤ i → i < R.length → s.2 38 i = r.2 68 i ∧ okc (s.2 38 i)
  | [], _, _, _ => fun i h0 h1 => by simp at h1; omega
  | c :: R, ⟨a1, a2⟩, ⟨b1, b2⟩, h => fun i h0 h1 => by
    rw [List.length_cons] at h1
    by_cases q : i = (R.length : Int)
    · rw [q, a1, b1]
      exact ⟨rfl, h c (List.mem_cons_self ..)⟩
    · exact out_eq R a2 b2 (fun d hd => h d (List.mem_cons_of_mem _ hd)) i h0 (by omega)
/-! parse() of the reference: its two loops -/
theorem rl_174 (o2 o3 o4 : Option cm_V) : ∀ (k : Nat) (x : Int) (s : cm_S), 0 ≤ x → x + k = s.1 4107 → s.1 4107 ≤ 480 → (∀ i, 0 ≤ i → i < s.1 4107 → -128 ≤ s.2 45 i ∧ s.2 45 i < 128) → ∃ s', cm_lp cm_sem cm_k174 10 [some (.inr (.inl 41)), some (.inl x), o2, o3, o4] [] s = cm_lp cm_sem cm_k174 10 [some (.inr (.inl 41)), some (.inl (s.1 4107)), o2, o3, o4] [] s' ∧ s'.1 = s.1 ∧ (∀ a : Nat, a ≠ 46 → s'.2 a = s.2 a) ∧ (∀ i, x ≤ i → i < s.1 4107 → s'.2 46 i = s.2 45 i) ∧ ∀ i, i < x → s'.2 46 i = s.2 46 i := by
  intro k
  induction k with
  | zero =>
    intro x s h0 h1 h2 h3
    have : x = s.1 4107 := by omega
    subst this
    exact ⟨s, rfl, rfl, fun _ _ => rfl, fun i a b => by omega, fun _ _ => rfl⟩
  | succ k ih =>
    intro x s h0 h1 h2 h3
    have hx : x < s.1 4107 := by omega
    obtain ⟨s', e1, e2, e3, e4, e5⟩ := ih (x + 1) (cm_q s 46 x (s.2 45 x)) (by omega) (by show x + 1 + k = s.1 4107; omega) h2 (fun i a b => by rw [cm_q_ne (by decide)]; exact h3 i a b)
    have f45 : (cm_q s 46 x (s.2 45 x)).2 45 = s.2 45 := cm_q_ne (by decide)
    refine ⟨s', ?_, e2, fun a ha => (e3 a ha).trans (cm_q_ne ha), fun i a b => ?_, fun i a => ?_⟩
    · rw [cE_174_10, cF_174_10, if_pos hx, if_pos ⟨h0, by omega⟩, if_pos ⟨h0, by omega⟩, if_pos (h3 x h0 hx), cm_w_id (by omega) (by omega)]
      exact e1
    · by_cases q : i = x
      · rw [e5 i (by omega), cm_q_at, if_pos q, q]
      · rw [e4 i (by omega) b, f45]
    · rw [e5 i (by omega), cm_q_at, if_neg (by omega)]
