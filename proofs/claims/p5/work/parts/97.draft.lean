/-! ===== the class's draft: make and add ===== -/
/-- a child: its number, its tree, the numbers from .. to that its nodes have -/
abbrev tCh : Type := Int × tT × Int × Int
def cLnk (s : cm_S) : List Int → Prop
  | [] => True
  | [c] => s.2 11 c = -1
  | c :: d :: r => s.2 11 c = d ∧ cLnk s (d :: r)
/-- the children of v are cs -/
def cChn (s : cm_S) (v : Int) (cs : List Int) : Prop := s.2 9 v = cs.headD (-1) ∧ s.2 10 v = cs.getLastD (-1) ∧ cLnk s cs ∧ ∀ c ∈ cs, s.2 12 c = v
/-- the node v stands for the tree t; its nodes have numbers from lo up to hi -/
def cRep : Nat → cm_S → Int → Int → Int → tT → Prop
  | 0, _, _, _, _, _ => False
  | k + 1, s, lo, hi, v, t => lo ≤ v ∧ v < hi ∧ ∃ (ch : List tCh) (w : Bool), t = ((s.2 5 v, s.2 6 v, s.2 7 v, s.2 8 v, w), fo (ch.map (·.2.1))) ∧ cChn s v (ch.map (·.1)) ∧ ch.Pairwise (fun a b => a.2.2.2 ≤ b.2.2.1) ∧ ∀ q ∈ ch, lo ≤ q.2.2.1 ∧ q.2.2.2 ≤ hi ∧ (v < q.2.2.1 ∨ q.2.2.2 ≤ v) ∧ cRep k s q.2.2.1 q.2.2.2 q.1 q.2.1
/-- a node that still gets children -/
def cPar (k : Nat) (s : cm_S) (v : Int) (ch : List tCh) : Prop := cChn s v (ch.map (·.1)) ∧ ch.Pairwise (fun a b => a.2.2.2 ≤ b.2.2.1) ∧ ∀ q ∈ ch, (v < q.2.2.1 ∨ q.2.2.2 ≤ v) ∧ cRep k s q.2.2.1 q.2.2.2 q.1 q.2.1
theorem cRep_in {k : Nat} {s : cm_S} {lo hi v : Int} {t : tT} (h : cRep k s lo hi v t) : lo ≤ v ∧ v < hi := by
  cases k with
  | zero => exact h.elim
  | succ k => exact ⟨h.1, h.2.1⟩
theorem cLnk_fr {s s' : cm_S} : ∀ cs : List Int, (∀ c ∈ cs, s'.2 11 c = s.2 11 c) → cLnk s cs → cLnk s' cs
  | [], _, _ => trivial
  | [c], h, h1 => (h c (List.mem_cons_self ..)).trans h1
  | c :: d :: r, h, h1 => ⟨(h c (List.mem_cons_self ..)).trans h1.1, cLnk_fr (d :: r) (fun x hx => h x (List.mem_cons_of_mem _ hx)) h1.2⟩
/-- what is unchanged from lo up to hi (but for the root's next and up) stands for the same -/
theorem cRep_fr : ∀ (k : Nat) {s s' : cm_S} {lo hi v : Int} {t : tT}, (∀ (a : Nat) (i : Int), 5 ≤ a → a ≤ 12 → lo ≤ i → i < hi → (i = v → a ≠ 11 ∧ a ≠ 12) → s'.2 a i = s.2 a i) → cRep k s lo hi v t → cRep k s' lo hi v t := by
  intro k
  induction k with
  | zero => intro s s' lo hi v t _ h; exact h
  | succ k ih =>
    intro s s' lo hi v t hf h
    obtain ⟨h1, h2, ch, w, ht, ⟨c1, c2, c3, c4⟩, hp, hq⟩ := h
    have hin : ∀ q ∈ ch, lo ≤ q.1 ∧ q.1 < hi ∧ q.1 ≠ v := by
      intro q hqm
      obtain ⟨a1, a2, a3, a4⟩ := hq q hqm
      have := cRep_in a4
      exact ⟨by omega, by omega, by omega⟩
    have hin2 : ∀ c ∈ ch.map (·.1), lo ≤ c ∧ c < hi ∧ c ≠ v := by
      intro c hc
      obtain ⟨q, hqm, rfl⟩ := List.mem_map.mp hc
      exact hin q hqm
    refine ⟨h1, h2, ch, w, ?_, ⟨?_, ?_, ?_, ?_⟩, hp, ?_⟩
    · rw [ht, hf 5 v (by omega) (by omega) h1 h2 (fun _ => by omega), hf 6 v (by omega) (by omega) h1 h2 (fun _ => by omega), hf 7 v (by omega) (by omega) h1 h2 (fun _ => by omega), hf 8 v (by omega) (by omega) h1 h2 (fun _ => by omega)]
    · rw [hf 9 v (by omega) (by omega) h1 h2 (fun _ => by omega)]; exact c1
    · rw [hf 10 v (by omega) (by omega) h1 h2 (fun _ => by omega)]; exact c2
    · exact cLnk_fr _ (fun c hc => hf 11 c (by omega) (by omega) (hin2 c hc).1 (hin2 c hc).2.1 (fun z => absurd z (hin2 c hc).2.2)) c3
    · intro c hc
      rw [hf 12 c (by omega) (by omega) (hin2 c hc).1 (hin2 c hc).2.1 (fun z => absurd z (hin2 c hc).2.2)]
      exact c4 c hc
    · intro q hqm
      obtain ⟨a1, a2, a3, a4⟩ := hq q hqm
      refine ⟨a1, a2, a3, ih (fun a i g1 g2 g3 g4 _ => ?_) a4⟩
      exact hf a i g1 g2 (by omega) (by omega) (fun z => by omega)
theorem cRep_up : ∀ (k : Nat) {s : cm_S} {lo hi v : Int} {t : tT}, cRep k s lo hi v t → cRep (k + 1) s lo hi v t := by
  intro k
  induction k with
  | zero => intro s lo hi v t h; exact h.elim
  | succ k ih =>
    intro s lo hi v t h
    obtain ⟨h1, h2, ch, w, ht, hc, hp, hq⟩ := h
    exact ⟨h1, h2, ch, w, ht, hc, hp, fun q hqm => by obtain ⟨a1, a2, a3, a4⟩ := hq q hqm; exact ⟨a1, a2, a3, ih a4⟩⟩
theorem cRep_wide {k : Nat} {s : cm_S} {lo hi lo' hi' v : Int} {t : tT} (h : cRep k s lo hi v t) (h1 : lo' ≤ lo) (h2 : hi ≤ hi') : cRep k s lo' hi' v t := by
  cases k with
  | zero => exact h.elim
  | succ k =>
    obtain ⟨g1, g2, ch, w, ht, hc, hp, hq⟩ := h
    exact ⟨by omega, by omega, ch, w, ht, hc, hp, fun q hqm => by obtain ⟨a1, a2, a3, a4⟩ := hq q hqm; exact ⟨by omega, by omega, a3, a4⟩⟩
/-- a node that gets no more children -/
theorem cPar_rep {k : Nat} {s : cm_S} {lo hi v : Int} {ch : List tCh} (h : cPar k s v ch) (h1 : lo ≤ v) (h2 : v < hi) (hb : ∀ q ∈ ch, lo ≤ q.2.2.1 ∧ q.2.2.2 ≤ hi) (w : Bool) : cRep (k + 1) s lo hi v ((s.2 5 v, s.2 6 v, s.2 7 v, s.2 8 v, w), fo (ch.map (·.2.1))) :=
  ⟨h1, h2, ch, w, rfl, h.1, h.2.1, fun q hq => ⟨(hb q hq).1, (hb q hq).2, h.2.2 q hq⟩⟩
/-! make -/
def cMk (s : cm_S) (x1 x2 x3 x4 : Int) : cm_S := cm_p (cm_q (cm_q (cm_q (cm_q (cm_q (cm_q (cm_q (cm_q s 5 (s.1 410) x1) 6 (s.1 410) x2) 7 (s.1 410) x3) 8 (s.1 410) x4) 9 (s.1 410) (-1)) 10 (s.1 410) (-1)) 11 (s.1 410) (-1)) 12 (s.1 410) (-1)) 410 (s.1 410 + 1)
theorem cs_45 {s : cm_S} (h0 : 0 ≤ s.1 410) (h1 : s.1 410 < 512) (x1 x2 x3 x4 : Int) : cm_sem 45 [.inr (.inl 4), .inl x1, .inl x2, .inl x3, .inl x4] s = some (.inl (some (.inl (s.1 410))), cMk s x1 x2 x3 x4) := by
  rw [cS_45, cF_45_0, if_neg (by omega), if_pos h1]
  simp only [if_pos (show (0 : Int) ≤ s.1 410 ∧ s.1 410 < 512 from ⟨h0, h1⟩), cm_w_id (show -2147483648 ≤ s.1 410 + 1 by omega) (by omega)]
  rfl
theorem cm_q_old {s : cm_S} {a b : Nat} {j z i : Int} (h : i ≠ j) : (cm_q s a j z).2 b i = s.2 b i := by
  by_cases hb : b = a
  · subst hb; rw [cm_q_at, if_neg h]
  · rw [cm_q_ne hb]
theorem cMk_old {s : cm_S} {x1 x2 x3 x4 : Int} {a : Nat} {i : Int} (h : i ≠ s.1 410) : (cMk s x1 x2 x3 x4).2 a i = s.2 a i := by
  unfold cMk
  rw [cm_p_row, cm_q_old h, cm_q_old h, cm_q_old h, cm_q_old h, cm_q_old h, cm_q_old h, cm_q_old h, cm_q_old h]
theorem cMk_new (s : cm_S) (x1 x2 x3 x4 : Int) : (cMk s x1 x2 x3 x4).2 5 (s.1 410) = x1 ∧ (cMk s x1 x2 x3 x4).2 6 (s.1 410) = x2 ∧ (cMk s x1 x2 x3 x4).2 7 (s.1 410) = x3 ∧ (cMk s x1 x2 x3 x4).2 8 (s.1 410) = x4 ∧ (cMk s x1 x2 x3 x4).2 9 (s.1 410) = -1 ∧ (cMk s x1 x2 x3 x4).2 10 (s.1 410) = -1 ∧ (cMk s x1 x2 x3 x4).2 11 (s.1 410) = -1 ∧ (cMk s x1 x2 x3 x4).2 12 (s.1 410) = -1 := by
  refine ⟨?_, ?_, ?_, ?_, ?_, ?_, ?_, ?_⟩ <;> simp [cMk, cm_p, cm_q]
theorem cMk_fld {s : cm_S} {x1 x2 x3 x4 : Int} {j : Nat} (h : j ≠ 410) : (cMk s x1 x2 x3 x4).1 j = s.1 j := by
  unfold cMk
  rw [cm_p_ne h]
  rfl
theorem cMk_cnt {s : cm_S} {x1 x2 x3 x4 : Int} : (cMk s x1 x2 x3 x4).1 410 = s.1 410 + 1 := cm_p_at
/-- a new node has no children -/
theorem cMk_par (k : Nat) (s : cm_S) (x1 x2 x3 x4 : Int) : cPar k (cMk s x1 x2 x3 x4) (s.1 410) [] := by
  obtain ⟨-, -, -, -, h9, h10, -, -⟩ := cMk_new s x1 x2 x3 x4
  exact ⟨⟨h9, h10, trivial, fun c hc => by cases hc⟩, List.Pairwise.nil, fun q hq => by cases hq⟩
/-! add -/
theorem cs_59 {s : cm_S} (x : Int) : cm_sem 59 [.inr (.inl 4), .inl x] s = some (.inl (some (.inl (cm_b (0 ≤ x ∧ x < s.1 410 ∧ x < 512)))), s) := by
  rw [cS_59]; unfold cF_59_0 cm_b; repeat' split
  all_goals first | rfl | (exfalso; omega)
/-- what add leaves -/
def cAd (s : cm_S) (p c : Int) : cm_S := cm_q (cm_q (if s.2 10 p = -1 then cm_q s 9 p c else cm_q s 11 (s.2 10 p) c) 10 p c) 12 c p
theorem cs_58 {s : cm_S} (hn : s.1 410 ≤ 512) {p c : Int} (hp : 0 ≤ p ∧ p < s.1 410) (hc : 0 ≤ c ∧ c < s.1 410) (hl : s.2 10 p = -1 ∨ 0 ≤ s.2 10 p ∧ s.2 10 p < s.1 410) : cm_sem 58 [.inr (.inl 4), .inl p, .inl c] s = some (.inl none, cAd s p c) := by
  rw [cS_58, cF_58_0]
  simp only [cs_59, cm_bi_i, cm_b0]
  rw [if_neg (fun z => z ⟨hp.1, hp.2, by omega⟩), if_neg (fun z => z ⟨hc.1, hc.2, by omega⟩)]
  simp only [if_pos (show (0 : Int) ≤ p ∧ p < 512 by omega), if_pos (show (0 : Int) ≤ c ∧ c < 512 by omega)]
  unfold cAd
  rcases hl with h | h
  · rw [if_pos (show ¬ (0 ≤ s.2 10 p ∧ s.2 10 p < s.1 410 ∧ s.2 10 p < 512) by omega), if_pos h]
  · rw [if_neg (fun z => z ⟨h.1, h.2, by omega⟩), if_neg (show ¬ s.2 10 p = -1 by omega), if_pos (show (0 : Int) ≤ s.2 10 p ∧ s.2 10 p < 512 by omega)]
theorem cAd_fld {s : cm_S} {p c : Int} : (cAd s p c).1 = s.1 := by
  unfold cAd
  rw [cm_q_fld, cm_q_fld]
  split <;> rfl
/-- which numbers add touches -/
theorem cAd_old {s : cm_S} {p c : Int} {a : Nat} {i : Int} (h1 : i = p → a ≠ 9 ∧ a ≠ 10) (h2 : i = c → a ≠ 12) (h3 : s.2 10 p ≠ -1 → i = s.2 10 p → a ≠ 11) : (cAd s p c).2 a i = s.2 a i := by
  unfold cAd
  by_cases e12 : a = 12
  · subst e12
    rw [cm_q_at, if_neg (fun z => (h2 z) rfl), cm_q_ne (by decide)]
    split
    · rw [cm_q_ne (by decide)]
    · rw [cm_q_ne (by decide)]
  · rw [cm_q_ne e12]
    by_cases e10 : a = 10
    · subst e10
      rw [cm_q_at, if_neg (fun z => (h1 z).2 rfl)]
      split
      · rw [cm_q_ne (by decide)]
      · rw [cm_q_ne (by decide)]
    · rw [cm_q_ne e10]
      split
      · by_cases e9 : a = 9
        · subst e9
          rw [cm_q_at, if_neg (fun z => (h1 z).1 rfl)]
        · rw [cm_q_ne e9]
      · next hl =>
        by_cases e11 : a = 11
        · subst e11
          rw [cm_q_at, if_neg (fun z => (h3 hl z) rfl)]
        · rw [cm_q_ne e11]
