/-! ===== the class's store: complete trees, open nodes, what stays ===== -/
theorem cRep_le {k : Nat} {s : cm_S} {lo hi v : Int} {t : tT} (h : cRep k s lo hi v t) {k' : Nat} (hk : k ≤ k') : cRep k' s lo hi v t := by
  induction hk with
  | refl => exact h
  | step _ ih => exact cRep_up _ ih
theorem cPar_le {k : Nat} {s : cm_S} {v : Int} {ch : List tCh} (h : cPar k s v ch) {k' : Nat} (hk : k ≤ k') : cPar k' s v ch := ⟨h.1, h.2.1, fun q hq => ⟨(h.2.2 q hq).1, cRep_le (h.2.2 q hq).2 hk⟩⟩
/-- the draft's rows stay below lo -/
def cKp (s s' : cm_S) (lo : Int) : Prop := ∀ (a : Nat) (i : Int), 5 ≤ a → a ≤ 12 → i < lo → s'.2 a i = s.2 a i
/-- all stays but what a parse uses -/
def cFm (s s' : cm_S) : Prop := (∀ a : Nat, ¬ (5 ≤ a ∧ a ≤ 17) → s'.2 a = s.2 a) ∧ ∀ j : Nat, ¬ (j = 300 ∨ j = 301 ∨ j = 410 ∨ 1405 ≤ j ∧ j ≤ 1507) → s'.1 j = s.1 j
theorem cKp_rf (s : cm_S) (lo : Int) : cKp s s lo := fun _ _ _ _ _ => rfl
theorem cKp_row {s s' : cm_S} (h : s'.2 = s.2) (lo : Int) : cKp s s' lo := fun _ _ _ _ _ => by rw [h]
theorem cKp.tr {s s' s'' : cm_S} {lo lo' : Int} (h : cKp s s' lo) (h' : cKp s' s'' lo') {l : Int} (h1 : l ≤ lo) (h2 : l ≤ lo') : cKp s s'' l := fun a i g1 g2 g3 => (h' a i g1 g2 (by omega)).trans (h a i g1 g2 (by omega))
theorem cKp.le {s s' : cm_S} {lo l : Int} (h : cKp s s' lo) (h1 : l ≤ lo) : cKp s s' l := fun a i g1 g2 g3 => h a i g1 g2 (by omega)
theorem cFm_rf (s : cm_S) : cFm s s := ⟨fun _ _ => rfl, fun _ _ => rfl⟩
theorem cFm.tr {s s' s'' : cm_S} (h : cFm s s') (h' : cFm s' s'') : cFm s s'' := ⟨fun a ha => (h'.1 a ha).trans (h.1 a ha), fun j hj => (h'.2 j hj).trans (h.2 j hj)⟩
theorem cFr.fm {s s' : cm_S} (h : cFr s s') : cFm s s' := ⟨fun a _ => by rw [h.1], fun j hj => h.2 j (by omega)⟩
theorem cFx.fm {s s' : cm_S} (h : cFx s s') : cFm s s' := ⟨fun a _ => by rw [h.1], fun j hj => h.2 j (by omega) (by omega) (by omega)⟩
theorem cFm_p {s s' : cm_S} (h : cFm s s') {k : Nat} (hk : k = 300 ∨ k = 301 ∨ k = 410 ∨ 1405 ≤ k ∧ k ≤ 1507) {z : Int} : cFm s (cm_p s' k z) := ⟨h.1, fun j hj => by rw [cm_p_ne (by rintro rfl; exact hj hk)]; exact h.2 j hj⟩
theorem cFm_q {s s' : cm_S} (h : cFm s s') {a : Nat} (hk : 5 ≤ a ∧ a ≤ 17) {i z : Int} : cFm s (cm_q s' a i z) := ⟨fun b hb => by rw [cm_q_ne (by rintro rfl; exact hb hk)]; exact h.1 b hb, h.2⟩
/-- a complete tree; an open node with its number, kind, place, length, code, children -/
def cTr (s : cm_S) (lo hi v : Int) (t : tT) : Prop := ∃ k, cRep k s lo hi v t
def cNo (s : cm_S) (cn v : Int) (l : Int × Int × Int × Int) (lo : Int) (L : List tT) : Prop := ∃ ch : List tCh, ch.map (·.2.1) = L ∧ s.2 5 v = l.1 ∧ s.2 6 v = l.2.1 ∧ s.2 7 v = l.2.2.1 ∧ s.2 8 v = l.2.2.2 ∧ s.2 11 v = -1 ∧ (∃ k, cPar k s v ch) ∧ 0 ≤ lo ∧ lo ≤ v ∧ v < cn ∧ ∀ q ∈ ch, lo ≤ q.2.2.1 ∧ q.2.2.2 ≤ cn
theorem cTr_in {s : cm_S} {lo hi v : Int} {t : tT} (h : cTr s lo hi v t) : lo ≤ v ∧ v < hi := by
  obtain ⟨k, h⟩ := h
  exact cRep_in h
theorem cTr_fr {s s' : cm_S} {lo hi v : Int} {t : tT} {m : Int} (h : cTr s lo hi v t) (hk : cKp s s' m) (hm : hi ≤ m) : cTr s' lo hi v t := by
  obtain ⟨k, h⟩ := h
  exact ⟨k, cRep_fr k (fun a i g1 g2 g3 g4 _ => hk a i g1 g2 (by omega)) h⟩
theorem cTr_row {s s' : cm_S} {lo hi v : Int} {t : tT} (h : cTr s lo hi v t) (hk : s'.2 = s.2) : cTr s' lo hi v t := cTr_fr h (cKp_row hk hi) (Int.le_refl _)
theorem cTr_w {s : cm_S} {lo hi v : Int} {t : tT} (h : cTr s lo hi v t) (w : Bool) : cTr s lo hi v ((t.1.1, t.1.2.1, t.1.2.2.1, t.1.2.2.2.1, w), t.2) := by
  obtain ⟨k, h⟩ := h
  cases k with
  | zero => exact h.elim
  | succ k =>
    obtain ⟨h1, h2, ch, w', ht, hr⟩ := h
    refine ⟨k + 1, h1, h2, ch, w, ?_, hr⟩
    rw [ht]
theorem cTr_kind {s : cm_S} {lo hi v : Int} {t : tT} (h : cTr s lo hi v t) : s.2 5 v = t.1.1 := by
  obtain ⟨k, h⟩ := h
  cases k with
  | zero => exact h.elim
  | succ k =>
    obtain ⟨h1, h2, ch, w', ht, hr⟩ := h
    rw [ht]
theorem cNo_fr {s s' : cm_S} {cn v lo m : Int} {l : Int × Int × Int × Int} {L : List tT} (h : cNo s cn v l lo L) (hk : cKp s s' m) (hm : cn ≤ m) : cNo s' cn v l lo L := by
  obtain ⟨ch, h0, h1, h2, h3, h4, h5, ⟨k, ⟨p1, p2, p3, p4⟩, p5, p6⟩, h7, h8, h9, h10⟩ := h
  have hin : ∀ c ∈ ch.map (·.1), c < cn := by
    intro c hc
    obtain ⟨q, hq, rfl⟩ := List.mem_map.mp hc
    have := cRep_in (p6 q hq).2
    have := h10 q hq
    omega
  refine ⟨ch, h0, ?_, ?_, ?_, ?_, ?_, ⟨k, ⟨?_, ?_, ?_, ?_⟩, p5, ?_⟩, h7, h8, h9, h10⟩
  · rw [hk 5 v (by omega) (by omega) (by omega)]; exact h1
  · rw [hk 6 v (by omega) (by omega) (by omega)]; exact h2
  · rw [hk 7 v (by omega) (by omega) (by omega)]; exact h3
  · rw [hk 8 v (by omega) (by omega) (by omega)]; exact h4
  · rw [hk 11 v (by omega) (by omega) (by omega)]; exact h5
  · rw [hk 9 v (by omega) (by omega) (by omega)]; exact p1
  · rw [hk 10 v (by omega) (by omega) (by omega)]; exact p2
  · exact cLnk_fr _ (fun c hc => hk 11 c (by omega) (by omega) (by have := hin c hc; omega)) p3
  · intro c hc
    rw [hk 12 c (by omega) (by omega) (by have := hin c hc; omega)]
    exact p4 c hc
  · intro q hq
    refine ⟨(p6 q hq).1, cRep_fr k (fun a i g1 g2 g3 g4 _ => hk a i g1 g2 ?_) (p6 q hq).2⟩
    have := h10 q hq
    omega
theorem cNo_row {s s' : cm_S} {cn v lo : Int} {l : Int × Int × Int × Int} {L : List tT} (h : cNo s cn v l lo L) (hk : s'.2 = s.2) : cNo s' cn v l lo L := cNo_fr h (cKp_row hk cn) (Int.le_refl _)
theorem cNo_up {s : cm_S} {cn cn' v lo : Int} {l : Int × Int × Int × Int} {L : List tT} (h : cNo s cn v l lo L) (hc : cn ≤ cn') : cNo s cn' v l lo L := by
  obtain ⟨ch, h0, h1, h2, h3, h4, h5, h6, h7, h8, h9, h10⟩ := h
  exact ⟨ch, h0, h1, h2, h3, h4, h5, h6, h7, h8, by omega, fun q hq => ⟨(h10 q hq).1, by have := (h10 q hq).2; omega⟩⟩
theorem cNo_in {s : cm_S} {cn v lo : Int} {l : Int × Int × Int × Int} {L : List tT} (h : cNo s cn v l lo L) : 0 ≤ lo ∧ lo ≤ v ∧ v < cn := by
  obtain ⟨ch, h0, h1, h2, h3, h4, h5, h6, h7, h8, h9, h10⟩ := h
  exact ⟨h7, h8, h9⟩
/-- a complete node -/
theorem cNo_tr {s : cm_S} {cn v lo : Int} {l : Int × Int × Int × Int} {L : List tT} (h : cNo s cn v l lo L) (w : Bool) : cTr s lo cn v ((l.1, l.2.1, l.2.2.1, l.2.2.2, w), fo L) ∧ s.2 11 v = -1 := by
  obtain ⟨ch, h0, h1, h2, h3, h4, h5, ⟨k, h6⟩, h7, h8, h9, h10⟩ := h
  refine ⟨⟨k + 1, ?_⟩, h5⟩
  have := cPar_rep h6 h8 h9 h10 w
  rw [h1, h2, h3, h4, h0] at this
  exact this
/-! make -/
theorem cMk_kp (s : cm_S) (x1 x2 x3 x4 : Int) : cKp s (cMk s x1 x2 x3 x4) (s.1 410) := fun a i _ _ hi => cMk_old (by omega)
theorem cMk_fm (s : cm_S) (x1 x2 x3 x4 : Int) : cFm s (cMk s x1 x2 x3 x4) := by
  unfold cMk
  exact cFm_p (cFm_q (cFm_q (cFm_q (cFm_q (cFm_q (cFm_q (cFm_q (cFm_q (cFm_rf s) (by omega)) (by omega)) (by omega)) (by omega)) (by omega)) (by omega)) (by omega)) (by omega)) (by omega)
theorem cNo_new {s : cm_S} (h0 : 0 ≤ s.1 410) (x1 x2 x3 x4 : Int) : cNo (cMk s x1 x2 x3 x4) (s.1 410 + 1) (s.1 410) (x1, x2, x3, x4) (s.1 410) [] := by
  obtain ⟨h5, h6, h7, h8, h9, h10, h11, h12⟩ := cMk_new s x1 x2 x3 x4
  exact ⟨[], rfl, h5, h6, h7, h8, h11, ⟨0, cMk_par 0 s x1 x2 x3 x4⟩, h0, Int.le_refl _, by omega, fun q hq => by cases hq⟩
/-! add -/
theorem cAd_fm {s : cm_S} {p c : Int} : cFm s (cAd s p c) := by
  unfold cAd
  split
  · exact cFm_q (cFm_q (cFm_q (cFm_rf s) (by omega)) (by omega)) (by omega)
  · exact cFm_q (cFm_q (cFm_q (cFm_rf s) (by omega)) (by omega)) (by omega)
theorem cNo_last {s : cm_S} {cn v lo : Int} {l : Int × Int × Int × Int} {L : List tT} (h : cNo s cn v l lo L) : s.2 10 v = -1 ∨ lo ≤ s.2 10 v ∧ s.2 10 v < cn := by
  obtain ⟨ch, h0, h1, h2, h3, h4, h5, ⟨k, ⟨p1, p2, p3, p4⟩, p5, p6⟩, h7, h8, h9, h10⟩ := h
  cases ch with
  | nil => exact Or.inl p2
  | cons q r =>
    right
    have z : s.2 10 v ∈ (q :: r).map (·.1) := by rw [p2]; exact getLastD_mem _ _ _
    obtain ⟨q2, hq2, e2⟩ := List.mem_map.mp z
    have := cRep_in (p6 q2 hq2).2
    have := h10 q2 hq2
    omega
theorem cAd_kp {s : cm_S} {p c lo : Int} (hp : lo ≤ p) (hc : lo ≤ c) (hl : s.2 10 p = -1 ∨ lo ≤ s.2 10 p) : cKp s (cAd s p c) lo := fun a i g1 g2 g3 => cAd_old (fun z => by omega) (fun z => by omega) (fun h z => by omega)
/-- a child more, made behind all that the node has -/
theorem cNo_add {s : cm_S} {a b v c lo : Int} {l : Int × Int × Int × Int} {L : List tT} {t : tT} (h : cNo s a v l lo L) (hr : cTr s a b c t) (h11 : s.2 11 c = -1) : cNo (cAd s v c) b v l lo (L ++ [t]) ∧ cKp s (cAd s v c) lo := by
  have hl := cNo_last h
  have hin := cTr_in hr
  obtain ⟨ch, h0, h1, h2, h3, h4, h5, ⟨k, h6⟩, h7, h8, h9, h10⟩ := h
  obtain ⟨k', hr⟩ := hr
  have hk := cAd_kp (c := c) (p := v) (s := s) (lo := lo) h8 (by omega) (by omega)
  refine ⟨⟨ch ++ [(c, t, a, b)], by rw [List.map_append, h0]; rfl, ?_, ?_, ?_, ?_, ?_, ⟨max k k', cAd_par (cPar_le h6 (by omega)) (cRep_le hr (by omega)) h11 (Or.inl h9) (fun q hq => (h10 q hq).2) (fun q hq => by have := (h10 q hq).1; omega)⟩, h7, h8, by omega, ?_⟩, hk⟩
  · rw [cAd_old (fun _ => by omega) (fun z => by omega) (fun _ _ => by omega)]; exact h1
  · rw [cAd_old (fun _ => by omega) (fun z => by omega) (fun _ _ => by omega)]; exact h2
  · rw [cAd_old (fun _ => by omega) (fun z => by omega) (fun _ _ => by omega)]; exact h3
  · rw [cAd_old (fun _ => by omega) (fun z => by omega) (fun _ _ => by omega)]; exact h4
  · rw [cAd_old (fun _ => by omega) (fun z => by omega) (fun hne z => ?_)]
    · exact h5
    · exfalso
      obtain ⟨⟨p1, p2, p3, p4⟩, p5, p6⟩ := h6
      cases ch with
      | nil => exact hne p2
      | cons q r =>
        have y : s.2 10 v ∈ (q :: r).map (·.1) := by rw [p2]; exact getLastD_mem _ _ _
        obtain ⟨q2, hq2, e2⟩ := List.mem_map.mp y
        have := cRep_in (p6 q2 hq2).2
        have := (p6 q2 hq2).1
        omega
  · intro q hq
    rcases List.mem_append.mp hq with hq | hq
    · have := h10 q hq
      omega
    · have : q = (c, t, a, b) := by simpa using hq
      subst this
      simp only
      omega
/-- the first child, made ahead of the node -/
theorem cNo_add0 {s : cm_S} {cn v c lo : Int} {l : Int × Int × Int × Int} {t : tT} (h : cNo s cn v l v []) (hr : cTr s lo v c t) (h11 : s.2 11 c = -1) (h0 : 0 ≤ lo) : cNo (cAd s v c) cn v l lo [t] ∧ cKp s (cAd s v c) lo := by
  have hl := cNo_last h
  have hin := cTr_in hr
  obtain ⟨ch, e0, h1, h2, h3, h4, h5, ⟨k, h6⟩, h7, h8, h9, h10⟩ := h
  have : ch = [] := List.map_eq_nil_iff.mp e0
  subst this
  obtain ⟨k', hr⟩ := hr
  have e10 : s.2 10 v = -1 := h6.1.2.1
  have hk := cAd_kp (c := c) (p := v) (s := s) (lo := lo) (by omega) (by omega) (Or.inl e10)
  refine ⟨⟨[(c, t, lo, v)], rfl, ?_, ?_, ?_, ?_, ?_, ⟨max k k', cAd_par (ch := []) (cPar_le h6 (by omega)) (cRep_le hr (by omega)) h11 (Or.inr (Int.le_refl _)) (fun q hq => by cases hq) (fun q hq => by cases hq)⟩, h0, by omega, h9, ?_⟩, hk⟩
  · rw [cAd_old (fun _ => by omega) (fun z => by omega) (fun _ _ => by omega)]; exact h1
  · rw [cAd_old (fun _ => by omega) (fun z => by omega) (fun _ _ => by omega)]; exact h2
  · rw [cAd_old (fun _ => by omega) (fun z => by omega) (fun _ _ => by omega)]; exact h3
  · rw [cAd_old (fun _ => by omega) (fun z => by omega) (fun _ _ => by omega)]; exact h4
  · rw [cAd_old (fun _ => by omega) (fun z => by omega) (fun hne z => absurd e10 hne)]; exact h5
  · intro q hq
    have : q = (c, t, lo, v) := by simpa using hq
    subst this
    simp only
    omega
