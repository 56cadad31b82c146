/-! ===== a child more ===== -/
theorem getLastD_two (a d : Int) (r : List Int) (x : Int) : (a :: d :: r).getLastD x = (d :: r).getLastD x := by
  simp [List.getLastD_cons]
theorem getLastD_mem (a : Int) (r : List Int) (x : Int) : (a :: r).getLastD x ∈ a :: r := by
  induction r generalizing a with
  | nil => simp [List.getLastD_cons]
  | cons d r ih =>
    rw [getLastD_two]
    exact List.mem_cons_of_mem _ (ih d)
theorem cLnk_snoc {s s' : cm_S} {c : Int} (hc : s'.2 11 c = -1) : ∀ (a : Int) (r : List Int), (a :: r).Pairwise (· < ·) → cLnk s (a :: r) → (∀ x ∈ a :: r, x ≠ (a :: r).getLastD (-1) → s'.2 11 x = s.2 11 x) → s'.2 11 ((a :: r).getLastD (-1)) = c → cLnk s' ((a :: r) ++ [c]) := by
  intro a r
  induction r generalizing a with
  | nil =>
    intro _ _ _ hl
    exact ⟨by simpa [List.getLastD_cons] using hl, hc⟩
  | cons d r ih =>
    intro hp hk hx hl
    rw [getLastD_two] at hl
    have hp2 := (List.pairwise_cons.mp hp).2
    have hlt : a < (d :: r).getLastD (-1) := (List.pairwise_cons.mp hp).1 _ (getLastD_mem d r (-1))
    refine ⟨?_, ih d hp2 hk.2 (fun x hxm hne => hx x (List.mem_cons_of_mem _ hxm) (by rw [getLastD_two]; exact hne)) hl⟩
    rw [hx a (List.mem_cons_self ..) (by rw [getLastD_two]; omega)]
    exact hk.1
theorem cPar_inc {k : Nat} {s : cm_S} {v : Int} {ch : List tCh} (h : cPar k s v ch) : (ch.map (·.1)).Pairwise (· < ·) := by
  obtain ⟨-, hp, hq⟩ := h
  rw [List.pairwise_map]
  refine (List.pairwise_iff_forall_sublist.mpr fun {a b} hs => ?_)
  have h1 := List.pairwise_iff_forall_sublist.mp hp hs
  have ha := hq a (hs.subset (by simp))
  have hb := hq b (hs.subset (by simp))
  have := cRep_in ha.2
  have := cRep_in hb.2
  omega
theorem pw_or {α : Type} {R : α → α → Prop} : ∀ {l : List α}, l.Pairwise R → ∀ {a b : α}, a ∈ l → b ∈ l → a = b ∨ R a b ∨ R b a := by
  intro l
  induction l with
  | nil => intro _ a b ha; cases ha
  | cons x l ih =>
    intro hp a b ha hb
    obtain ⟨h1, h2⟩ := List.pairwise_cons.mp hp
    rcases List.mem_cons.mp ha with ea | ha
    · rcases List.mem_cons.mp hb with eb | hb
      · exact Or.inl (ea.trans eb.symm)
      · exact Or.inr (Or.inl (by rw [ea]; exact h1 b hb))
    · rcases List.mem_cons.mp hb with eb | hb
      · exact Or.inr (Or.inr (by rw [eb]; exact h1 a ha))
      · exact ih h2 ha hb
/-- a child more: it was complete, and stands behind the others -/
theorem cAd_par {k : Nat} {s : cm_S} {v c lo hi : Int} {ch : List tCh} {t : tT} (h : cPar k s v ch) (hr : cRep k s lo hi c t) (h11 : s.2 11 c = -1) (hv : v < lo ∨ hi ≤ v) (ho : ∀ q ∈ ch, q.2.2.2 ≤ lo) (hz : ∀ q ∈ ch, 0 ≤ q.2.2.1) : cPar k (cAd s v c) v (ch ++ [(c, t, lo, hi)]) := by
  have hinc := cPar_inc h
  obtain ⟨⟨c1, c2, c3, c4⟩, hp, hq⟩ := h
  have hci := cRep_in hr
  have hch : ∀ x ∈ ch.map (·.1), x ≠ v ∧ x < lo := by
    intro x hx
    obtain ⟨q, hqm, rfl⟩ := List.mem_map.mp hx
    have := cRep_in (hq q hqm).2
    have := (hq q hqm).1
    have := ho q hqm
    exact ⟨by omega, by omega⟩
  have hcv : c ≠ v := by omega
  have hlast : s.2 10 v = -1 ∧ ch = [] ∨ s.2 10 v ∈ ch.map (·.1) := by
    cases ch with
    | nil => exact Or.inl ⟨c2, rfl⟩
    | cons q r => exact Or.inr (by rw [c2]; exact getLastD_mem _ _ _)
  have hc11 : (cAd s v c).2 11 c = -1 := by
    rw [cAd_old (fun z => by omega) (fun _ => by decide) (fun hne z => ?_)]
    · exact h11
    · exfalso
      rcases hlast with ⟨z1, z2⟩ | z1
      · exact hne z1
      · have := hch _ z1
        omega
  have hlo : s.2 10 v ≠ -1 → s.2 10 v < lo := by
    intro hne
    rcases hlast with ⟨z1, z2⟩ | z1
    · exact absurd z1 hne
    · exact (hch _ z1).2
  have n10 : (cAd s v c).2 10 v = c := by
    unfold cAd
    rw [cm_q_ne (by decide), cm_q_at, if_pos rfl]
  have n12 : (cAd s v c).2 12 c = v := by
    unfold cAd
    rw [cm_q_at, if_pos rfl]
  refine ⟨⟨?_, ?_, ?_, ?_⟩, ?_, ?_⟩
  · cases ch with
    | nil =>
      have z1 : s.2 10 v = -1 := c2
      unfold cAd
      rw [if_pos z1, cm_q_ne (by decide), cm_q_ne (by decide), cm_q_at, if_pos rfl]
      rfl
    | cons q r =>
      have z1 : s.2 10 v ∈ (q :: r).map (·.1) := by rw [c2]; exact getLastD_mem _ _ _
      have hne : s.2 10 v ≠ -1 := by
        obtain ⟨q2, hq2, e2⟩ := List.mem_map.mp z1
        have := cRep_in (hq q2 hq2).2
        have := hz q2 hq2
        omega
      unfold cAd
      rw [if_neg hne, cm_q_ne (by decide), cm_q_ne (by decide), cm_q_ne (by decide)]
      exact c1
  · rw [n10]
    simp
  · cases ch with
    | nil => exact hc11
    | cons q r =>
      have z1 : s.2 10 v ∈ (q :: r).map (·.1) := by rw [c2]; exact getLastD_mem _ _ _
      have hne : s.2 10 v ≠ -1 := by
        obtain ⟨q2, hq2, e2⟩ := List.mem_map.mp z1
        have := cRep_in (hq q2 hq2).2
        have := hz q2 hq2
        omega
      have nl : (cAd s v c).2 11 (s.2 10 v) = c := by
        unfold cAd
        rw [if_neg hne, cm_q_ne (by decide), cm_q_ne (by decide), cm_q_at, if_pos rfl]
      have nl2 : (cAd s v c).2 11 ((q.1 :: r.map (fun q : tCh => q.1)).getLastD (-1)) = c := by
        have z := nl
        rw [c2] at z
        exact z
      have hinc2 : (q.1 :: r.map (fun q : tCh => q.1)).Pairwise (· < ·) := hinc
      rw [List.map_append]
      refine cLnk_snoc hc11 q.1 (r.map (fun q : tCh => q.1)) hinc2 c3 (fun x hx hxl => ?_) nl2
      have := hch x hx
      refine cAd_old (fun z => absurd z this.1) (fun z => by omega) (fun _ z => ?_)
      exfalso
      apply hxl
      rw [z, c2]
      rfl
  · intro x hx
    rw [List.map_append, List.mem_append] at hx
    rcases hx with hx | hx
    · have := hch x hx
      rw [cAd_old (fun z => absurd z this.1) (fun z => by omega) (fun _ _ => by decide)]
      exact c4 x hx
    · have : x = c := by simpa using hx
      rw [this]
      exact n12
  · rw [List.pairwise_append]
    refine ⟨hp, List.pairwise_singleton _ _, fun a ha b hb => ?_⟩
    have : b = (c, t, lo, hi) := by simpa using hb
    rw [this]
    exact ho a ha
  · intro q hqm
    rcases List.mem_append.mp hqm with hqm | hqm
    · refine ⟨(hq q hqm).1, cRep_fr k (fun a i g1 g2 g3 g4 g5 => ?_) (hq q hqm).2⟩
      have hvq := (hq q hqm).1
      have hoq := ho q hqm
      refine cAd_old (fun z => by omega) (fun z => by omega) (fun hne z => ?_)
      rcases hlast with ⟨z1, z2⟩ | z1
      · exact absurd z1 hne
      · obtain ⟨q2, hq2, e2⟩ := List.mem_map.mp z1
        have hi2 := cRep_in (hq q2 hq2).2
        rcases pw_or hp hqm hq2 with e | e | e
        · subst e
          exact (g5 (by omega)).1
        · omega
        · omega
    · have : q = (c, t, lo, hi) := by simpa using hqm
      rw [this]
      refine ⟨hv, cRep_fr k (fun a i g1 g2 g3 g4 g5 => ?_) hr⟩
      simp only at g3 g4 g5
      refine cAd_old (fun z => by omega) (fun z => (g5 z).2) (fun hne z => ?_)
      have := hlo hne
      omega
