/-! ===== empty, block, var, throw, return, break, continue ===== -/
section TX60
variable {tx : Int → Int} {n : Int}
theorem lxG_ft {e : Int} {t : tTk} (h : lxG tx n true e = some t) (h5 : t.1 ≠ 5) : lxG tx n false e = some t := by
  unfold lxG at h ⊢
  rw [if_neg (by simp)]
  split at h
  · split at h
    · cases h
    · cases h
      exact absurd rfl h5
  · exact h
/-- ; -/
theorem U_em (ht : tOk tx n) {s : cm_S} {e : Int} {t : tTk} {cn sc : Int} {W : List (Int × Int)} {d rn : Int} {lf : Bool} {V : List tT} {K : List rTs} {S : List rSg} (hs : cSt tx n s e true t cn sc W) (hc : t.2.1 = 59) (hd : 0 ≤ d ∧ d < 20) (hK : (K.length : Int) ≤ 20 * d + 20) (hcb : 0 ≤ cn ∧ cn ≤ t.2.2.1 + 1) (hrn : 0 ≤ rn ∧ rn + red K ≤ cn) (hD : Dm tx n K (V.length + 1) S) : OX tx n s cn (cm_bi (cm_sem 56 [.inr (.inl 14), .inl 4] s) fun z s1 => some (.inl (some (.inl z)), s1)) (t.2.2.2.1, d + 1, rn + 1, sc, lf, ((4, t.2.2.1, 0, 0, false), .leaf) :: V, (4, 0, 0, 0, 0) :: K, S) (fun r s' c' => ∃ v, r = some (.inl v) ∧ PoU tx n t.2.2.1 cn rn d V K S W v s' c') := by
  have e0 := hs.e0
  have num := lxG_r4 ht e0.1 e0.2 hs.lx
  have hr0 := red_0 K
  obtain ⟨a1, a2⟩ := (tok_s ht e0.1 e0.2 hs.lx (c := 59) (by decide) (by decide)).1 hc
  refine X_first ht hs hcb.1 (by omega) (Int.le_refl _) (fun hN' => dm_lv hD _ _ _ _ _ _ (by omega) (by omega) hN' rfl (by simp only [red_co]; simp; omega) (by simp only [List.length_cons]; omega)) fun t1 s1 hT1 k1 b1 n1' st1 => ?_
  have e01 := st1.e0
  have num1 := lxG_r4 ht e01.1 e01.2 st1.lx
  have dl1 := dl_01 t1
  have z0 : fSz (fo []) = 0 := rfl
  refine OX_reti ⟨cn, rfl, ?_⟩
  have := U_ns (tx := tx) (n := n) (s := s1) (e := t.2.2.2.1) (b := t.2.2.1) (cn := cn) (rn := rn) (d := d) (sc := sc) (k := 4) (p := t.2.2.1) (l := 0) (code := 0) (v := cn) (t := t1) (lf := lf) (V := V) (K := K) (S := S) (W := W) (L := []) (by rw [z0]; exact st1) (by rw [z0]; exact n1') (by unfold isS; omega) (by decide) (by omega) (by omega) (gG_mk (gT_no (by simp) (by show 0 ≤ t.2.2.1; omega) (by show t.2.2.1 ≤ n; omega) rfl) rfl (gW_no (show (4 : Int) ≠ 5 by decide)) fun x hx => by cases hx) (by
    show 1 + 0 ≤ _
    omega)
  rw [z0] at this
  exact this
/-- { .. } -/
theorem U_bl (ht : tOk tx n) {m : Nat} (hSt : S_st tx n m) {s : cm_S} {e : Int} {t : tTk} {cn sc : Int} {W : List (Int × Int)} {d rn : Int} {lf : Bool} {V : List tT} {K : List rTs} {S : List rSg} (hs : cSt tx n s e true t cn sc W) (hF : lxG tx n false e = some t) (hm : n - e ≤ m) (hd : 0 ≤ d ∧ d < 20) (hK : (K.length : Int) ≤ 20 * d + 20) (hS : (S.length : Int) = W.length ∧ (S.length : Int) ≤ 10 * d) (hcb : 0 ≤ cn ∧ cn ≤ t.2.2.1 + 1) (hrn : 0 ≤ rn ∧ rn + red K ≤ cn) (hD : Dm tx n K (V.length + 1) S) : OI tx n s cn (cm_sem 54 [.inr (.inl 14), .inl (d + 1)] s) (e, d + 1, rn, sc, lf, V, (38, 0, 0, 0, 0) :: (4, 0, 0, 0, 0) :: K, S) (PoU tx n t.2.2.1 cn rn d V K S W) := by
  have e0 := hs.e0
  have hr0 := red_0 K
  refine OX_im (S_bl_of ht hSt hs hF hm (d := d + 1) (rn := rn) (lf := lf) (V := V) (K := (4, 0, 0, 0, 0) :: K) (S := S) ⟨by omega, by omega, by simp only [List.length_cons]; omega, hS.1, by omega, hcb.1, hcb.2, hrn.1, by simp only [red_co]; simp; omega⟩ (dm_lv hD)) ?_
  rintro r s' c' ⟨v, rfl, e', t', sc', lf', T, st, rfl, tr, nx, sz, g, x1, x2⟩
  have e01 := st.e0
  have num1 := lxG_r4 ht e01.1 e01.2 st.lx
  have dl1 := dl_01 t'
  have tz := tSz_1 T
  refine ⟨v, rfl, Or.inl ⟨e', t', sc', lf', T, st, rfl, tr, nx, by omega, by omega, g, ⟨by unfold isS; omega, by unfold semi; omega⟩, by omega⟩⟩
/-- var .. -/
theorem U_va (ht : tOk tx n) {m : Nat} (hx : S_x tx n m) {s : cm_S} {e : Int} {t : tTk} {cn sc : Int} {W : List (Int × Int)} {d rn : Int} {lf : Bool} {V : List tT} {K : List rTs} {S : List rSg} (hs : cSt tx n s e true t cn sc W) (hm : n - e ≤ m) (hc : t.2.1 = 25) (hd : 0 ≤ d ∧ d < 20) (hK : (K.length : Int) ≤ 20 * d + 20) (hS : (S.length : Int) = W.length ∧ (S.length : Int) ≤ 10 * d) (hcb : 0 ≤ cn ∧ cn ≤ t.2.2.1 + 1) (hrn : 0 ≤ rn ∧ rn + red K ≤ cn) (hD : Dm tx n K (V.length + 1) S) : OI tx n s cn (cm_sem 61 [.inr (.inl 14), .inl (d + 1), .inl 0] s) (t.2.2.2.1, d + 1, rn, sc, lf, V, (29, 0, 0, 0, 0) :: (6, 0, 0, 0, 0) :: (3, 2, t.2.2.1, 0, V.length) :: (4, 0, 0, 0, 0) :: K, S) (PoU tx n t.2.2.1 cn rn d V K S W) := by
  have e0 := hs.e0
  have hr0 := red_0 K
  have num := lxG_r4 ht e0.1 e0.2 hs.lx
  obtain ⟨a1, a2⟩ := tok_l ht e0.1 e0.2 hs.lx (w := 25) (by decide) (by decide) hc
  have a3 : wl 25 = 3 := by decide
  refine OX_im (S_dc_of ht hx hs hm (by omega) (Or.inl rfl) (d := d + 1) (rn := rn) (lf := lf) (V := V) (K := (6, 0, 0, 0, 0) :: (3, 2, t.2.2.1, 0, V.length) :: (4, 0, 0, 0, 0) :: K) (S := S) hcb.1 ⟨by omega, by omega, by simp only [List.length_cons]; omega, hS.1, by omega, by omega, by omega, hrn.1, by simp only [red_co]; simp; omega⟩) ?_
  rintro r s' c' ⟨v, rfl, e', t', sc', lf', L, st, rfl, no, sz, l1, g, w⟩
  have e01 := st.e0
  have f0 := fSz_0 (fo L)
  refine ⟨v, rfl, ?_⟩
  refine U_se (k := 2) (p := t.2.2.1) (l := 0) (code := 0) (by rw [show cn + (1 + fSz (fo L)) = cn + 1 + fSz (fo L) by omega]; exact st) (by rw [show cn + (1 + fSz (fo L)) = cn + 1 + fSz (fo L) by omega]; exact no) (by unfold isS; omega) (by unfold semi; omega) (by omega) (by omega) (gG_mk (gT_no (by simp) (by show 0 ≤ t.2.2.1; omega) (by show t.2.2.1 ≤ n; omega) rfl) ⟨fun h => by rw [List.map_eq_nil_iff] at h; subst h; simp at l1, fun x hx => by
    obtain ⟨y, hy, rfl⟩ := List.mem_map.mp hx
    exact (g y hy).2⟩ (gW_no (show (2 : Int) ≠ 5 by decide)) fun x hx => (g x hx).1) (by
    show 2 * (L.length : Int) + 5 + fWt 2 0 0 (fo L) ≤ _
    omega) hd hK (by omega) hD
end TX60
