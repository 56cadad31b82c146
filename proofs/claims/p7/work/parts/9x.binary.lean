/-! ===== BINARY ===== -/
section TX53
variable {tx : Int → Int} {n : Int}
abbrev pdW2 (p : tPd) : Int × Int := (p.1, stC (pdC p))
/-- the nodes that wait, from cn up to hi -/
def cPd (s : cm_S) (cn : Int) : Int → List tPd → Prop
  | hi, [] => hi = cn
  | hi, p :: P => p.1 + 1 = hi ∧ ∃ lb, cNo s hi p.1 (46, p.2.2.1, p.2.2.2.1, p.2.2.2.2.1) lb [pdL p] ∧ cPd s cn lb P
def pdTop (P : List tPd) (st : Int) : Prop := match P with
  | [] => True
  | q :: _ => stC (pdC q) < st
def pdOk (tx : Int → Int) (n : Int) : List tPd → Prop
  | [] => True
  | p :: P => (P.length : Int) + 1 ≤ stC (pdC p) ∧ stR p.2.1 = stC (pdC p) ∧ gT tx n (46, p.2.2.1, p.2.2.2.1, p.2.2.2.2.1, false) ∧ gG tx n (pdL p) ∧ isE (pdL p).1.1 ∧ pdTop P (stC (pdC p)) ∧ pdOk tx n P
def pdSz : List tPd → Int
  | [] => 0
  | p :: P => 1 + tSz (pdL p) + pdSz P
def pdWt : List tPd → Int
  | [] => 0
  | p :: P => tWb (2 + stC (pdC p)) (pdL p) + 2 * p.2.2.2.1 + pdWt P
theorem cPd_ge {s : cm_S} {cn : Int} : ∀ (P : List tPd) (hi : Int), cPd s cn hi P → cn ≤ hi
  | [], hi, h => by have : hi = cn := h; omega
  | p :: P, hi, ⟨h1, lb, h2, h3⟩ => by
    have := cPd_ge P lb h3
    have := cNo_in h2
    omega
theorem cPd_fr {s s' : cm_S} {cn m : Int} : ∀ (P : List tPd) (hi : Int), cPd s cn hi P → cKp s s' m → hi ≤ m → cPd s' cn hi P
  | [], hi, h, _, _ => h
  | p :: P, hi, ⟨h1, lb, h2, h3⟩, hk, hm => by
    have := cNo_in h2
    exact ⟨h1, lb, cNo_fr h2 hk hm, cPd_fr P lb h3 hk (by omega)⟩
theorem pdSz_0 : ∀ P : List tPd, (P.length : Int) ≤ pdSz P
  | [] => Int.le_refl _
  | p :: P => by
    have := pdSz_0 P
    have := tSz_1 (pdL p)
    unfold pdSz
    rw [List.length_cons]
    omega
theorem tSz_J (p : tPd) (r : tT) : tSz (pdJ p r) = 1 + tSz (pdL p) + tSz r := by
  show 1 + fSz (fo ([pdL p] ++ [r])) = _
  rw [fSz_fo, fSz_1]
  omega
theorem pdClo_sz (st : Int) : ∀ (P : List tPd) (r : tT), tSz (pdClo st r P).1 + pdSz (pdClo st r P).2 = tSz r + pdSz P
  | [], r => rfl
  | p :: P, r => by
    unfold pdClo
    split
    · rfl
    · rw [pdClo_sz st P (pdJ p r), tSz_J]
      show _ = _ + (1 + tSz (pdL p) + pdSz P)
      omega
theorem pdClo_ok (st : Int) : ∀ (P : List tPd) (r : tT), pdOk tx n P → gG tx n r → isE r.1.1 → pdOk tx n (pdClo st r P).2 ∧ pdTop (pdClo st r P).2 st ∧ gG tx n (pdClo st r P).1 ∧ isE (pdClo st r P).1.1.1 ∧ ((pdClo st r P).2.length ≠ P.length → (pdClo st r P).1.1.1 = 46)
  | [], r, h, hg, hE => ⟨trivial, trivial, hg, hE, fun z => absurd rfl z⟩
  | p :: P, r, h, hg, hE => by
    obtain ⟨h1, h2, h3, h4, h5, h6, h7⟩ := id h
    unfold pdClo
    split
    · next hs => exact ⟨h, hs, hg, hE, fun z => absurd rfl z⟩
    · have hJ : gG tx n (pdJ p r) := gG_mk (L := [pdL p, r]) h3 ⟨(pdL p).1.1, r.1.1, rfl, h5, hE⟩ (gW_no (show (46 : Int) ≠ 5 by decide)) fun x hx => by
        have : x = pdL p ∨ x = r := by simpa using hx
        rcases this with z | z
        · rw [z]; exact h4
        · rw [z]; exact hg
      have hJE : isE (pdJ p r).1.1 := by show isE 46; unfold isE; decide
      obtain ⟨a1, a2, a3, a4, a5⟩ := pdClo_ok st P (pdJ p r) h7 hJ hJE
      refine ⟨a1, a2, a3, a4, fun _ => ?_⟩
      by_cases hl : (pdClo st (pdJ p r) P).2.length = P.length
      · exact pdClo_eq st P (pdJ p r) hl
      · exact a5 hl
where
  pdClo_eq (st : Int) : ∀ (P : List tPd) (r : tT), (pdClo st r P).2.length = P.length → (pdClo st r P).1.1.1 = r.1.1
  | [], r, _ => rfl
  | p :: P, r, h => by
    unfold pdClo at h ⊢
    split at h
    · next hs => rw [if_pos hs]
    · have := pdClo_le st P (pdJ p r)
      rw [List.length_cons] at h
      omega
theorem pdClo_all : ∀ (P : List tPd) (r : tT), pdOk tx n P → (pdClo 0 r P).2 = []
  | [], r, _ => rfl
  | p :: P, r, h => by
    obtain ⟨h1, h2, h3, h4, h5, h6, h7⟩ := h
    unfold pdClo
    rw [if_neg (by omega)]
    exact pdClo_all P (pdJ p r) h7
theorem tWb_mono {a b : Int} (h : a ≤ b) (t : tT) : tWb a t ≤ tWb b t := by
  unfold tWb
  split <;> split <;> omega
theorem pdClo_w (st mu : Int) (hmu : mu ≤ 2 + st ∨ st = 0 ∧ mu ≤ 3) : ∀ (P : List tPd) (r : tT) (la w : Int), pdOk tx n P → tWb la r ≤ w → pdTop P (la - 2) → mu ≤ la → tWb mu (pdClo st r P).1 + pdWt (pdClo st r P).2 ≤ w + pdWt P
  | [], r, la, w, h, hw, _, hm => by
    have := tWb_mono hm r
    show tWb mu r + 0 ≤ w + 0
    omega
  | p :: P, r, la, w, h, hw, ht, hm => by
    obtain ⟨h1, h2, h3, h4, h5, h6, h7⟩ := h
    have htp : stC (pdC p) < la - 2 := ht
    unfold pdClo
    split
    · have := tWb_mono hm r
      show tWb mu r + pdWt (p :: P) ≤ w + pdWt (p :: P)
      omega
    · next hs =>
      have e1 : tWb (2 + stC (pdC p)) (pdJ p r) ≤ 2 * p.2.2.2.1 + tWb (2 + stC (pdC p)) (pdL p) + w := by
        have hB : tB (pdJ p r).1 = 2 + stC (pdC p) := rfl
        unfold tWb
        rw [hB, if_neg (by omega)]
        have a1 : fWt 46 (pdC p) 0 (fo ([] ++ [pdL p])) ≤ 0 + tWb (2 + stC (pdC p)) (pdL p) := fWt_ch (w := 2 + stC (pdC p)) (a := []) rfl (Int.le_refl _) (fun z => absurd z (by decide))
        have a2 : fWt 46 (pdC p) 0 (fo ([pdL p] ++ [r])) ≤ fWt 46 (pdC p) 0 (fo [pdL p]) + w := fWt_ch (w := 3 + stC (pdC p)) (a := [pdL p]) rfl (by have := tWb_mono (show 3 + stC (pdC p) ≤ la by omega) r; omega) (fun z => absurd z (by decide))
        have a3 : fWt 46 (pdC p) 0 (fo ([] ++ [pdL p])) = fWt 46 (pdC p) 0 (fo [pdL p]) := rfl
        have a4 : tWt (pdJ p r) = 2 * p.2.2.2.1 + fWt 46 (pdC p) 0 (fo ([pdL p] ++ [r])) := rfl
        unfold tWb at a1
        omega
      have := pdClo_w st mu hmu P (pdJ p r) (2 + stC (pdC p)) _ h7 e1 (by
        cases P with
        | nil => trivial
        | cons q P =>
          have : stC (pdC q) < stC (pdC p) := h6
          show stC (pdC q) < 2 + stC (pdC p) - 2
          omega) (by omega)
      show _ ≤ w + (tWb (2 + stC (pdC p)) (pdL p) + 2 * p.2.2.2.1 + pdWt P)
      omega
theorem pdOk_st : ∀ (P : List tPd), pdOk tx n P → ∀ p ∈ P, stR p.2.1 = stC (pdC p)
  | [], _, p, hp => by cases hp
  | q :: P, h, p, hp => by
    rcases List.mem_cons.mp hp with rfl | hp
    · exact h.2.1
    · exact pdOk_st P h.2.2.2.2.2.2 p hp
theorem pdOk_len : ∀ (P : List tPd), pdOk tx n P → (P.length : Int) ≤ 10
  | [], _ => by decide
  | q :: P, h => by
    have := h.1
    have := stC_b (pdC q)
    rw [List.length_cons]
    omega
/-! the class: closeWaiting, hold -/
theorem cw_lp {cn e c sc st : Int} {g : Bool} {t : tTk} {W : List (Int × Int)} (h9 : c ≤ 512) (o1 : Option cm_V) : ∀ (P : List tPd) (r : tT) (v hi : Int) (s : cm_S), cSt tx n s e g t c sc (P.map pdW2 ++ W) → cPd s cn hi P → cTr s hi c v r → s.2 11 v = -1 → (P.length : Int) + W.length ≤ 250 → 0 ≤ cn → ∃ v' s' hi', cm_lp cm_sem cm_k88 8 [some (.inr (.inl 14)), o1, some (.inl st), some (.inl (W.length : Int)), some (.inl v), some (.inl ((P.length : Int) + W.length - 1))] [] s = some (.inl (some (.inl v')), s') ∧ cFm s s' ∧ cKp s s' cn ∧ s'.1 1406 = s.1 1406 ∧ cSt tx n s' e g t c sc ((pdClo st r P).2.map pdW2 ++ W) ∧ cPd s' cn hi' (pdClo st r P).2 ∧ cTr s' hi' c v' (pdClo st r P).1 ∧ s'.2 11 v' = -1 := by
  intro P
  induction P with
  | nil =>
    intro r v hi s hs hp htr hnx hl h0
    have e0 : ((([] : List tPd).length : Nat) : Int) = 0 := rfl
    rw [cE_88_8, cF_88_8, e0, if_pos (by omega)]
    exact ⟨v, s, hi, rfl, cFm_rf s, cKp_rf s cn, rfl, hs, hp, htr, hnx⟩
  | cons p P ih =>
    intro r v hi s hs hp htr hnx hl h0
    obtain ⟨hp1, lb, hp2, hp3⟩ := id hp
    rw [List.length_cons] at hl ⊢
    have ex : ((P.length + 1 : Nat) : Int) + W.length - 1 = P.length + W.length := by omega
    have hwa := hs.2.2.2.2
    obtain ⟨w1, w2, w3⟩ : s.2 16 (P.length + W.length) = p.1 ∧ s.2 17 (P.length + W.length) = stC (pdC p) ∧ cWaA s (P.map pdW2 ++ W) := by
      have hwa' : cWaA s (pdW2 p :: (P.map pdW2 ++ W)) := hwa
      unfold cWaA at hwa'
      rw [show (((P.map pdW2 ++ W).length : Nat) : Int) = P.length + W.length by rw [List.length_append, List.length_map]; omega] at hwa'
      exact hwa'
    rw [cE_88_8, cF_88_8, ex, if_neg (by omega), if_neg (by omega), if_pos (by omega), if_pos (by omega), w2]
    by_cases hst : stC (pdC p) < st
    · rw [if_pos hst]
      have ec : pdClo st r (p :: P) = (r, p :: P) := by unfold pdClo; rw [if_pos hst]
      rw [ec]
      exact ⟨v, s, hi, rfl, cFm_rf s, cKp_rf s cn, rfl, hs, hp, htr, hnx⟩
    · have hin := cNo_in hp2
      have hin2 := cTr_in htr
      have hla := cNo_last hp2
      have hge := cPd_ge P lb hp3
      have hcn := hs.2.1
      obtain ⟨k1, k2⟩ := cNo_add hp2 htr hnx
      have r16 : (cAd s p.1 v).2 16 = s.2 16 := by
        unfold cAd
        rw [cm_q_ne (by decide), cm_q_ne (by decide)]
        split <;> rw [cm_q_ne (by decide)]
      have r17 : (cAd s p.1 v).2 17 = s.2 17 := by
        unfold cAd
        rw [cm_q_ne (by decide), cm_q_ne (by decide)]
        split <;> rw [cm_q_ne (by decide)]
      rw [if_neg hst, if_pos (by omega), w1, cs_58 (by omega) (by omega) (by omega) (by omega), cm_bv_o, if_pos (by omega), r16, w1, show (P.length : Int) + W.length + -1 = P.length + W.length - 1 by omega, cm_w_id (by omega) (by omega)]
      have hs2 : cSt tx n (cm_p (cAd s p.1 v) 1405 (P.length + W.length)) e g t c sc (P.map pdW2 ++ W) := by
        have a := cSt_ad hs p.1 v
        refine ⟨cAt_fr a.1 rfl (cm_p_ne (by decide)) fun j j1 j2 => cm_p_ne (by omega), (cm_p_ne (by decide)).trans a.2.1, (cm_p_ne (by decide)).trans a.2.2.1, ?_, cWaA_fr (s := s) _ (fun a i a1 a2 _ => ?_) w3⟩
        · rw [cm_p_at, List.length_append, List.length_map]; omega
        · rw [cm_p_row]
          rcases (show a = 16 ∨ a = 17 by omega) with z | z
          · rw [z, r16]
          · rw [z, r17]
      obtain ⟨tr2, nx2⟩ := cNo_tr k1 false
      obtain ⟨v', s', hi', q1, q2, q3, q4, q5, q6, q7, q8⟩ := ih (pdJ p r) p.1 lb (cm_p (cAd s p.1 v) 1405 (P.length + W.length)) hs2 (cPd_fr P lb hp3 (k2.tr (cKp_row (s := cAd s p.1 v) rfl lb) (Int.le_refl _) (Int.le_refl _)) (Int.le_refl _)) (cTr_row tr2 rfl) nx2 (by omega) h0
      have ec : pdClo st r (p :: P) = pdClo st (pdJ p r) P := by
        show (if stC (pdC p) < st then (r, p :: P) else pdClo st (pdJ p r) P) = _
        rw [if_neg hst]
      rw [ec]
      refine ⟨v', s', hi', q1, cAd_fm.tr ((cFm_p (cFm_rf _) (by omega)).tr q2), ?_, ?_, q5, q6, q7, q8⟩
      · exact (k2.tr (cKp_row (s := cAd s p.1 v) rfl lb) (Int.le_refl _) (Int.le_refl _)).tr q3 hge (Int.le_refl _)
      · rw [q4, cm_p_ne (by decide), cAd_fld]
theorem X_close {cn e c sc st : Int} {g : Bool} {t : tTk} {W : List (Int × Int)} {P : List tPd} {r : tT} {v hi : Int} {s : cm_S} (hs : cSt tx n s e g t c sc (P.map pdW2 ++ W)) (hp : cPd s cn hi P) (htr : cTr s hi c v r) (hnx : s.2 11 v = -1) (h9 : c ≤ 512) (hl : (P.length : Int) + W.length ≤ 250) (h0 : 0 ≤ cn) {f : Int → cm_S → Option cm_R} {cc : rC} {Q : Option cm_V → cm_S → rC → Prop} (h2 : ∀ v' s' hi', cKp s s' cn → s'.1 1406 = s.1 1406 → cSt tx n s' e g t c sc ((pdClo st r P).2.map pdW2 ++ W) → cPd s' cn hi' (pdClo st r P).2 → cTr s' hi' c v' (pdClo st r P).1 → s'.2 11 v' = -1 → OX tx n s' cn (f v' s') cc Q) : OX tx n s cn (cm_bi (cm_sem 88 [.inr (.inl 14), .inl v, .inl st, .inl (W.length : Int)] s) f) cc Q := by
  obtain ⟨v', s', hi', q1, q2, q3, q4, q5, q6, q7, q8⟩ := cw_lp (st := st) h9 (some (.inl v)) P r v hi s hs hp htr hnx hl h0
  have hw := hs.2.2.2.1
  have : cm_sem 88 [.inr (.inl 14), .inl v, .inl st, .inl (W.length : Int)] s = some (.inl (some (.inl v')), s') := by
    rw [cS_88, cF_88_0, hw, List.length_append, List.length_map, show (((P.length + W.length : Nat) : Int) - 1) = (P.length : Int) + W.length - 1 by omega, cm_w_id (by omega) (by omega)]
    exact q1
  rw [this, cm_bi_i]
  exact OX_from q2 q3 (h2 v' s' hi' q3 q4 q5 q6 q7 q8)
theorem X_hold {e c sc st id lo : Int} {g : Bool} {t : tTk} {W : List (Int × Int)} {s : cm_S} (hs : cSt tx n s e g t c sc W) (hl : (W.length : Int) ≤ 250) {f : cm_S → Option cm_R} {cc : rC} {Q : Option cm_V → cm_S → rC → Prop} (h2 : ∀ s', (∀ a : Nat, 5 ≤ a → a ≤ 12 → s'.2 a = s.2 a) → s'.1 1406 = s.1 1406 → cSt tx n s' e g t c sc ((id, st) :: W) → OX tx n s' lo (f s') cc Q) : OX tx n s lo (cm_bv (cm_sem 89 [.inr (.inl 14), .inl id, .inl st] s) f) cc Q := by
  have hw := hs.2.2.2.1
  have e1 : cm_sem 89 [.inr (.inl 14), .inl id, .inl st] s = some (.inl none, cm_p (cm_q (cm_q s 16 W.length id) 17 W.length st) 1405 ((W.length : Int) + 1)) := by
    rw [cS_89, cF_89_0, hw, if_neg (by omega), if_pos (by omega), if_pos (by omega), if_pos (by omega), cm_w_id (by omega) (by omega)]
  rw [e1, cm_bv_o]
  have hr : ∀ a : Nat, 5 ≤ a → a ≤ 12 → (cm_p (cm_q (cm_q s 16 W.length id) 17 W.length st) 1405 ((W.length : Int) + 1)).2 a = s.2 a := fun a a1 a2 => by rw [cm_p_row, cm_q_ne (by omega), cm_q_ne (by omega)]
  refine OX_from (cFm_p (cFm_q (cFm_q (cFm_rf s) (by omega)) (by omega)) (by omega)) (fun a i a1 a2 _ => by rw [hr a a1 a2]) (h2 _ hr (by rw [cm_p_ne (by decide)]; rfl) ⟨cAt_fr hs.1 ?_ (by rw [cm_p_ne (by decide)]; rfl) fun j j1 j2 => by rw [cm_p_ne (by omega)]; rfl, by rw [cm_p_ne (by decide)]; exact hs.2.1, by rw [cm_p_ne (by decide)]; exact hs.2.2.1, ?_, ?_, ?_, cWaA_fr (s := s) _ (fun a i a1 a2 hi => ?_) hs.2.2.2.2⟩)
  · rw [cm_p_row, cm_q_ne (by decide), cm_q_ne (by decide)]
  · rw [cm_p_at, List.length_cons]; omega
  · rw [cm_p_row, cm_q_ne (by decide), cm_q_at, if_pos rfl]
  · rw [cm_p_row, cm_q_at, if_pos rfl]
  · rw [cm_p_row, cm_q_old (by omega), cm_q_old (by omega)]
end TX53
