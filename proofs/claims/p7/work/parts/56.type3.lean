/-! ===== type: the reference's side ===== -/
theorem am_kl9 : am_kl 9 173 = some 255 := by decide +kernel
theorem am_xk {y fuel d K pc c nL k : Nat} {ini : Bool} {lv : am_L} {st : List Value} {h : List va_E} {res : Option am_R} (hF : am_co y = c ∧ am_mL y = nL ∧ am_in y = ini) {v : Int64} (hp : am_pk y pc = some (.ldc2_w k)) (hk : am_kl c k = some v) (hn : am_go y fuel d K (pc + 3) lv (.long v :: st) h res) : am_go y fuel d (K + 1) pc lv st h res := by
  refine am_x1 hF hp ?_ hn
  show (am_kl c k).bind _ = _
  rw [hk]
  rfl
abbrev am_lvM (i c : Int32) (x : Nat) (w : Int64) (n : Int32) : am_L := [(4, .int i), (5, .int c), (0, .ref x), (1, .long w), (3, .int n)]
def am_mty (c : Int32) : Bool := am_bl c || (!decide (c < 32) && decide (c ≤ 126))
theorem am_mty_eq (c : Int32) : am_mty c = am_ty c := by
  unfold am_mty am_ty am_bl
  by_cases h1 : c = 9
  · subst h1; decide
  · by_cases h2 : c = 10
    · subst h2; decide
    · by_cases h3 : c = 13
      · subst h3; decide
      · by_cases h4 : c = 32
        · subst h4; decide
        · rw [decide_eq_false h1, decide_eq_false h2, decide_eq_false h3, decide_eq_false h4]
          simp
section AM21
variable {d x : Nat} {h : List va_E} {w : Int64} {n : Int32}

/-- one turn: a character that may be typed -/
theorem am_mt_1 {j K : Nat} {c5 : Int32} {o : am_O} {h2 : List va_E} {nc ns : Nat} (hj : j < 8) (hty : am_ty (am_cb w (am_lc (j + 1))) = true) (hn : am_go 172 3000 (d + 1) K 35 (am_lvM (am_lc j) (am_cb w (am_lc (j + 1))) x w n) [] h (some (o, h2, nc, ns))) : am_go 172 3000 (d + 1) (K + 22) 35 (am_lvM (am_lc (j + 1)) c5 x w n) [] h (some (o, h2, nc, ns)) := by
  have e := am_lc_dec j hj
  have ecb := am_cb_mb w hj
  rw [← am_mty_eq, ← ecb] at hty
  rw [← ecb, ← e] at hn
  by_cases b1 : am_bl (am_mb w (am_lc (j + 1))) = true
  · refine am_go_le (K := K + 16) (by omega) ?_
    refine am_x1 am_FMTyp am_qMTyp_35 rfl ?_
    refine am_xz am_qMTyp_37 (b := false) (t := 84) (am_lc_lt j (by omega)) (by decide) ?_
    refine am_x1 am_FMTyp am_qMTyp_40 rfl ?_
    refine am_x1 am_FMTyp am_qMTyp_41 rfl ?_
    refine am_x1 am_FMTyp am_qMTyp_43 rfl ?_
    refine am_x1 am_FMTyp am_qMTyp_45 rfl ?_
    refine am_x1 am_FMTyp am_qMTyp_46 rfl ?_
    refine am_xk am_FMTyp am_qMTyp_47 am_kl9 ?_
    refine am_x1 am_FMTyp am_qMTyp_50 rfl ?_
    refine am_x1 am_FMTyp am_qMTyp_51 rfl ?_
    refine am_x1 am_FMTyp am_qMTyp_52 rfl ?_
    refine am_x1 am_FMTyp am_qMTyp_54 rfl ?_
    refine am_xc am_qMTyp_56 (w := ([.int (am_mb w (am_lc (j + 1)))], [])) rfl rfl am_rMBl (Nat.le_refl _) ?_
    refine am_xz am_qMTyp_59 (b := true) (t := 78) (by rw [b1]; exact am_zb_ne) (by decide) ?_
    refine am_x1 am_FMTyp am_qMTyp_78 rfl ?_
    refine am_xj am_qMTyp_81 (t := 35) (by decide) ?_
    exact hn
  · rw [Bool.not_eq_true] at b1
    unfold am_mty at hty
    rw [b1, Bool.false_or, Bool.and_eq_true, Bool.not_eq_true', decide_eq_false_iff_not, decide_eq_true_eq] at hty
    obtain ⟨b2, b3⟩ := hty
    refine am_go_le (K := K + 22) (by omega) ?_
    refine am_x1 am_FMTyp am_qMTyp_35 rfl ?_
    refine am_xz am_qMTyp_37 (b := false) (t := 84) (am_lc_lt j (by omega)) (by decide) ?_
    refine am_x1 am_FMTyp am_qMTyp_40 rfl ?_
    refine am_x1 am_FMTyp am_qMTyp_41 rfl ?_
    refine am_x1 am_FMTyp am_qMTyp_43 rfl ?_
    refine am_x1 am_FMTyp am_qMTyp_45 rfl ?_
    refine am_x1 am_FMTyp am_qMTyp_46 rfl ?_
    refine am_xk am_FMTyp am_qMTyp_47 am_kl9 ?_
    refine am_x1 am_FMTyp am_qMTyp_50 rfl ?_
    refine am_x1 am_FMTyp am_qMTyp_51 rfl ?_
    refine am_x1 am_FMTyp am_qMTyp_52 rfl ?_
    refine am_x1 am_FMTyp am_qMTyp_54 rfl ?_
    refine am_xc am_qMTyp_56 (w := ([.int (am_mb w (am_lc (j + 1)))], [])) rfl rfl am_rMBl (Nat.le_refl _) ?_
    refine am_xz am_qMTyp_59 (b := false) (t := 78) (by rw [b1]; exact am_zb_ne) (by decide) ?_
    refine am_x1 am_FMTyp am_qMTyp_62 rfl ?_
    refine am_x1 am_FMTyp am_qMTyp_64 rfl ?_
    refine am_xi am_qMTyp_66 (b := false) (t := 76) (am_b am_b32 (decide_eq_false b2)) (by decide) ?_
    refine am_x1 am_FMTyp am_qMTyp_69 rfl ?_
    refine am_x1 am_FMTyp am_qMTyp_71 rfl ?_
    refine am_xi am_qMTyp_73 (b := true) (t := 78) (am_b am_b126 (decide_eq_true b3)) (by decide) ?_
    refine am_x1 am_FMTyp am_qMTyp_78 rfl ?_
    refine am_xj am_qMTyp_81 (t := 35) (by decide) ?_
    exact hn
theorem am_mt_0 {j K : Nat} {c5 : Int32} (hj : j < 8) (hty : am_ty (am_cb w (am_lc (j + 1))) = false) : am_go 172 3000 (d + 1) (K + 22) 35 (am_lvM (am_lc (j + 1)) c5 x w n) [] h (some (.inl (some (.int 0)), h, 0, 0)) := by
  have ecb := am_cb_mb w hj
  rw [← am_mty_eq, ← ecb] at hty
  unfold am_mty at hty
  rw [Bool.or_eq_false_iff] at hty
  obtain ⟨b1, b4⟩ := hty
  by_cases b2 : am_mb w (am_lc (j + 1)) < 32
  · refine am_go_le (K := K + 22) (by omega) ?_
    refine am_x1 am_FMTyp am_qMTyp_35 rfl ?_
    refine am_xz am_qMTyp_37 (b := false) (t := 84) (am_lc_lt j (by omega)) (by decide) ?_
    refine am_x1 am_FMTyp am_qMTyp_40 rfl ?_
    refine am_x1 am_FMTyp am_qMTyp_41 rfl ?_
    refine am_x1 am_FMTyp am_qMTyp_43 rfl ?_
    refine am_x1 am_FMTyp am_qMTyp_45 rfl ?_
    refine am_x1 am_FMTyp am_qMTyp_46 rfl ?_
    refine am_xk am_FMTyp am_qMTyp_47 am_kl9 ?_
    refine am_x1 am_FMTyp am_qMTyp_50 rfl ?_
    refine am_x1 am_FMTyp am_qMTyp_51 rfl ?_
    refine am_x1 am_FMTyp am_qMTyp_52 rfl ?_
    refine am_x1 am_FMTyp am_qMTyp_54 rfl ?_
    refine am_xc am_qMTyp_56 (w := ([.int (am_mb w (am_lc (j + 1)))], [])) rfl rfl am_rMBl (Nat.le_refl _) ?_
    refine am_xz am_qMTyp_59 (b := false) (t := 78) (by rw [b1]; exact am_zb_ne) (by decide) ?_
    refine am_x1 am_FMTyp am_qMTyp_62 rfl ?_
    refine am_x1 am_FMTyp am_qMTyp_64 rfl ?_
    refine am_xi am_qMTyp_66 (b := true) (t := 76) (am_b am_b32 (decide_eq_true b2)) (by decide) ?_
    refine am_x1 am_FMTyp am_qMTyp_76 rfl ?_
    exact am_xr am_qMTyp_77 (by decide)
  · rw [decide_eq_false b2, Bool.not_false, Bool.true_and, decide_eq_false_iff_not] at b4
    have b3 := b4
    refine am_go_le (K := K + 22) (by omega) ?_
    refine am_x1 am_FMTyp am_qMTyp_35 rfl ?_
    refine am_xz am_qMTyp_37 (b := false) (t := 84) (am_lc_lt j (by omega)) (by decide) ?_
    refine am_x1 am_FMTyp am_qMTyp_40 rfl ?_
    refine am_x1 am_FMTyp am_qMTyp_41 rfl ?_
    refine am_x1 am_FMTyp am_qMTyp_43 rfl ?_
    refine am_x1 am_FMTyp am_qMTyp_45 rfl ?_
    refine am_x1 am_FMTyp am_qMTyp_46 rfl ?_
    refine am_xk am_FMTyp am_qMTyp_47 am_kl9 ?_
    refine am_x1 am_FMTyp am_qMTyp_50 rfl ?_
    refine am_x1 am_FMTyp am_qMTyp_51 rfl ?_
    refine am_x1 am_FMTyp am_qMTyp_52 rfl ?_
    refine am_x1 am_FMTyp am_qMTyp_54 rfl ?_
    refine am_xc am_qMTyp_56 (w := ([.int (am_mb w (am_lc (j + 1)))], [])) rfl rfl am_rMBl (Nat.le_refl _) ?_
    refine am_xz am_qMTyp_59 (b := false) (t := 78) (by rw [b1]; exact am_zb_ne) (by decide) ?_
    refine am_x1 am_FMTyp am_qMTyp_62 rfl ?_
    refine am_x1 am_FMTyp am_qMTyp_64 rfl ?_
    refine am_xi am_qMTyp_66 (b := false) (t := 76) (am_b am_b32 (decide_eq_false b2)) (by decide) ?_
    refine am_x1 am_FMTyp am_qMTyp_69 rfl ?_
    refine am_x1 am_FMTyp am_qMTyp_71 rfl ?_
    refine am_xi am_qMTyp_73 (b := false) (t := 78) (am_b am_b126 (decide_eq_false b3)) (by decide) ?_
    refine am_x1 am_FMTyp am_qMTyp_76 rfl ?_
    exact am_xr am_qMTyp_77 (by decide)

/-- one turn, the first: a character that may be typed -/
theorem am_mf_1 {j K : Nat} {o : am_O} {h2 : List va_E} {nc ns : Nat} (hj : j < 8) (hty : am_ty (am_cb w (am_lc (j + 1))) = true) (hn : am_go 172 3000 (d + 1) K 35 (am_lvM (am_lc j) (am_cb w (am_lc (j + 1))) x w n) [] h (some (o, h2, nc, ns))) : am_go 172 3000 (d + 1) (K + 22) 35 (am_lvT (am_lc (j + 1)) x w n) [] h (some (o, h2, nc, ns)) := by
  have e := am_lc_dec j hj
  have ecb := am_cb_mb w hj
  rw [← am_mty_eq, ← ecb] at hty
  rw [← ecb, ← e] at hn
  by_cases b1 : am_bl (am_mb w (am_lc (j + 1))) = true
  · refine am_go_le (K := K + 16) (by omega) ?_
    refine am_x1 am_FMTyp am_qMTyp_35 rfl ?_
    refine am_xz am_qMTyp_37 (b := false) (t := 84) (am_lc_lt j (by omega)) (by decide) ?_
    refine am_x1 am_FMTyp am_qMTyp_40 rfl ?_
    refine am_x1 am_FMTyp am_qMTyp_41 rfl ?_
    refine am_x1 am_FMTyp am_qMTyp_43 rfl ?_
    refine am_x1 am_FMTyp am_qMTyp_45 rfl ?_
    refine am_x1 am_FMTyp am_qMTyp_46 rfl ?_
    refine am_xk am_FMTyp am_qMTyp_47 am_kl9 ?_
    refine am_x1 am_FMTyp am_qMTyp_50 rfl ?_
    refine am_x1 am_FMTyp am_qMTyp_51 rfl ?_
    refine am_x1 am_FMTyp am_qMTyp_52 rfl ?_
    refine am_x1 am_FMTyp am_qMTyp_54 rfl ?_
    refine am_xc am_qMTyp_56 (w := ([.int (am_mb w (am_lc (j + 1)))], [])) rfl rfl am_rMBl (Nat.le_refl _) ?_
    refine am_xz am_qMTyp_59 (b := true) (t := 78) (by rw [b1]; exact am_zb_ne) (by decide) ?_
    refine am_x1 am_FMTyp am_qMTyp_78 rfl ?_
    refine am_xj am_qMTyp_81 (t := 35) (by decide) ?_
    exact hn
  · rw [Bool.not_eq_true] at b1
    unfold am_mty at hty
    rw [b1, Bool.false_or, Bool.and_eq_true, Bool.not_eq_true', decide_eq_false_iff_not, decide_eq_true_eq] at hty
    obtain ⟨b2, b3⟩ := hty
    refine am_go_le (K := K + 22) (by omega) ?_
    refine am_x1 am_FMTyp am_qMTyp_35 rfl ?_
    refine am_xz am_qMTyp_37 (b := false) (t := 84) (am_lc_lt j (by omega)) (by decide) ?_
    refine am_x1 am_FMTyp am_qMTyp_40 rfl ?_
    refine am_x1 am_FMTyp am_qMTyp_41 rfl ?_
    refine am_x1 am_FMTyp am_qMTyp_43 rfl ?_
    refine am_x1 am_FMTyp am_qMTyp_45 rfl ?_
    refine am_x1 am_FMTyp am_qMTyp_46 rfl ?_
    refine am_xk am_FMTyp am_qMTyp_47 am_kl9 ?_
    refine am_x1 am_FMTyp am_qMTyp_50 rfl ?_
    refine am_x1 am_FMTyp am_qMTyp_51 rfl ?_
    refine am_x1 am_FMTyp am_qMTyp_52 rfl ?_
    refine am_x1 am_FMTyp am_qMTyp_54 rfl ?_
    refine am_xc am_qMTyp_56 (w := ([.int (am_mb w (am_lc (j + 1)))], [])) rfl rfl am_rMBl (Nat.le_refl _) ?_
    refine am_xz am_qMTyp_59 (b := false) (t := 78) (by rw [b1]; exact am_zb_ne) (by decide) ?_
    refine am_x1 am_FMTyp am_qMTyp_62 rfl ?_
    refine am_x1 am_FMTyp am_qMTyp_64 rfl ?_
    refine am_xi am_qMTyp_66 (b := false) (t := 76) (am_b am_b32 (decide_eq_false b2)) (by decide) ?_
    refine am_x1 am_FMTyp am_qMTyp_69 rfl ?_
    refine am_x1 am_FMTyp am_qMTyp_71 rfl ?_
    refine am_xi am_qMTyp_73 (b := true) (t := 78) (am_b am_b126 (decide_eq_true b3)) (by decide) ?_
    refine am_x1 am_FMTyp am_qMTyp_78 rfl ?_
    refine am_xj am_qMTyp_81 (t := 35) (by decide) ?_
    exact hn
theorem am_mf_0 {j K : Nat} (hj : j < 8) (hty : am_ty (am_cb w (am_lc (j + 1))) = false) : am_go 172 3000 (d + 1) (K + 22) 35 (am_lvT (am_lc (j + 1)) x w n) [] h (some (.inl (some (.int 0)), h, 0, 0)) := by
  have ecb := am_cb_mb w hj
  rw [← am_mty_eq, ← ecb] at hty
  unfold am_mty at hty
  rw [Bool.or_eq_false_iff] at hty
  obtain ⟨b1, b4⟩ := hty
  by_cases b2 : am_mb w (am_lc (j + 1)) < 32
  · refine am_go_le (K := K + 22) (by omega) ?_
    refine am_x1 am_FMTyp am_qMTyp_35 rfl ?_
    refine am_xz am_qMTyp_37 (b := false) (t := 84) (am_lc_lt j (by omega)) (by decide) ?_
    refine am_x1 am_FMTyp am_qMTyp_40 rfl ?_
    refine am_x1 am_FMTyp am_qMTyp_41 rfl ?_
    refine am_x1 am_FMTyp am_qMTyp_43 rfl ?_
    refine am_x1 am_FMTyp am_qMTyp_45 rfl ?_
    refine am_x1 am_FMTyp am_qMTyp_46 rfl ?_
    refine am_xk am_FMTyp am_qMTyp_47 am_kl9 ?_
    refine am_x1 am_FMTyp am_qMTyp_50 rfl ?_
    refine am_x1 am_FMTyp am_qMTyp_51 rfl ?_
    refine am_x1 am_FMTyp am_qMTyp_52 rfl ?_
    refine am_x1 am_FMTyp am_qMTyp_54 rfl ?_
    refine am_xc am_qMTyp_56 (w := ([.int (am_mb w (am_lc (j + 1)))], [])) rfl rfl am_rMBl (Nat.le_refl _) ?_
    refine am_xz am_qMTyp_59 (b := false) (t := 78) (by rw [b1]; exact am_zb_ne) (by decide) ?_
    refine am_x1 am_FMTyp am_qMTyp_62 rfl ?_
    refine am_x1 am_FMTyp am_qMTyp_64 rfl ?_
    refine am_xi am_qMTyp_66 (b := true) (t := 76) (am_b am_b32 (decide_eq_true b2)) (by decide) ?_
    refine am_x1 am_FMTyp am_qMTyp_76 rfl ?_
    exact am_xr am_qMTyp_77 (by decide)
  · rw [decide_eq_false b2, Bool.not_false, Bool.true_and, decide_eq_false_iff_not] at b4
    have b3 := b4
    refine am_go_le (K := K + 22) (by omega) ?_
    refine am_x1 am_FMTyp am_qMTyp_35 rfl ?_
    refine am_xz am_qMTyp_37 (b := false) (t := 84) (am_lc_lt j (by omega)) (by decide) ?_
    refine am_x1 am_FMTyp am_qMTyp_40 rfl ?_
    refine am_x1 am_FMTyp am_qMTyp_41 rfl ?_
    refine am_x1 am_FMTyp am_qMTyp_43 rfl ?_
    refine am_x1 am_FMTyp am_qMTyp_45 rfl ?_
    refine am_x1 am_FMTyp am_qMTyp_46 rfl ?_
    refine am_xk am_FMTyp am_qMTyp_47 am_kl9 ?_
    refine am_x1 am_FMTyp am_qMTyp_50 rfl ?_
    refine am_x1 am_FMTyp am_qMTyp_51 rfl ?_
    refine am_x1 am_FMTyp am_qMTyp_52 rfl ?_
    refine am_x1 am_FMTyp am_qMTyp_54 rfl ?_
    refine am_xc am_qMTyp_56 (w := ([.int (am_mb w (am_lc (j + 1)))], [])) rfl rfl am_rMBl (Nat.le_refl _) ?_
    refine am_xz am_qMTyp_59 (b := false) (t := 78) (by rw [b1]; exact am_zb_ne) (by decide) ?_
    refine am_x1 am_FMTyp am_qMTyp_62 rfl ?_
    refine am_x1 am_FMTyp am_qMTyp_64 rfl ?_
    refine am_xi am_qMTyp_66 (b := false) (t := 76) (am_b am_b32 (decide_eq_false b2)) (by decide) ?_
    refine am_x1 am_FMTyp am_qMTyp_69 rfl ?_
    refine am_x1 am_FMTyp am_qMTyp_71 rfl ?_
    refine am_xi am_qMTyp_73 (b := false) (t := 78) (am_b am_b126 (decide_eq_false b3)) (by decide) ?_
    refine am_x1 am_FMTyp am_qMTyp_76 rfl ?_
    exact am_xr am_qMTyp_77 (by decide)

theorem am_mvl1 {K : Nat} {o : am_O} {h2 : List va_E} {nc ns : Nat} (hn : ∀ c, am_go 172 3000 (d + 1) K 84 (am_lvM (am_lc 0) c x w n) [] h (some (o, h2, nc, ns))) : ∀ j c, j ≤ 8 → am_ok8 w j = true → am_go 172 3000 (d + 1) (K + 22 * j + 2) 35 (am_lvM (am_lc j) c x w n) [] h (some (o, h2, nc, ns)) := by
  intro j
  induction j with
  | zero =>
    intro c _ _
    refine am_go_le (K := K + 2) (by omega) ?_
    refine am_x1 am_FMTyp am_qMTyp_35 rfl ?_
    refine am_xz am_qMTyp_37 (b := true) (t := 84) am_lc_lt0 (by decide) ?_
    exact hn c
  | succ j ih =>
    intro c hj hok
    have hok2 : am_ty (am_cb w (am_lc (j + 1))) = true ∧ am_ok8 w j = true := by
      have := hok
      unfold am_ok8 at this
      rwa [Bool.and_eq_true] at this
    exact am_go_le (by omega) (am_mt_1 (by omega) hok2.1 (ih (am_cb w (am_lc (j + 1))) (by omega) hok2.2))
theorem am_mvl0 : ∀ j c, j ≤ 8 → am_ok8 w j = false → am_go 172 3000 (d + 1) (22 * j + 2) 35 (am_lvM (am_lc j) c x w n) [] h (some (.inl (some (.int 0)), h, 0, 0)) := by
  intro j
  induction j with
  | zero => intro _ _ hok; cases hok
  | succ j ih =>
    intro c hj hok
    by_cases hty : am_ty (am_cb w (am_lc (j + 1))) = true
    · have hok2 : am_ok8 w j = false := by
        have := hok
        unfold am_ok8 at this
        rwa [hty, Bool.true_and] at this
      exact am_go_le (by omega) (am_mt_1 (by omega) hty (ih (am_cb w (am_lc (j + 1))) (by omega) hok2))
    · rw [Bool.not_eq_true] at hty
      exact am_go_le (K := 0 + 22) (by omega) (am_mt_0 (by omega) hty)
end AM21

theorem am_mpl {d x tr : Nat} {w : Int64} {n : Int32} : ∀ (j : Nat) (h : List va_E) (f : List Value) (t : Nat) (g : Nat → Int32), j ≤ 8 → h[x]? = some (.inr (9, f)) → f[4]? = some (.ref tr) → f[6]? = some (.int (Int32.ofNat t)) → h[tr]? = some (.inl (3, 480, .inl g)) → t + j ≤ 480 →
    ∃ h', h'.length = h.length ∧ ∀ c, am_go 172 3000 (d + 1) (25 * j + 4) 89 (am_lvM (am_lc j) c x w n) [] h (some (.inl (some (.int 1)), h', 0, 0)) := by
  intro j
  induction j with
  | zero =>
    intro h f t g _ h0 f4 f6 h2 ht
    refine ⟨h, rfl, fun c => ?_⟩
    refine am_x1 am_FMTyp am_qMTyp_89 rfl ?_
    refine am_xz am_qMTyp_91 (b := true) (t := 132) am_lc_lt0 (by decide) ?_
    refine am_x1 am_FMTyp am_qMTyp_132 rfl ?_
    exact am_xr am_qMTyp_133 (by decide)
  | succ j ih =>
    intro h f t g hj h0 f4 f6 h2 ht
    have e := am_lc_dec j (by omega)
    obtain ⟨q1, q2, q3, q4, q5⟩ := am_t480 t (by omega)
    have n1 : tr ≠ x := fun z => by rw [z, h0] at h2; cases h2
    obtain ⟨h', hl, hg⟩ := ih ((h.set tr (.inl (3, 480, .inl (upd g (Int32.ofNat t).toNatClampNeg (vp_nar .byte (am_mb w (am_lc (j + 1))).toInt8.toInt32))))).set x (.inr (9, f.set 6 (.int (Int32.ofNat t + Int32.ofInt 1))))) (f.set 6 (.int (Int32.ofNat t + Int32.ofInt 1))) (t + 1) _ (by omega) (am_at_set (am_at_other h0 n1)) (am_f_other f4 (by decide)) (by rw [q5]; exact am_f_set f6) (am_at_other (am_at_set h2) (fun z => n1 z.symm)) (by omega)
    refine ⟨h', by rw [hl, List.length_set, List.length_set], fun c => ?_⟩
    refine am_go_le (K := 25 * j + 4 + 25) (by omega) ?_
    refine am_x1 am_FMTyp am_qMTyp_89 rfl ?_
    refine am_xz am_qMTyp_91 (b := false) (t := 132) (am_lc_lt j (by omega)) (by decide) ?_
    refine am_x1 am_FMTyp am_qMTyp_94 rfl ?_
    refine am_xg am_FMTyp am_qMTyp_95 am_qf9_80 h0 f4 ?_
    refine am_x1 am_FMTyp am_qMTyp_98 rfl ?_
    refine am_xg am_FMTyp am_qMTyp_99 am_qf9_170 h0 f6 ?_
    refine am_x1 am_FMTyp am_qMTyp_102 rfl ?_
    refine am_x1 am_FMTyp am_qMTyp_103 rfl ?_
    refine am_x1 am_FMTyp am_qMTyp_105 rfl ?_
    refine am_x1 am_FMTyp am_qMTyp_107 rfl ?_
    refine am_x1 am_FMTyp am_qMTyp_108 rfl ?_
    refine am_xk am_FMTyp am_qMTyp_109 am_kl9 ?_
    refine am_x1 am_FMTyp am_qMTyp_112 rfl ?_
    refine am_x1 am_FMTyp am_qMTyp_113 rfl ?_
    refine am_x1 am_FMTyp am_qMTyp_114 rfl ?_
    refine am_xba am_qMTyp_115 h2 q3 ?_
    refine am_x1 am_FMTyp am_qMTyp_116 rfl ?_
    refine am_x1 am_FMTyp am_qMTyp_117 rfl ?_
    refine am_xg am_FMTyp am_qMTyp_118 am_qf9_170 (am_at_other h0 n1) f6 ?_
    refine am_x1 am_FMTyp am_qMTyp_121 rfl ?_
    refine am_x1 am_FMTyp am_qMTyp_122 rfl ?_
    refine am_xp am_FMTyp am_qMTyp_123 am_qf9_170 (am_at_other h0 n1) (List.getElem?_eq_some_iff.mp f6).1 (am_wi _) ?_
    refine am_x1 am_FMTyp am_qMTyp_126 rfl ?_
    refine am_xj am_qMTyp_129 (t := 89) (by decide) ?_
    show am_go 172 3000 (d + 1) _ 89 (am_lvM (am_lc (j + 1) + Int32.ofInt (-1)) c x w n) [] _ _
    rw [e]
    exact am_go_le (by omega) (hg c)

theorem am_rMTyp {d x tr t : Nat} {h : List va_E} {f : List Value} {g : Nat → Int32} {w : Int64} {n v3 : Int32} (h0 : h[x]? = some (.inr (9, f))) (f3 : f[3]? = some (.int v3)) (f4 : f[4]? = some (.ref tr)) (f6 : f[6]? = some (.int (Int32.ofNat t))) (h2 : h[tr]? = some (.inl (3, 480, .inl g))) (ht : t ≤ 480) :
    ∃ h', h'.length = h.length ∧ am_all am_thr 3000 (d + 2) 172 [.ref x, .long w, .int n] h = some (.inl (some (.int (am_zb (am_tyv w n t)))), h', 0, 0) := by
  have g0 : (h.set x (.inr (9, f.set 3 (.int 0))))[x]? = some (.inr (9, f.set 3 (.int 0))) := am_at_set h0
  have g6 : (f.set 3 (.int 0))[6]? = some (.int (Int32.ofNat t)) := am_f_other f6 (by decide)
  by_cases c1 : n < 1
  · rw [show am_tyv w n t = false by unfold am_tyv; rw [decide_eq_true c1]; rfl, show am_zb false = 0 from rfl]
    refine ⟨h.set x (.inr (9, f.set 3 (.int 0))), by rw [List.length_set], am_in_go (by rw [am_FMTyp.2.1]; exact Nat.le_of_ble_eq_true rfl) ?_⟩
    refine am_x1 am_FMTyp am_qMTyp_0 rfl ?_
    refine am_x1 am_FMTyp am_qMTyp_1 rfl ?_
    refine am_xp am_FMTyp am_qMTyp_2 am_qf9_167 h0 (List.getElem?_eq_some_iff.mp f3).1 rfl ?_
    refine am_x1 am_FMTyp am_qMTyp_5 rfl ?_
    refine am_x1 am_FMTyp am_qMTyp_6 rfl ?_
    refine am_xi am_qMTyp_7 (b := true) (t := 28) (decide_eq_true c1) (by decide) ?_
    refine am_x1 am_FMTyp am_qMTyp_28 rfl ?_
    exact am_xr am_qMTyp_29 (by decide)
  · by_cases c2 : 8 < n
    · rw [show am_tyv w n t = false by unfold am_tyv; rw [decide_eq_true c2, Bool.not_true, Bool.false_and, Bool.and_false], show am_zb false = 0 from rfl]
      refine ⟨h.set x (.inr (9, f.set 3 (.int 0))), by rw [List.length_set], am_in_go (by rw [am_FMTyp.2.1]; exact Nat.le_of_ble_eq_true rfl) ?_⟩
      refine am_x1 am_FMTyp am_qMTyp_0 rfl ?_
      refine am_x1 am_FMTyp am_qMTyp_1 rfl ?_
      refine am_xp am_FMTyp am_qMTyp_2 am_qf9_167 h0 (List.getElem?_eq_some_iff.mp f3).1 rfl ?_
      refine am_x1 am_FMTyp am_qMTyp_5 rfl ?_
      refine am_x1 am_FMTyp am_qMTyp_6 rfl ?_
      refine am_xi am_qMTyp_7 (b := false) (t := 28) (decide_eq_false c1) (by decide) ?_
      refine am_x1 am_FMTyp am_qMTyp_10 rfl ?_
      refine am_x1 am_FMTyp am_qMTyp_11 rfl ?_
      refine am_xi am_qMTyp_13 (b := true) (t := 28) (am_b am_b8 (decide_eq_true c2)) (by decide) ?_
      refine am_x1 am_FMTyp am_qMTyp_28 rfl ?_
      exact am_xr am_qMTyp_29 (by decide)
    · by_cases c3 : Int32.ofNat t + n ≤ 480
      · obtain ⟨k, hk, rfl⟩ := am_n18 c1 c2
        have e3 := am_t481 t (by omega) k hk c3
        obtain ⟨e4, e5⟩ := am_n8 k hk
        by_cases c4 : am_ok8 w (k + 1) = true
        · rw [show am_tyv w (Int32.ofNat (k + 1)) t = true by unfold am_tyv; rw [e5, c4, decide_eq_false c1, decide_eq_false c2, decide_eq_true c3]; rfl, show am_zb true = 1 from rfl]
          have hok2 : am_ty (am_cb w (am_lc (k + 1))) = true ∧ am_ok8 w k = true := by
            have := c4
            unfold am_ok8 at this
            rwa [Bool.and_eq_true] at this
          have n1 : x ≠ tr := fun z => by rw [← z, h0] at h2; cases h2
          obtain ⟨h', hl, hg⟩ := am_mpl (d := d) (x := x) (w := w) (n := Int32.ofNat (k + 1)) (k + 1) (h.set x (.inr (9, f.set 3 (.int 0)))) (f.set 3 (.int 0)) t g (by omega) g0 (am_f_other f4 (by decide)) g6 (am_at_other h2 n1) e3
          refine ⟨h', by rw [hl, List.length_set], am_in_go (by rw [am_FMTyp.2.1]; exact Nat.le_of_ble_eq_true rfl) ?_⟩
          refine am_go_le (K := 25 * (k + 1) + 4 + 4 + 22 * k + 2 + 22 + 20) (by omega) ?_
          refine am_x1 am_FMTyp am_qMTyp_0 rfl ?_
          refine am_x1 am_FMTyp am_qMTyp_1 rfl ?_
          refine am_xp am_FMTyp am_qMTyp_2 am_qf9_167 h0 (List.getElem?_eq_some_iff.mp f3).1 rfl ?_
          refine am_x1 am_FMTyp am_qMTyp_5 rfl ?_
          refine am_x1 am_FMTyp am_qMTyp_6 rfl ?_
          refine am_xi am_qMTyp_7 (b := false) (t := 28) (decide_eq_false c1) (by decide) ?_
          refine am_x1 am_FMTyp am_qMTyp_10 rfl ?_
          refine am_x1 am_FMTyp am_qMTyp_11 rfl ?_
          refine am_xi am_qMTyp_13 (b := false) (t := 28) (am_b am_b8 (decide_eq_false c2)) (by decide) ?_
          refine am_x1 am_FMTyp am_qMTyp_16 rfl ?_
          refine am_xg am_FMTyp am_qMTyp_17 am_qf9_170 g0 g6 ?_
          refine am_x1 am_FMTyp am_qMTyp_20 rfl ?_
          refine am_x1 am_FMTyp am_qMTyp_21 rfl ?_
          refine am_x1 am_FMTyp am_qMTyp_22 rfl ?_
          refine am_xi am_qMTyp_25 (b := true) (t := 30) (am_b am_s480 (decide_eq_true c3)) (by decide) ?_
          refine am_x1 am_FMTyp am_qMTyp_30 rfl ?_
          refine am_x1 am_FMTyp am_qMTyp_31 rfl ?_
          refine am_x1 am_FMTyp am_qMTyp_32 rfl ?_
          refine am_x1 am_FMTyp am_qMTyp_33 rfl ?_
          show am_go 172 3000 (d + 1) _ 35 (am_lvT (Int32.ofNat (k + 1) - Int32.ofInt 1) x w (Int32.ofNat (k + 1))) [] _ _
          rw [e4]
          refine am_go_le (K := 25 * (k + 1) + 4 + 4 + 22 * k + 2 + 22) (by omega) (am_mf_1 hk hok2.1 (am_mvl1 (K := 25 * (k + 1) + 4 + 4) (fun c => ?_) k _ (by omega) hok2.2))
          refine am_x1 am_FMTyp am_qMTyp_84 rfl ?_
          refine am_x1 am_FMTyp am_qMTyp_85 rfl ?_
          refine am_x1 am_FMTyp am_qMTyp_86 rfl ?_
          refine am_x1 am_FMTyp am_qMTyp_87 rfl ?_
          show am_go 172 3000 (d + 1) _ 89 (am_lvM (Int32.ofNat (k + 1) - Int32.ofInt 1) c x w (Int32.ofNat (k + 1))) [] _ _
          rw [e4]
          exact hg c
        · rw [Bool.not_eq_true] at c4
          rw [show am_tyv w (Int32.ofNat (k + 1)) t = false by unfold am_tyv; rw [e5, c4, Bool.and_false, Bool.and_false, Bool.and_false], show am_zb false = 0 from rfl]
          refine ⟨h.set x (.inr (9, f.set 3 (.int 0))), by rw [List.length_set], am_in_go (by rw [am_FMTyp.2.1]; exact Nat.le_of_ble_eq_true rfl) ?_⟩
          refine am_go_le (K := 22 * k + 2 + 22 + 20) (by omega) ?_
          refine am_x1 am_FMTyp am_qMTyp_0 rfl ?_
          refine am_x1 am_FMTyp am_qMTyp_1 rfl ?_
          refine am_xp am_FMTyp am_qMTyp_2 am_qf9_167 h0 (List.getElem?_eq_some_iff.mp f3).1 rfl ?_
          refine am_x1 am_FMTyp am_qMTyp_5 rfl ?_
          refine am_x1 am_FMTyp am_qMTyp_6 rfl ?_
          refine am_xi am_qMTyp_7 (b := false) (t := 28) (decide_eq_false c1) (by decide) ?_
          refine am_x1 am_FMTyp am_qMTyp_10 rfl ?_
          refine am_x1 am_FMTyp am_qMTyp_11 rfl ?_
          refine am_xi am_qMTyp_13 (b := false) (t := 28) (am_b am_b8 (decide_eq_false c2)) (by decide) ?_
          refine am_x1 am_FMTyp am_qMTyp_16 rfl ?_
          refine am_xg am_FMTyp am_qMTyp_17 am_qf9_170 g0 g6 ?_
          refine am_x1 am_FMTyp am_qMTyp_20 rfl ?_
          refine am_x1 am_FMTyp am_qMTyp_21 rfl ?_
          refine am_x1 am_FMTyp am_qMTyp_22 rfl ?_
          refine am_xi am_qMTyp_25 (b := true) (t := 30) (am_b am_s480 (decide_eq_true c3)) (by decide) ?_
          refine am_x1 am_FMTyp am_qMTyp_30 rfl ?_
          refine am_x1 am_FMTyp am_qMTyp_31 rfl ?_
          refine am_x1 am_FMTyp am_qMTyp_32 rfl ?_
          refine am_x1 am_FMTyp am_qMTyp_33 rfl ?_
          show am_go 172 3000 (d + 1) _ 35 (am_lvT (Int32.ofNat (k + 1) - Int32.ofInt 1) x w (Int32.ofNat (k + 1))) [] _ _
          rw [e4]
          by_cases hty : am_ty (am_cb w (am_lc (k + 1))) = true
          · have hok2 : am_ok8 w k = false := by
              have := c4
              unfold am_ok8 at this
              rwa [hty, Bool.true_and] at this
            exact am_go_le (K := 22 * k + 2 + 22) (by omega) (am_mf_1 hk hty (am_mvl0 k _ (by omega) hok2))
          · rw [Bool.not_eq_true] at hty
            exact am_go_le (K := 0 + 22) (by omega) (am_mf_0 hk hty)
      · rw [show am_tyv w n t = false by unfold am_tyv; rw [decide_eq_false c3, Bool.false_and, Bool.and_false, Bool.and_false], show am_zb false = 0 from rfl]
        refine ⟨h.set x (.inr (9, f.set 3 (.int 0))), by rw [List.length_set], am_in_go (by rw [am_FMTyp.2.1]; exact Nat.le_of_ble_eq_true rfl) ?_⟩
        refine am_x1 am_FMTyp am_qMTyp_0 rfl ?_
        refine am_x1 am_FMTyp am_qMTyp_1 rfl ?_
        refine am_xp am_FMTyp am_qMTyp_2 am_qf9_167 h0 (List.getElem?_eq_some_iff.mp f3).1 rfl ?_
        refine am_x1 am_FMTyp am_qMTyp_5 rfl ?_
        refine am_x1 am_FMTyp am_qMTyp_6 rfl ?_
        refine am_xi am_qMTyp_7 (b := false) (t := 28) (decide_eq_false c1) (by decide) ?_
        refine am_x1 am_FMTyp am_qMTyp_10 rfl ?_
        refine am_x1 am_FMTyp am_qMTyp_11 rfl ?_
        refine am_xi am_qMTyp_13 (b := false) (t := 28) (am_b am_b8 (decide_eq_false c2)) (by decide) ?_
        refine am_x1 am_FMTyp am_qMTyp_16 rfl ?_
        refine am_xg am_FMTyp am_qMTyp_17 am_qf9_170 g0 g6 ?_
        refine am_x1 am_FMTyp am_qMTyp_20 rfl ?_
        refine am_x1 am_FMTyp am_qMTyp_21 rfl ?_
        refine am_x1 am_FMTyp am_qMTyp_22 rfl ?_
        refine am_xi am_qMTyp_25 (b := false) (t := 30) (am_b am_s480 (decide_eq_false c3)) (by decide) ?_
        refine am_x1 am_FMTyp am_qMTyp_28 rfl ?_
        exact am_xr am_qMTyp_29 (by decide)
