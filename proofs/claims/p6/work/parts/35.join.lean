/-! ===== the checks, joined ===== -/
theorem am_allM : am_me.all am_ckM = true := by
  unfold am_me
  simp only [List.all_append, Bool.and_eq_true]
  exact ⟨am_kM0, am_kM1, am_kM2, am_kM3, am_kM4, am_kM5, am_kM6, am_kM7⟩
theorem am_allC : am_calT.all am_ckC = true := by
  unfold am_calT
  simp only [List.all_append, Bool.and_eq_true]
  exact ⟨am_kC0, am_kC1, am_kC2, am_kC3, am_kC4, am_kC5, am_kC6, am_kC7⟩
def am_g0 : List Nat := [0, 1, 2, 3, 4, 5, 6, 7, 8, 9, 10, 11, 12, 13, 14, 15, 16, 17, 18, 19, 20, 21, 22, 23, 24, 25, 26, 27, 28, 29]
def am_g1 : List Nat := [30, 31, 32, 33, 34, 35, 36, 37, 38, 39, 40, 41]
def am_g2 : List Nat := [42, 43, 44, 45, 46, 47, 48, 49, 50, 51, 52]
def am_g3 : List Nat := [53, 54, 55, 56, 57, 58, 59, 60, 61, 62, 63, 64, 65, 66, 67, 68, 69, 70, 71, 72, 73]
def am_g4 : List Nat := [74, 75, 76, 77, 78, 79, 80, 81, 82, 83, 84, 85, 86, 87, 88, 89, 90, 91]
def am_g5 : List Nat := [92, 93, 94, 95, 96, 97, 98, 99, 100, 101, 102, 103, 104, 105, 106, 107, 108, 109, 110]
def am_g6 : List Nat := [111, 112, 113, 114, 115, 116, 117, 118, 119, 120, 121, 122, 123, 124, 125, 126, 127, 128, 129]
def am_g7 : List Nat := [130, 131, 132, 133, 134, 135, 136, 137, 138, 139, 140, 141, 142]
def am_g8 : List Nat := [143, 144, 145]
def am_g9 : List Nat := [146, 147, 148, 149, 150, 151, 152, 153]
def am_g10 : List Nat := [154, 155, 156, 157, 158, 159, 160, 161]
def am_g11 : List Nat := [162]
def am_g12 : List Nat := [163, 164, 165, 166, 167, 168]
def am_g13 : List Nat := [169, 171, 172, 173]
def am_g14 : List Nat := [174, 175, 176, 177]
def am_g15 : List Nat := [178]
def am_g16 : List Nat := [179, 180, 181]
def am_g17 : List Nat := [182, 183, 184, 185, 186, 187, 188, 189]
def am_g18 : List Nat := [190, 191, 192, 193, 194, 195, 196, 197, 198]
def am_g19 : List Nat := [199, 200, 201, 202, 203]
def am_g20 : List Nat := [204, 205, 206, 207]
def am_g21 : List Nat := [208, 209, 210, 211, 212, 213, 214, 215, 216, 217, 218, 219, 220, 221, 222, 223, 224, 225, 226, 227, 228, 229, 230]
def am_g22 : List Nat := [231, 232, 233, 234, 235, 236, 237, 238]
def am_g23 : List Nat := [239, 240, 241, 242, 243, 244, 245, 246]
def am_g24 : List Nat := [247, 248, 249, 250, 251, 252, 253, 254, 255, 256]
def am_g25 : List Nat := [257, 258, 259, 260, 261, 262]
def am_g26 : List Nat := [263, 264, 265, 266, 267]
def am_g27 : List Nat := [268, 269, 270, 271, 272, 273, 274, 275, 276, 277]
def am_g28 : List Nat := [278, 279, 280, 281]
def am_g29 : List Nat := [282, 283, 284]
def am_g30 : List Nat := [285, 286, 287, 288]
def am_g31 : List Nat := [289, 290, 291, 292, 293]
def am_g32 : List Nat := [294, 295, 296, 297, 298, 299, 300]
def am_grp : List Nat := am_g0 ++ (am_g1 ++ (am_g2 ++ (am_g3 ++ (am_g4 ++ (am_g5 ++ (am_g6 ++ (am_g7 ++ (am_g8 ++ (am_g9 ++ (am_g10 ++ (am_g11 ++ (am_g12 ++ (am_g13 ++ (am_g14 ++ (am_g15 ++ (am_g16 ++ (am_g17 ++ (am_g18 ++ (am_g19 ++ (am_g20 ++ (am_g21 ++ (am_g22 ++ (am_g23 ++ (am_g24 ++ (am_g25 ++ (am_g26 ++ (am_g27 ++ (am_g28 ++ (am_g29 ++ (am_g30 ++ (am_g31 ++ (am_g32))))))))))))))))))))))))))))))))
theorem am_allD : am_grp.all (fun y => am_chk2 (am_mq y)) = true := by
  unfold am_grp
  simp only [List.all_append, Bool.and_eq_true]
  exact ⟨am_kD0_0, am_kD0_1, am_kD0_2, am_kD0_3, am_kD0_4, am_kD0_5, am_kD0_6, am_kD1_0, am_kD1_1, am_kD1_2, am_kD1_3, am_kD1_4, am_kD1_5, am_kD1_6, am_kD2_0, am_kD2_1, am_kD2_2, am_kD2_3, am_kD2_4, am_kD2_5, am_kD2_6, am_kD3_0, am_kD3_1, am_kD3_2, am_kD3_3, am_kD3_4, am_kD3_5, am_kD3_6, am_kD4_0, am_kD4_1, am_kD4_2, am_kD4_3, am_kD4_4⟩
set_option maxRecDepth 100000 in
theorem am_grin : ∀ y, y < 301 → y ∈ am_grp ∨ y = 170 := by decide +kernel
theorem am_melen : am_me.length = 301 := by decide +kernel
theorem am_pieces {α : Type} {p : α → Bool} {l : List α} (h : ∀ k, 40 * k < l.length → ((l.drop (40 * k)).take 40).all p = true) : l.all p = true := by
  rw [List.all_eq_true]
  intro x hx
  obtain ⟨j, hj, rfl⟩ := List.getElem_of_mem hx
  have h1 := h (j / 40) (by omega)
  rw [List.all_eq_true] at h1
  refine h1 _ ?_
  have e : ((l.drop (40 * (j / 40))).take 40)[j - 40 * (j / 40)]? = some l[j] := by
    rw [List.getElem?_take, if_pos (by omega), List.getElem?_drop, show 40 * (j / 40) + (j - 40 * (j / 40)) = j by omega]
    exact List.getElem?_eq_getElem hj
  exact List.mem_of_getElem? e
set_option maxRecDepth 100000 in
theorem am_biglen : (am_mq 170).2.2.2.2.2.length ≤ 440 := by decide +kernel
theorem am_bigG (y n : Nat) (hlen : (am_mq y).2.2.2.2.2.length ≤ 40 * n) (h : ∀ k, k < n → am_chk3 (am_mq y) (40 * k) = true) : am_chk (am_bt y) (am_mq y).2.2.2.2.2 = true := by
  unfold am_chk
  refine am_pieces (fun k hk => ?_)
  have h1 := am_chk3_bt (h k (by omega))
  unfold am_chk at h1
  exact h1
theorem am_bigD : am_chk (am_bt 170) (am_mq 170).2.2.2.2.2 = true := am_bigG 170 11 am_biglen (fun k hk => match k, hk with
  | 0, _ => am_kB170_0
  | 1, _ => am_kB170_40
  | 2, _ => am_kB170_80
  | 3, _ => am_kB170_120
  | 4, _ => am_kB170_160
  | 5, _ => am_kB170_200
  | 6, _ => am_kB170_240
  | 7, _ => am_kB170_280
  | 8, _ => am_kB170_320
  | 9, _ => am_kB170_360
  | 10, _ => am_kB170_400
  | k + 11, h => absurd h (by omega))
theorem am_mq_in {y : Nat} (h : y < am_me.length) : am_mq y ∈ am_me := by
  unfold am_mq
  rw [List.getD_eq_getElem?_getD, List.getElem?_eq_getElem h]
  exact List.getElem_mem h
theorem am_hM (y : Nat) (h : y < am_me.length) : am_ckM (am_mq y) = true := List.all_eq_true.mp am_allM _ (am_mq_in h)
theorem am_hC (e : am_Ca) (h : e ∈ am_calT) : am_ckC e = true := List.all_eq_true.mp am_allC _ h
theorem am_hD (y : Nat) (h : y < am_me.length) : am_chk (am_bt y) (am_mq y).2.2.2.2.2 = true := by
  rw [am_melen] at h
  rcases am_grin y h with z | z
  · exact am_chk2_bt (List.all_eq_true.mp am_allD _ z)
  · rw [z]
    exact am_bigD
theorem am_fc_lt {y pc : Nat} {i : Instr} (h : am_fc y pc = some i) : y < am_me.length := by
  rcases Nat.lt_or_ge y am_me.length with z | z
  · exact z
  · exfalso
    have e : am_mq y = am_m0 := by
      unfold am_mq
      rw [List.getD_eq_getElem?_getD, List.getElem?_eq_none z]
      rfl
    unfold am_fc at h
    rw [e] at h
    cases h
