/-! ===== signs, on both sides ===== -/
theorem cm_ofN (a : Nat) : Int32.ofInt (a : Int) = Int32.ofNat a := rfl
theorem cm_u32 {a : Nat} (h : a < 4294967296) : (UInt32.ofNat a).toNat = a := by
  show (BitVec.ofNat 32 a).toNat = a
  rw [BitVec.toNat_ofNat]
  exact Nat.mod_eq_of_lt h
theorem cm_shl8N (a : Nat) (h : a < 8388608) : Int32.ofNat a <<< ((8 : Int32) &&& 31) = Int32.ofNat (a * 256) := by
  apply Int32.toBitVec_inj.mp
  have hy : ((8 : Int32) &&& 31).toBitVec.smod 32 = BitVec.ofNat 32 8 := by decide
  rw [Int32.toBitVec_shiftLeft, hy]
  apply BitVec.eq_of_toNat_eq
  have hb : (Int32.ofNat a).toBitVec.toNat = a := Nat.mod_eq_of_lt (by omega)
  have hk' : (BitVec.ofNat 32 8).toNat = 8 := by decide
  have h : ((Int32.ofNat a).toBitVec <<< BitVec.ofNat 32 8).toNat = (a * 256) % 2 ^ 32 := by simp only [BitVec.shiftLeft_eq', BitVec.toNat_shiftLeft, hb, hk', Nat.shiftLeft_eq]
  exact h
theorem cm_orN {x a : Nat} (h : x + a < 4294967296) (h0 : x ||| a = x + a) : Int32.ofNat x ||| Int32.ofNat a = Int32.ofNat (x + a) := by
  have g1 : (UInt32.ofNat x).toNat = x := cm_u32 (Nat.lt_of_le_of_lt (Nat.le_add_right x a) h)
  have g2 : (UInt32.ofNat a).toNat = a := cm_u32 (Nat.lt_of_le_of_lt (Nat.le_add_left a x) h)
  have g3 : (UInt32.ofNat (x + a)).toNat = x + a := cm_u32 h
  have h3 : UInt32.ofNat x ||| UInt32.ofNat a = UInt32.ofNat (x + a) := by
    apply UInt32.toNat_inj.mp
    rw [UInt32.toNat_or, g1, g2, g3]
    exact h0
  exact congrArg UInt32.toInt32 h3
theorem cm_or8N {a b : Nat} (ha : a < 256) (h : b * 256 + a < 4294967296) : Int32.ofNat (b * 256) ||| Int32.ofNat a = Int32.ofNat (b * 256 + a) := by
  apply cm_orN h
  have h0 := Nat.shiftLeft_add_eq_or_of_lt (i := 8) (show a < 2 ^ 8 from ha) b
  rw [Nat.shiftLeft_eq] at h0
  exact h0.symm
/-- a character more -/
theorem cm_pack {x c : Int} (h0 : 0 ≤ x) (h1 : x < 8388608) (h2 : 0 ≤ c) (h3 : c < 256) : cm_or (cm_shl x 8) c = 256 * x + c := by
  obtain ⟨a, rfl⟩ := Int.eq_ofNat_of_zero_le h0
  obtain ⟨b, rfl⟩ := Int.eq_ofNat_of_zero_le h2
  have e1 : cm_shl (a : Int) 8 = (Int32.ofNat (a * 256)).toInt := by
    unfold cm_shl
    rw [cm_ofN, show Int32.ofInt 8 = (8 : Int32) from rfl, cm_shl8N a (by omega)]
  unfold cm_or
  rw [e1, Int32.ofInt_toInt, cm_ofN, cm_or8N (by omega) (by omega)]
  rw [← cm_ofN, Int32.toInt_ofInt_of_le (by omega) (by omega)]
  omega
def sgS : List Int := cm_kT.getD 39 []
theorem sgS_eq : sgS = [123, 125, 40, 41, 91, 93, 46, 59, 44, 60, 62, 15421, 15933, 15677, 8509, 4013373, 2178365, 43, 45, 42, 37, 11051, 11565, 15420, 15934, 4079166, 38, 124, 94, 33, 126, 9766, 31868, 63, 58, 61, 11069, 11581, 10813, 9533, 3947581, 4079165, 1044266557, 9789, 31805, 24125, 47, 12093] := by decide +kernel
theorem sg_pre : ∀ x ∈ sgS, 256 ≤ x → x / 256 ∈ sgS := by decide +kernel
theorem sg_pos : ∀ x ∈ sgS, 33 ≤ x ∧ x < 2147483648 := by decide +kernel
theorem sg_one : ∀ x ∈ cm_krT.getD 2 [], x ∈ sgS := by decide +kernel
theorem sg_two : ∀ x ∈ cm_krT.getD 1 [], x ∈ sgS := by decide +kernel
theorem sg_is1 : ∀ x ∈ sgS, x < 256 → x ∈ cm_krT.getD 2 [] := by decide +kernel
theorem sg_is2 : ∀ x ∈ sgS, 256 ≤ x → x ∈ cm_krT.getD 1 [] := by decide +kernel
/-- the class: isSign -/
theorem cl_44 {s : cm_S} {x : Int} : ∀ (k : Nat) (j : Nat), j + k = 48 → cm_lp cm_sem cm_k44 3 [some (.inl x), some (.inl j)] [] s = some (.inl (some (.inl (cm_b (x ∈ sgS.drop j)))), s) := by
  have hl : sgS.length = 48 := by decide +kernel
  have hkn : cm_kn 1039 = 48 := by decide +kernel
  intro k
  induction k with
  | zero =>
    intro j hj
    rw [cE_44_3, cF_44_3, hkn, if_neg (by omega), List.drop_eq_nil_of_le (by omega)]
    simp [cm_b]
  | succ k ih =>
    intro j hj
    have hd : sgS.drop j = sgS.getD j 0 :: sgS.drop (j + 1) := by
      rw [List.drop_eq_getElem_cons (by omega), List.getD_eq_getElem?_getD, List.getElem?_eq_getElem (by omega)]
      rfl
    have ek : cm_ka 1039 (j : Int) = sgS.getD j 0 := by simp [cm_ka, sgS]
    rw [cE_44_3, cF_44_3, hkn, if_pos (by omega), if_pos (by omega), ek, cm_w_id (by omega) (by omega), hd]
    by_cases he : sgS.getD j 0 = x
    · have hm : x ∈ sgS.getD j 0 :: sgS.drop (j + 1) := by rw [he]; exact List.mem_cons_self ..
      rw [if_pos he, cm_b, if_pos hm]
    · rw [if_neg he]
      have := ih (j + 1) (by omega)
      rw [show ((j + 1 : Nat) : Int) = (j : Int) + 1 by omega] at this
      rw [this]
      have : (x ∈ sgS.getD j 0 :: sgS.drop (j + 1)) = (x ∈ sgS.drop (j + 1)) := by
        apply propext
        rw [List.mem_cons]
        exact ⟨fun z => z.resolve_left (fun y => he y.symm), Or.inr⟩
      simp only [cm_b, this]
theorem cs_44 (x : Int) (s : cm_S) : cm_sem 44 [.inl x] s = some (.inl (some (.inl (cm_b (x ∈ sgS)))), s) := by
  rw [cS_44, cF_44_0]
  exact cl_44 48 0 rfl
section TX16
variable (tx : Int → Int) (n : Int)
/-- one, two, three, four characters packed -/
def pk2 (p : Int) : Int := 256 * tA tx n p + tA tx n (p + 1)
def pk3 (p : Int) : Int := 256 * pk2 tx n p + tA tx n (p + 2)
def pk4 (p : Int) : Int := 256 * pk3 tx n p + tA tx n (p + 3)
/-- the sign at p, and how many characters it has; (0, -1): there is none -/
def sgE (p : Int) : Int × Int := if tA tx n p ∈ sgS then
    (if p + 1 < n ∧ pk2 tx n p ∈ sgS then
      (if p + 2 < n ∧ pk3 tx n p ∈ sgS then
        (if p + 3 < n ∧ pk4 tx n p ∈ sgS then (pk4 tx n p, p + 4) else (pk3 tx n p, p + 3))
      else (pk2 tx n p, p + 2))
    else (tA tx n p, p + 1))
  else (0, -1)
end TX16
section TX17
variable {tx : Int → Int} {n : Int}
theorem tx_b (ht : tOk tx n) {p : Int} (h0 : 0 ≤ p) (h1 : p < n) : 9 ≤ tA tx n p ∧ tA tx n p ≤ 126 := by
  rw [tA_in h0 h1]
  have := ht.2.2 p h0 h1
  omega
/-- what readSign leaves -/
def cSg (s : cm_S) (c e : Int) : cm_S := cm_p (cm_p (cm_p s 1506 e) 1504 c) 1503 6
theorem cl_43_end {s : cm_S} {x e : Int} {o2 : Option cm_V} : cm_lp cm_sem cm_k43 41 [some (.inr (.inl 15)), some (.inl x), o2, some (.inl 3)] [] (cm_p s 1506 e) = some (.inl none, cSg s x e) := by
  rw [cE_43_41, cF_43_41, if_neg (by decide)]
  rfl
/-- one step of readSign's loop -/
theorem cl_43 (ht : tOk tx n) {s : cm_S} (h : cTx tx n s) {x e i : Int} (hx0 : 0 ≤ x) (hx1 : x < 8388608) (he0 : 0 ≤ e) (he1 : e ≤ n) (hi0 : 0 ≤ i) (hi : i < 3) (o2 : Option cm_V) : cm_lp cm_sem cm_k43 41 [some (.inr (.inl 15)), some (.inl x), o2, some (.inl i)] [] (cm_p s 1506 e) = if e < n ∧ 256 * x + tA tx n e ∈ sgS then cm_lp cm_sem cm_k43 41 [some (.inr (.inl 15)), some (.inl (256 * x + tA tx n e)), o2, some (.inl (i + 1))] [] (cm_p s 1506 (e + 1)) else some (.inl none, cSg s x e) := by
  obtain ⟨t1, t2, -⟩ := id ht
  rw [cE_43_41, cF_43_41, if_pos hi, cm_p_at, cs_28 ht (cTx_p h (by decide)), cm_bi_i]
  by_cases hen : e < n
  · have hb := tx_b ht he0 hen
    rw [if_neg (by omega), cm_p_at, cs_28 ht (cTx_p h (by decide)), cm_bi_i, cm_pack hx0 hx1 (by omega) (by omega), cs_44, cm_bi_i, cm_w_id (show -2147483648 ≤ i + 1 by omega) (by omega)]
    simp only [cm_b0]
    by_cases hm : 256 * x + tA tx n e ∈ sgS
    · rw [if_neg (fun z => z hm), if_pos ⟨hen, hm⟩, cm_p_at, cs_28 ht (cTx_p h (by decide)), cm_bi_i, cm_pack hx0 hx1 (by omega) (by omega), cm_p_at, cm_p_p, cm_w_id (by omega) (by omega)]
    · rw [if_pos hm, if_neg (fun z => hm z.2)]
      rfl
  · rw [tA_out (by omega), if_pos rfl, if_neg (fun z => hen z.1)]
    rfl
/-- the class: readSign, where no comment begins -/
theorem cs_43 (ht : tOk tx n) {s : cm_S} (h : cTx tx n s) {p : Int} (hp : s.1 1505 = p) (h0 : 0 ≤ p) (h1 : p < n) (hc : ¬ (tA tx n p = 47 ∧ tA tx n (p + 1) = 42)) : cm_sem 43 [.inr (.inl 15)] s = if (sgE tx n p).2 = -1 then some (.inr 0, cRz s) else some (.inl none, cSg s (sgE tx n p).1 (sgE tx n p).2) := by
  obtain ⟨t1, t2, -⟩ := id ht
  have hb := tx_b ht h0 h1
  have main : (cm_bi (cm_sem 44 [.inl (tA tx n p)] s) fun z7 s7 =>
        if z7 = 0 then
          cm_bv (cm_sem 33 [.inr (.inl 15), .inl 1] s7) fun s8 =>
            cm_lp cm_sem cm_k43 41 [some (.inr (.inl 15)), some (.inl (tA tx n p)), some (.inl 0), some (.inl 0)] [] (cm_p s8 1506 (cm_w ((s8.1 1505) + 1)))
        else
          cm_bv (cm_sem 33 [.inr (.inl 15), .inl 0] s7) fun s9 =>
            cm_lp cm_sem cm_k43 41 [some (.inr (.inl 15)), some (.inl (tA tx n p)), some (.inl 0), some (.inl 0)] [] (cm_p s9 1506 (cm_w ((s9.1 1505) + 1)))) = if (sgE tx n p).2 = -1 then some (.inr 0, cRz s) else some (.inl none, cSg s (sgE tx n p).1 (sgE tx n p).2) := by
    rw [cs_44, cm_bi_i]
    simp only [cm_b0]
    by_cases hs : tA tx n p ∈ sgS
    · rw [if_neg (fun z => z hs), cs_33_0, cm_bv_o, hp, cm_w_id (by omega) (by omega), cl_43 ht h (by omega) (by omega) (by omega) (by omega) (by omega) (by omega)]
      by_cases g2 : p + 1 < n ∧ pk2 tx n p ∈ sgS
      · have hb2 := tx_b ht (show 0 ≤ p + 1 by omega) g2.1
        rw [if_pos (show p + 1 < n ∧ 256 * tA tx n p + tA tx n (p + 1) ∈ sgS from g2), cl_43 ht h (by omega) (by omega) (by omega) (by omega) (by omega) (by omega), show p + 1 + 1 = p + 2 by omega]
        by_cases g3 : p + 2 < n ∧ pk3 tx n p ∈ sgS
        · have hb3 := tx_b ht (show 0 ≤ p + 2 by omega) g3.1
          rw [if_pos (show p + 2 < n ∧ 256 * (256 * tA tx n p + tA tx n (p + 1)) + tA tx n (p + 2) ∈ sgS from g3), cl_43 ht h (by omega) (by omega) (by omega) (by omega) (by omega) (by omega), show p + 2 + 1 = p + 3 by omega, show (0 : Int) + 1 + 1 + 1 = 3 by omega]
          by_cases g4 : p + 3 < n ∧ pk4 tx n p ∈ sgS
          · rw [if_pos (show p + 3 < n ∧ 256 * (256 * (256 * tA tx n p + tA tx n (p + 1)) + tA tx n (p + 2)) + tA tx n (p + 3) ∈ sgS from g4), cl_43_end]
            have e : sgE tx n p = (pk4 tx n p, p + 4) := by rw [sgE, if_pos hs, if_pos g2, if_pos g3, if_pos g4]
            rw [e, if_neg (show ¬ p + 4 = -1 by omega), show p + 3 + 1 = p + 4 by omega]
            rfl
          · rw [if_neg (show ¬ (p + 3 < n ∧ 256 * (256 * (256 * tA tx n p + tA tx n (p + 1)) + tA tx n (p + 2)) + tA tx n (p + 3) ∈ sgS) from g4)]
            have e : sgE tx n p = (pk3 tx n p, p + 3) := by rw [sgE, if_pos hs, if_pos g2, if_pos g3, if_neg g4]
            rw [e, if_neg (show ¬ p + 3 = -1 by omega)]
            rfl
        · rw [if_neg (show ¬ (p + 2 < n ∧ 256 * (256 * tA tx n p + tA tx n (p + 1)) + tA tx n (p + 2) ∈ sgS) from g3)]
          have e : sgE tx n p = (pk2 tx n p, p + 2) := by rw [sgE, if_pos hs, if_pos g2, if_neg g3]
          rw [e, if_neg (show ¬ p + 2 = -1 by omega)]
          rfl
      · rw [if_neg (show ¬ (p + 1 < n ∧ 256 * tA tx n p + tA tx n (p + 1) ∈ sgS) from g2)]
        have e : sgE tx n p = (tA tx n p, p + 1) := by rw [sgE, if_pos hs, if_neg g2]
        rw [e, if_neg (show ¬ p + 1 = -1 by omega)]
    · have e : sgE tx n p = (0, -1) := by rw [sgE, if_neg hs]
      rw [if_pos hs, cs_33_1, cm_bv_t, e, if_pos rfl]
      rfl
  rw [cS_43, cF_43_0, hp, cs_28 ht h, cm_bi_i]
  by_cases h47 : tA tx n p = 47
  · rw [if_pos h47, hp, cm_w_id (by omega) (by omega), cs_28 ht h, cm_bi_i, if_neg (fun z => hc ⟨h47, z⟩)]
    exact main
  · rw [if_neg h47]
    exact main
/-- .. where one begins -/
theorem cs_43c (ht : tOk tx n) {s : cm_S} (h : cTx tx n s) {p : Int} (hp : s.1 1505 = p) (h0 : 0 ≤ p) (h1 : p < n) (hc : tA tx n p = 47 ∧ tA tx n (p + 1) = 42) : cm_sem 43 [.inr (.inl 15)] s = some (.inr 0, cRz s) := by
  obtain ⟨t1, t2, -⟩ := id ht
  rw [cS_43, cF_43_0, hp, cs_28 ht h, cm_bi_i, if_pos hc.1, hp, cm_w_id (by omega) (by omega), cs_28 ht h, cm_bi_i, if_pos hc.2, cs_33_1, cm_bv_t]
  rfl
end TX17
