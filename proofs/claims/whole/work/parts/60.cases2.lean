/-! ===== type, node, again, parse ===== -/
section AM24
variable {xs : Nat → Int32}

theorem am_k0 {H : List va_E} (hH : am_ckH H = true) : ∃ h', h'.length = 73 ∧ am_lgo (am_roL 4 xs) 80 am_lv1 [] H ((349, am_lv1, [], h'), 0, 0) := by
  obtain ⟨f0, f6, f8, f9, g2, g45, hln, o0, p0, p1, p5, p6, o3, o18, q8, o37, r6, o41, s3, s4, s6, s8, s9, s10, s43, s48, o2, o45, o1⟩ := am_H1f hH
  obtain ⟨h1, l1, kp, r1⟩ := am_rTyp (d := 37) (w := (xs 1).toInt64 <<< ((Int8.ofInt 32).toInt32.toInt64 &&& 63) ||| ((xs 2).toInt64 &&& 4294967295)) (n := xs 3) o0 p0 o1 o2 (by decide)
  have o41b : h1[41]? = some (.inr (9, f9)) := (kp 41 (by decide) (by decide)).trans o41
  obtain ⟨h2, l2, r2⟩ := am_rMTyp (d := 38) (w := (xs 1).toInt64 <<< ((Int8.ofInt 32).toInt32.toInt64 &&& 63) ||| ((xs 2).toInt64 &&& 4294967295)) (n := xs 3) o41b s3 s4 s6 ((kp 45 (by decide) (by decide)).trans o45) (by decide)
  refine ⟨h2, by rw [l2, l1]; exact hln, ?_⟩
  refine am_lz1 am_qL_80 rfl ?_
  refine am_lz1 am_qL_81 rfl ?_
  refine am_lz1 am_qL_82 rfl ?_
  refine am_lz1 am_qL_84 rfl ?_
  refine am_lz1 am_qL_85 rfl ?_
  refine am_lza am_qL_86 rfl (by decide) (k := 1) (by decide) ?_
  refine am_lz1 am_qL_87 rfl ?_
  refine am_lz1 am_qL_88 rfl ?_
  refine am_lz1 am_qL_90 rfl ?_
  refine am_lz1 am_qL_91 rfl ?_
  refine am_lz1 am_qL_92 rfl ?_
  refine am_lz1 am_qL_94 rfl ?_
  refine am_lz1 am_qL_95 rfl ?_
  refine am_lza am_qL_96 rfl (by decide) (k := 2) (by decide) ?_
  refine am_lz1 am_qL_97 rfl ?_
  refine am_lzk am_qL_98 am_kl12 ?_
  refine am_lz1 am_qL_101 rfl ?_
  refine am_lz1 am_qL_102 rfl ?_
  refine am_lz1 am_qL_103 rfl ?_
  refine am_lz1 am_qL_104 rfl ?_
  refine am_lz1 am_qL_106 rfl ?_
  refine am_lz1 am_qL_107 rfl ?_
  refine am_lza am_qL_108 rfl (by decide) (k := 3) (by decide) ?_
  refine am_lzc am_qL_109 (w := ([.ref 0, .long ((xs 1).toInt64 <<< ((Int8.ofInt 32).toInt32.toInt64 &&& 63) ||| ((xs 2).toInt64 &&& 4294967295)), .int (xs 3)], [])) rfl (am_h7 o0 (Nat.le_of_ble_eq_true rfl)) r1 (by rw [l1]; exact Nat.le_refl _) ?_
  refine am_lz1 am_qL_112 rfl ?_
  refine am_lz1 am_qL_113 rfl ?_
  refine am_lz1 am_qL_114 rfl ?_
  refine am_lz1 am_qL_116 rfl ?_
  refine am_lz1 am_qL_117 rfl ?_
  refine am_lza am_qL_118 rfl (by decide) (k := 1) (by decide) ?_
  refine am_lz1 am_qL_119 rfl ?_
  refine am_lz1 am_qL_120 rfl ?_
  refine am_lz1 am_qL_122 rfl ?_
  refine am_lz1 am_qL_123 rfl ?_
  refine am_lz1 am_qL_124 rfl ?_
  refine am_lz1 am_qL_126 rfl ?_
  refine am_lz1 am_qL_127 rfl ?_
  refine am_lza am_qL_128 rfl (by decide) (k := 2) (by decide) ?_
  refine am_lz1 am_qL_129 rfl ?_
  refine am_lzk am_qL_130 am_kl12 ?_
  refine am_lz1 am_qL_133 rfl ?_
  refine am_lz1 am_qL_134 rfl ?_
  refine am_lz1 am_qL_135 rfl ?_
  refine am_lz1 am_qL_136 rfl ?_
  refine am_lz1 am_qL_138 rfl ?_
  refine am_lz1 am_qL_139 rfl ?_
  refine am_lza am_qL_140 rfl (by decide) (k := 3) (by decide) ?_
  refine am_lzc am_qL_141 (w := ([.ref 41, .long ((xs 1).toInt64 <<< ((Int8.ofInt 32).toInt32.toInt64 &&& 63) ||| ((xs 2).toInt64 &&& 4294967295)), .int (xs 3)], [.int (am_zb (am_tyv ((xs 1).toInt64 <<< ((Int8.ofInt 32).toInt32.toInt64 &&& 63) ||| ((xs 2).toInt64 &&& 4294967295)) (xs 3) 0))])) rfl (am_h7 o41b (Nat.le_of_ble_eq_true rfl)) r2 (by rw [l2]; exact Nat.le_refl _) ?_
  refine am_lzi am_qL_144 (b := true) (t := 349) (decide_eq_true rfl) (by decide) ?_
  exact am_lz0

/-- node: up to the call, and behind it -/
theorem am_k3a {H : List va_E} : am_lgo (am_roL 4 xs) 218 am_lv1 [] H ((232, am_lv1, [.ref 72, .int (xs 2), .int (xs 1), .ref 0], H), 0, 0) := by
  refine am_lz1 am_qL_218 rfl ?_
  refine am_lz1 am_qL_219 rfl ?_
  refine am_lz1 am_qL_220 rfl ?_
  refine am_lz1 am_qL_222 rfl ?_
  refine am_lz1 am_qL_223 rfl ?_
  refine am_lza am_qL_224 rfl (by decide) (k := 1) (by decide) ?_
  refine am_lz1 am_qL_225 rfl ?_
  refine am_lz1 am_qL_226 rfl ?_
  refine am_lz1 am_qL_228 rfl ?_
  refine am_lz1 am_qL_229 rfl ?_
  refine am_lza am_qL_230 rfl (by decide) (k := 2) (by decide) ?_
  refine am_lz1 am_qL_231 rfl ?_
  exact am_lz0
theorem am_k3b {H : List va_E} (hH : am_ckH H = true) : ∃ h', am_lgo (am_roL 4 xs) 235 am_lv1 [.int 1] H ((349, [(6, .int 0), (5, .int 1)] ++ am_lv1, [], h'), 0, 0) := by
  obtain ⟨f0, f6, f8, f9, g2, g45, hln, o0, p0, p1, p5, p6, o3, o18, q8, o37, r6, o41, s3, s4, s6, s8, s9, s10, s43, s48, o2, o45, o1⟩ := am_H1f hH
  refine ⟨H.set 41 (.inr (9, f9.set 3 (.int 1))), ?_⟩
  refine am_lz1 am_qL_235 rfl ?_
  refine am_lz1 am_qL_237 rfl ?_
  refine am_lz1 am_qL_238 rfl ?_
  refine am_lz1 am_qL_239 rfl ?_
  refine am_lz1 am_qL_241 rfl ?_
  refine am_lz1 am_qL_242 rfl ?_
  refine am_lza am_qL_243 rfl (by decide) (k := 1) (by decide) ?_
  refine am_lz1 am_qL_244 rfl ?_
  refine am_lz1 am_qL_245 rfl ?_
  refine am_lz1 am_qL_247 rfl ?_
  refine am_lz1 am_qL_248 rfl ?_
  refine am_lza am_qL_249 rfl (by decide) (k := 2) (by decide) ?_
  refine am_lzc am_qL_250 (w := ([.ref 41, .int (xs 1), .int (xs 2)], [])) rfl (am_h7 o41 (Nat.le_of_ble_eq_true rfl)) (am_rMNod0 o41 s3 s43) (by rw [List.length_set]; exact Nat.le_refl _) ?_
  refine am_lz1 am_qL_253 rfl ?_
  refine am_lz1 am_qL_255 rfl ?_
  refine am_lzc am_qL_256 (w := ([.ref 41], [])) rfl (am_h7 (am_at_set o41) (Nat.le_of_ble_eq_true rfl)) (am_rThr (am_at_set o41) (am_f_set s3)) (Nat.le_refl _) ?_
  refine am_lz1 am_qL_259 rfl ?_
  refine am_lzi am_qL_261 (b := true) (t := 266) (by decide) (by decide) ?_
  refine am_lz1 am_qL_266 rfl ?_
  refine am_lzz am_qL_268 (b := true) (t := 283) (by decide) (by decide) ?_
  refine am_lzj am_qL_283 (t := 349) (by decide) ?_
  exact am_lz0
theorem am_k3c {H : List va_E} (hH : am_ckH H = true) : am_rcv [.ref 0, .int (xs 1), .int (xs 2)] H 0 = true ∧ am_all am_thr 3000 40 169 [.ref 0, .int (xs 1), .int (xs 2)] H = some (.inr 1, H, 1, 6) := by
  obtain ⟨f0, f6, f8, f9, g2, g45, hln, o0, p0, p1, p5, p6, o3, o18, q8, o37, r6, o41, s3, s4, s6, s8, s9, s10, s43, s48, o2, o45, o1⟩ := am_H1f hH
  exact ⟨am_rcv_keep o0, am_rNod0 o0 p6 o18 q8⟩
/-- parse: up to the call -/
theorem am_k1a {H : List va_E} : am_lgo (am_roL 4 xs) 149 am_lv1 [] H ((151, am_lv1, [.ref 72, .ref 0], H), 0, 0) := by
  refine am_lz1 am_qL_149 rfl ?_
  refine am_lz1 am_qL_150 rfl ?_
  exact am_lz0
end AM24
def am_ckG (H : List va_E) : Bool := match am_all am_thr 3000 40 19 [.ref 0] H with
  | some (.inl (some (.int x)), h1, nc, ns) => decide (x = 0) && (decide (nc = 0) && (decide (ns = 0) && (decide (h1.length = 73) && (am_isO h1 41 9 [] && (match am_all am_thr 3000 40 300 [.ref 41] h1 with
    | some (.inl (some (.int y)), h2, nc2, ns2) => decide (y = 0) && (decide (nc2 = 0) && (decide (ns2 = 0) && decide (h2.length = 73)))
    | _ => false)))))
  | _ => false
set_option maxRecDepth 1000000 in
theorem am_ckGd : (match am_s1r with
    | some r => am_ckG r.1.2.2.2
    | none => false) = true := by decide +kernel
theorem am_k6 {xs : Nat → Int32} {H : List va_E} (hH : am_ckH H = true) (hG : am_ckG H = true) : ∃ h', h'.length = 73 ∧ am_lgo (am_roL 4 xs) 336 am_lv1 [] H ((349, am_lv1, [], h'), 0, 0) := by
  obtain ⟨f0, f6, f8, f9, g2, g45, hln, o0, p0, p1, p5, p6, o3, o18, q8, o37, r6, o41, s3, s4, s6, s8, s9, s10, s43, s48, o2, o45, o1⟩ := am_H1f hH
  unfold am_ckG at hG
  split at hG
  · next x h1 nc ns e1 =>
    simp only [Bool.and_eq_true, decide_eq_true_eq] at hG
    obtain ⟨rfl, rfl, rfl, l1, i1, hG⟩ := hG
    obtain ⟨f, o41b, -⟩ := am_isO_eq i1
    split at hG
    · next y h2 nc2 ns2 e2 =>
      simp only [Bool.and_eq_true, decide_eq_true_eq] at hG
      obtain ⟨rfl, rfl, rfl, l2⟩ := hG
      refine ⟨h2, l2, ?_⟩
      refine am_lz1 am_qL_336 rfl ?_
      refine am_lzc am_qL_337 (w := ([.ref 0], [])) rfl (am_h7 o0 (Nat.le_of_ble_eq_true rfl)) e1 (by rw [l1, hln]; exact Nat.le_refl _) ?_
      refine am_lz1 am_qL_340 rfl ?_
      refine am_lzc am_qL_341 (w := ([.ref 41], [.int 0])) rfl (am_h7 o41b (Nat.le_of_ble_eq_true rfl)) e2 (by rw [l1, l2]; exact Nat.le_refl _) ?_
      refine am_lzi am_qL_344 (b := true) (t := 349) (by decide) (by decide) ?_
      exact am_lz0
    · cases hG
  · cases hG
def am_ckP (H : List va_E) : Bool := match am_lr am_fL3 3 3000 40 [.ref 0, .ref 72] H with
  | some (.inl (some (.int k)), h1, nc, ns) => decide (k = 0) && (decide (nc = 0) && (decide (ns = 0) && (decide (h1.length = 73) && (match am_lg (fun _ => none) 18 154 am_lv1 [.int 0] h1 with
    | some ((pc, lv, st, h2), nc2, ns2) => decide (pc = 349) && (decide (lv = [(6, .int 1), (5, .int 0)] ++ am_lv1) && (decide (st = []) && (decide (nc2 = 0) && decide (ns2 = 0))))
    | none => false))))
  | _ => false
set_option maxRecDepth 1000000 in
theorem am_ckPd : (match am_s1r with
    | some r => am_ckP r.1.2.2.2
    | none => false) = true := by decide +kernel
theorem am_k1 {H : List va_E} (hP : am_ckP H = true) : ∃ h1 h2, am_lr am_fL3 3 3000 40 [.ref 0, .ref 72] H = some (.inl (some (.int 0)), h1, 0, 0) ∧ am_lg (fun _ => none) 18 154 am_lv1 [.int 0] h1 = some ((349, [(6, .int 1), (5, .int 0)] ++ am_lv1, [], h2), 0, 0) := by
  unfold am_ckP at hP
  split at hP
  · next x h1 nc ns e1 =>
    simp only [Bool.and_eq_true, decide_eq_true_eq] at hP
    obtain ⟨rfl, rfl, rfl, l1, hP⟩ := hP
    split at hP
    · next pc lv st h2 nc2 ns2 e2 =>
      simp only [Bool.and_eq_true, decide_eq_true_eq] at hP
      obtain ⟨rfl, rfl, rfl, rfl, rfl⟩ := hP
      exact ⟨h1, h2, e1, e2⟩
    · cases hP
  · cases hP

