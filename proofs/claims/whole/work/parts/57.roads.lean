/-! ===== the law's roads ===== -/
def am_lgo (ro : Nat → Option (Nat × (Nat → Int32))) (pc : Nat) (lv : am_L) (st : List Value) (h : List va_E) (r : am_F × Nat × Nat) : Prop := ∃ n, am_lg ro n pc lv st h = some r
def am_lp (pc : Nat) : Option Instr := match am_fL0.lookup pc with
  | none => none
  | some i => if (am_plain i && (!(am_iso (am_oi 12) i) && (am_cal 12 i).isNone)) = true then some i else none
def am_lq (pc : Nat) : Option (Nat × Nat × Nat × Nat) := match am_fL0.lookup pc with
  | none => none
  | some i => if (am_plain i && !(am_iso (am_oi 12) i)) = true then am_cal 12 i else none
section AM22
variable {ro : Nat → Option (Nat × (Nat → Int32))} {pc : Nat} {lv : am_L} {st : List Value} {h : List va_E} {r : am_F × Nat × Nat}
theorem am_lz0 : am_lgo ro pc lv st h ((pc, lv, st, h), 0, 0) := ⟨0, rfl⟩
theorem am_lz1 {i : Instr} {pc' : Nat} {lv' : am_L} {st' : List Value} {h' : List va_E} (hp : am_lp pc = some i) (hst : am_step (am_fl 12) (am_kc 12) (am_kl 12) (fun _ => none) ro false 7 i pc lv st h = some (pc', lv', st', h')) (hn : am_lgo ro pc' lv' st' h' r) : am_lgo ro pc lv st h r := by
  obtain ⟨n, hn⟩ := hn
  refine ⟨n + 1, ?_⟩
  unfold am_lp at hp
  split at hp
  · cases hp
  · next j h2 =>
    split at hp
    · next h3 =>
      cases hp
      simp only [Bool.and_eq_true, Bool.not_eq_true', Option.isNone_iff_eq_none] at h3
      obtain ⟨h3, h4, h5⟩ := h3
      show (am_one _ _ _ _ _ _ pc lv st h).bind _ = _
      have e1 : am_one (fun pc => am_fL0.lookup pc) (am_step (am_fl 12) (am_kc 12) (am_kl 12) (fun _ => none) ro false 7) (am_cal 12) (am_oi 12) (am_nw 12) (am_all am_thr 3000 40) pc lv st h = some ((pc', lv', st', h'), 0, 0) := by
        unfold am_one
        simp only [h2]
        split
        · cases h3
        · cases h3
        · show (match am_iso (am_oi 12) i with
            | true => _
            | false => _) = _
          rw [h4]
          simp only [h5, hst, Option.bind_some]
      rw [e1, Option.bind_some]
      show (am_seg _ _ _ _ _ _ n pc' lv' st' h').bind _ = _
      rw [show am_seg _ _ _ _ _ _ n pc' lv' st' h' = _ from hn]
      simp
    · cases hp
theorem am_lzc {q : Nat × Nat × Nat × Nat} (hp : am_lq pc = some q) {w : List Value × List Value} {v : Option Value} {h' : List va_E} (h6 : am_pop (am_vir q.1) q.2.2.1 st = some w) (h7 : (decide ((w.2.map fun v => v.category).sum ≤ 8) && ((q.1 != 0) || am_rcv w.1 h q.2.2.2)) = true) (h8 : am_all am_thr 3000 40 q.2.1 w.1 h = some (.inl v, h', 0, 0)) (h9 : h.length ≤ h'.length) (hn : am_lgo ro (pc + 3) lv (v.toList ++ w.2) h' r) : am_lgo ro pc lv st h r := by
  obtain ⟨n, hn⟩ := hn
  refine ⟨n + 1, ?_⟩
  unfold am_lq at hp
  split at hp
  · cases hp
  · next j h2 =>
    split at hp
    · next h3 =>
      simp only [Bool.and_eq_true, Bool.not_eq_true'] at h3
      obtain ⟨h3, h4⟩ := h3
      show (am_one _ _ _ _ _ _ pc lv st h).bind _ = _
      have e1 : am_one (fun pc => am_fL0.lookup pc) (am_step (am_fl 12) (am_kc 12) (am_kl 12) (fun _ => none) ro false 7) (am_cal 12) (am_oi 12) (am_nw 12) (am_all am_thr 3000 40) pc lv st h = some ((pc + 3, lv, v.toList ++ w.2, h'), 0, 0) := by
        unfold am_one
        simp only [h2]
        split
        · cases h3
        · cases h3
        · show (match am_iso (am_oi 12) j with
            | true => _
            | false => _) = _
          rw [h4]
          simp only [hp, h6, Option.bind_some]
          rw [if_pos h7, h8]
          simp only [Option.bind_some]
          rw [if_pos]
          rw [Bool.and_eq_true]
          exact ⟨decide_eq_true h9, rfl⟩
      rw [e1, Option.bind_some]
      show (am_seg _ _ _ _ _ _ n (pc + 3) lv (v.toList ++ w.2) h').bind _ = _
      rw [show am_seg _ _ _ _ _ _ n (pc + 3) lv (v.toList ++ w.2) h' = _ from hn]
      simp
    · cases hp
theorem am_lzj {off : Int} {t : Nat} (hp : am_lp pc = some (.goto off)) (ht : am_to pc off = some t) (hn : am_lgo ro t lv st h r) : am_lgo ro pc lv st h r := by
  refine am_lz1 hp ?_ hn
  show (am_to pc off).bind _ = _
  rw [ht]
  rfl
theorem am_lzi {c : ClassFile.Cond} {off : Int} {x z : Int32} {r0 : List Value} {b : Bool} {t : Nat} (hp : am_lp pc = some (.if_icmp c off)) (hc : am_c c x z = b) (ht : am_to pc off = some t) (hn : am_lgo ro (cond b t (pc + 3)) lv r0 h r) : am_lgo ro pc lv (.int z :: .int x :: r0) h r := by
  refine am_lz1 hp ?_ hn
  show (am_to pc off).bind _ = _
  rw [ht, Option.bind_some, hc]
  cases b <;> rfl
theorem am_lzz {c : ClassFile.Cond} {off : Int} {x : Int32} {r0 : List Value} {b : Bool} {t : Nat} (hp : am_lp pc = some (.ifCond c off)) (hc : am_c c x 0 = b) (ht : am_to pc off = some t) (hn : am_lgo ro (cond b t (pc + 3)) lv r0 h r) : am_lgo ro pc lv (.int x :: r0) h r := by
  refine am_lz1 hp ?_ hn
  show (am_to pc off).bind _ = _
  rw [ht, Option.bind_some, hc]
  cases b <;> rfl
theorem am_lzo {dd lo hi : Int} {offs : Array Int} {x : Int32} {r0 : List Value} {t : Nat} (hp : am_lp pc = some (.tableswitch dd lo hi offs)) (ho : (decide (x.toInt < lo) || decide (hi < x.toInt)) = true) (ht : am_to pc dd = some t) (hn : am_lgo ro t lv r0 h r) : am_lgo ro pc lv (.int x :: r0) h r := by
  refine am_lz1 hp ?_ hn
  show (am_to pc (if (decide (x.toInt < lo) || decide (hi < x.toInt)) = true then dd else _)).bind _ = _
  rw [if_pos ho, ht, Option.bind_some, if_pos]
  rw [ho]
  rfl
theorem am_lzw {dd lo hi off : Int} {offs : Array Int} {x : Int32} {r0 : List Value} {t : Nat} (hp : am_lp pc = some (.tableswitch dd lo hi offs)) (ho : (decide (x.toInt < lo) || decide (hi < x.toInt)) = false) (hf : offs[(x.toInt - lo).toNat]? = some off) (ht : am_to pc off = some t) (hn : am_lgo ro t lv r0 h r) : am_lgo ro pc lv (.int x :: r0) h r := by
  refine am_lz1 hp ?_ hn
  show (am_to pc (if (decide (x.toInt < lo) || decide (hi < x.toInt)) = true then dd else (offs[(x.toInt - lo).toNat]?).getD dd)).bind _ = _
  rw [ho, if_neg (by decide), hf, Option.getD_some, ht, Option.bind_some, if_pos]
  rfl
/-- the script -/
theorem am_lza {a n k : Nat} {xs : Nat → Int32} {j : Int32} {r0 : List Value} (hp : am_lp pc = some .iaload) (hr : ro a = some (n, xs)) (hk : am_ok j n = true) (hi : j.toNatClampNeg = k) (hn : am_lgo ro (pc + 1) lv (.int (xs k) :: r0) h r) : am_lgo ro pc lv (.int j :: .ref a :: r0) h r := by
  refine am_lz1 hp ?_ hn
  show (match ro a with
    | some q => _
    | none => _) = _
  rw [hr]
  simp only
  rw [if_pos hk, hi]
theorem am_lzl {a n : Nat} {xs : Nat → Int32} {r0 : List Value} (hp : am_lp pc = some .arraylength) (hr : ro a = some (n, xs)) (hn : am_lgo ro (pc + 1) lv (.int (Int32.ofNat n) :: r0) h r) : am_lgo ro pc lv (.ref a :: r0) h r := by
  refine am_lz1 hp ?_ hn
  show (match ro a with
    | some q => _
    | none => _) = _
  rw [hr]
theorem am_lzk {k : Nat} {v : Int64} (hp : am_lp pc = some (.ldc2_w k)) (hk : am_kl 12 k = some v) (hn : am_lgo ro (pc + 3) lv (.long v :: st) h r) : am_lgo ro pc lv st h r := by
  refine am_lz1 hp ?_ hn
  show (am_kl 12 k).bind _ = _
  rw [hk]
  rfl
end AM22
theorem am_kl12 : am_kl 12 25 = some 4294967295 := by decide +kernel

theorem am_qL_3 : am_lp 3 = some (.dup) := by decide +kernel
theorem am_qL_4 : am_lq 4 = some (2, 0, 0, 0) := by decide +kernel
theorem am_qL_7 : am_lp 7 = some (.astore_n 1) := by decide +kernel
theorem am_qL_11 : am_lp 11 = some (.dup) := by decide +kernel
theorem am_qL_12 : am_lq 12 = some (2, 170, 0, 9) := by decide +kernel
theorem am_qL_15 : am_lp 15 = some (.astore_n 2) := by decide +kernel
theorem am_qL_16 : am_lp 16 = some (.iconst 1) := by decide +kernel
theorem am_qL_19 : am_lp 19 = some (.astore_n 3) := by decide +kernel
theorem am_qL_20 : am_lp 20 = some (.iconst 0) := by decide +kernel
theorem am_qL_21 : am_lp 21 = some (.istore 4) := by decide +kernel
theorem am_qL_23 : am_lp 23 = some (.iload 4) := by decide +kernel
theorem am_qL_25 : am_lp 25 = some (.aload_n 0) := by decide +kernel
theorem am_qL_26 : am_lp 26 = some (.arraylength) := by decide +kernel
theorem am_qL_27 : am_lp 27 = some (.iconst 4) := by decide +kernel
theorem am_qL_28 : am_lp 28 = some (.isub) := by decide +kernel
theorem am_qL_29 : am_lp 29 = some (.if_icmp .gt 326) := by decide +kernel
theorem am_qL_32 : am_lp 32 = some (.aload_n 0) := by decide +kernel
theorem am_qL_33 : am_lp 33 = some (.iload 4) := by decide +kernel
theorem am_qL_35 : am_lp 35 = some (.iaload) := by decide +kernel
theorem am_qL_36 : am_lp 36 = some (.bipush 7) := by decide +kernel
theorem am_qL_38 : am_lp 38 = some (.iand) := by decide +kernel
theorem am_qL_39 : am_lp 39 = some (.tableswitch 310 0 6 #[41, 110, 154, 179, 247, 272, 297]) := by decide +kernel
theorem am_qL_80 : am_lp 80 = some (.aload_n 1) := by decide +kernel
theorem am_qL_81 : am_lp 81 = some (.aload_n 0) := by decide +kernel
theorem am_qL_82 : am_lp 82 = some (.iload 4) := by decide +kernel
theorem am_qL_84 : am_lp 84 = some (.iconst 1) := by decide +kernel
theorem am_qL_85 : am_lp 85 = some (.iadd) := by decide +kernel
theorem am_qL_86 : am_lp 86 = some (.iaload) := by decide +kernel
theorem am_qL_87 : am_lp 87 = some (.i2l) := by decide +kernel
theorem am_qL_88 : am_lp 88 = some (.bipush 32) := by decide +kernel
theorem am_qL_90 : am_lp 90 = some (.lshl) := by decide +kernel
theorem am_qL_91 : am_lp 91 = some (.aload_n 0) := by decide +kernel
theorem am_qL_92 : am_lp 92 = some (.iload 4) := by decide +kernel
theorem am_qL_94 : am_lp 94 = some (.iconst 2) := by decide +kernel
theorem am_qL_95 : am_lp 95 = some (.iadd) := by decide +kernel
theorem am_qL_96 : am_lp 96 = some (.iaload) := by decide +kernel
theorem am_qL_97 : am_lp 97 = some (.i2l) := by decide +kernel
theorem am_qL_98 : am_lp 98 = some (.ldc2_w 25) := by decide +kernel
theorem am_qL_101 : am_lp 101 = some (.land) := by decide +kernel
theorem am_qL_102 : am_lp 102 = some (.lor) := by decide +kernel
theorem am_qL_103 : am_lp 103 = some (.aload_n 0) := by decide +kernel
theorem am_qL_104 : am_lp 104 = some (.iload 4) := by decide +kernel
theorem am_qL_106 : am_lp 106 = some (.iconst 3) := by decide +kernel
theorem am_qL_107 : am_lp 107 = some (.iadd) := by decide +kernel
theorem am_qL_108 : am_lp 108 = some (.iaload) := by decide +kernel
theorem am_qL_109 : am_lq 109 = some (0, 9, 2, 0) := by decide +kernel
theorem am_qL_112 : am_lp 112 = some (.aload_n 2) := by decide +kernel
theorem am_qL_113 : am_lp 113 = some (.aload_n 0) := by decide +kernel
theorem am_qL_114 : am_lp 114 = some (.iload 4) := by decide +kernel
theorem am_qL_116 : am_lp 116 = some (.iconst 1) := by decide +kernel
theorem am_qL_117 : am_lp 117 = some (.iadd) := by decide +kernel
theorem am_qL_118 : am_lp 118 = some (.iaload) := by decide +kernel
theorem am_qL_119 : am_lp 119 = some (.i2l) := by decide +kernel
theorem am_qL_120 : am_lp 120 = some (.bipush 32) := by decide +kernel
theorem am_qL_122 : am_lp 122 = some (.lshl) := by decide +kernel
theorem am_qL_123 : am_lp 123 = some (.aload_n 0) := by decide +kernel
theorem am_qL_124 : am_lp 124 = some (.iload 4) := by decide +kernel
theorem am_qL_126 : am_lp 126 = some (.iconst 2) := by decide +kernel
theorem am_qL_127 : am_lp 127 = some (.iadd) := by decide +kernel
theorem am_qL_128 : am_lp 128 = some (.iaload) := by decide +kernel
theorem am_qL_129 : am_lp 129 = some (.i2l) := by decide +kernel
theorem am_qL_130 : am_lp 130 = some (.ldc2_w 25) := by decide +kernel
theorem am_qL_133 : am_lp 133 = some (.land) := by decide +kernel
theorem am_qL_134 : am_lp 134 = some (.lor) := by decide +kernel
theorem am_qL_135 : am_lp 135 = some (.aload_n 0) := by decide +kernel
theorem am_qL_136 : am_lp 136 = some (.iload 4) := by decide +kernel
theorem am_qL_138 : am_lp 138 = some (.iconst 3) := by decide +kernel
theorem am_qL_139 : am_lp 139 = some (.iadd) := by decide +kernel
theorem am_qL_140 : am_lp 140 = some (.iaload) := by decide +kernel
theorem am_qL_141 : am_lq 141 = some (0, 172, 2, 9) := by decide +kernel
theorem am_qL_144 : am_lp 144 = some (.if_icmp .eq 205) := by decide +kernel
theorem am_qL_147 : am_lp 147 = some (.iconst 0) := by decide +kernel
theorem am_qL_149 : am_lp 149 = some (.aload_n 1) := by decide +kernel
theorem am_qL_150 : am_lp 150 = some (.aload_n 3) := by decide +kernel
theorem am_qL_154 : am_lp 154 = some (.istore 5) := by decide +kernel
theorem am_qL_156 : am_lp 156 = some (.aload_n 2) := by decide +kernel
theorem am_qL_157 : am_lq 157 = some (0, 174, 0, 9) := by decide +kernel
theorem am_qL_160 : am_lp 160 = some (.istore 6) := by decide +kernel
theorem am_qL_162 : am_lp 162 = some (.aload_n 2) := by decide +kernel
theorem am_qL_163 : am_lq 163 = some (0, 171, 0, 9) := by decide +kernel
theorem am_qL_166 : am_lp 166 = some (.iload 5) := by decide +kernel
theorem am_qL_168 : am_lp 168 = some (.if_icmp .eq 5) := by decide +kernel
theorem am_qL_171 : am_lp 171 = some (.iconst 0) := by decide +kernel
theorem am_qL_173 : am_lp 173 = some (.iload 5) := by decide +kernel
theorem am_qL_175 : am_lp 175 = some (.ifCond .ne 15) := by decide +kernel
theorem am_qL_178 : am_lp 178 = some (.aload_n 3) := by decide +kernel
theorem am_qL_179 : am_lp 179 = some (.iconst 0) := by decide +kernel
theorem am_qL_180 : am_lp 180 = some (.laload) := by decide +kernel
theorem am_qL_181 : am_lp 181 = some (.iload 6) := by decide +kernel
theorem am_qL_183 : am_lp 183 = some (.i2l) := by decide +kernel
theorem am_qL_184 : am_lp 184 = some (.lcmp) := by decide +kernel
theorem am_qL_185 : am_lp 185 = some (.ifCond .eq 5) := by decide +kernel
theorem am_qL_188 : am_lp 188 = some (.iconst 0) := by decide +kernel
theorem am_qL_190 : am_lp 190 = some (.goto 159) := by decide +kernel
theorem am_qL_193 : am_lp 193 = some (.aload_n 1) := by decide +kernel
theorem am_qL_194 : am_lp 194 = some (.aload_n 0) := by decide +kernel
theorem am_qL_195 : am_lp 195 = some (.iload 4) := by decide +kernel
theorem am_qL_197 : am_lp 197 = some (.iconst 1) := by decide +kernel
theorem am_qL_198 : am_lp 198 = some (.iadd) := by decide +kernel
theorem am_qL_199 : am_lp 199 = some (.iaload) := by decide +kernel
theorem am_qL_200 : am_lq 200 = some (0, 13, 1, 0) := by decide +kernel
theorem am_qL_203 : am_lp 203 = some (.aload_n 2) := by decide +kernel
theorem am_qL_204 : am_lp 204 = some (.aload_n 0) := by decide +kernel
theorem am_qL_205 : am_lp 205 = some (.iload 4) := by decide +kernel
theorem am_qL_207 : am_lp 207 = some (.iconst 1) := by decide +kernel
theorem am_qL_208 : am_lp 208 = some (.iadd) := by decide +kernel
theorem am_qL_209 : am_lp 209 = some (.iaload) := by decide +kernel
theorem am_qL_210 : am_lq 210 = some (0, 296, 1, 9) := by decide +kernel
theorem am_qL_213 : am_lp 213 = some (.if_icmp .eq 136) := by decide +kernel
theorem am_qL_216 : am_lp 216 = some (.iconst 0) := by decide +kernel
theorem am_qL_218 : am_lp 218 = some (.aload_n 1) := by decide +kernel
theorem am_qL_219 : am_lp 219 = some (.aload_n 0) := by decide +kernel
theorem am_qL_220 : am_lp 220 = some (.iload 4) := by decide +kernel
theorem am_qL_222 : am_lp 222 = some (.iconst 1) := by decide +kernel
theorem am_qL_223 : am_lp 223 = some (.iadd) := by decide +kernel
theorem am_qL_224 : am_lp 224 = some (.iaload) := by decide +kernel
theorem am_qL_225 : am_lp 225 = some (.aload_n 0) := by decide +kernel
theorem am_qL_226 : am_lp 226 = some (.iload 4) := by decide +kernel
theorem am_qL_228 : am_lp 228 = some (.iconst 2) := by decide +kernel
theorem am_qL_229 : am_lp 229 = some (.iadd) := by decide +kernel
theorem am_qL_230 : am_lp 230 = some (.iaload) := by decide +kernel
theorem am_qL_231 : am_lp 231 = some (.aload_n 3) := by decide +kernel
theorem am_qL_235 : am_lp 235 = some (.istore 5) := by decide +kernel
theorem am_qL_237 : am_lp 237 = some (.aload_n 2) := by decide +kernel
theorem am_qL_238 : am_lp 238 = some (.aload_n 0) := by decide +kernel
theorem am_qL_239 : am_lp 239 = some (.iload 4) := by decide +kernel
theorem am_qL_241 : am_lp 241 = some (.iconst 1) := by decide +kernel
theorem am_qL_242 : am_lp 242 = some (.iadd) := by decide +kernel
theorem am_qL_243 : am_lp 243 = some (.iaload) := by decide +kernel
theorem am_qL_244 : am_lp 244 = some (.aload_n 0) := by decide +kernel
theorem am_qL_245 : am_lp 245 = some (.iload 4) := by decide +kernel
theorem am_qL_247 : am_lp 247 = some (.iconst 2) := by decide +kernel
theorem am_qL_248 : am_lp 248 = some (.iadd) := by decide +kernel
theorem am_qL_249 : am_lp 249 = some (.iaload) := by decide +kernel
theorem am_qL_250 : am_lq 250 = some (0, 297, 2, 9) := by decide +kernel
theorem am_qL_253 : am_lp 253 = some (.istore 6) := by decide +kernel
theorem am_qL_255 : am_lp 255 = some (.aload_n 2) := by decide +kernel
theorem am_qL_256 : am_lq 256 = some (0, 171, 0, 9) := by decide +kernel
theorem am_qL_259 : am_lp 259 = some (.iload 5) := by decide +kernel
theorem am_qL_261 : am_lp 261 = some (.if_icmp .eq 5) := by decide +kernel
theorem am_qL_264 : am_lp 264 = some (.iconst 0) := by decide +kernel
theorem am_qL_266 : am_lp 266 = some (.iload 5) := by decide +kernel
theorem am_qL_268 : am_lp 268 = some (.ifCond .ne 15) := by decide +kernel
theorem am_qL_271 : am_lp 271 = some (.aload_n 3) := by decide +kernel
theorem am_qL_272 : am_lp 272 = some (.iconst 0) := by decide +kernel
theorem am_qL_273 : am_lp 273 = some (.laload) := by decide +kernel
theorem am_qL_274 : am_lp 274 = some (.iload 6) := by decide +kernel
theorem am_qL_276 : am_lp 276 = some (.i2l) := by decide +kernel
theorem am_qL_277 : am_lp 277 = some (.lcmp) := by decide +kernel
theorem am_qL_278 : am_lp 278 = some (.ifCond .eq 5) := by decide +kernel
theorem am_qL_281 : am_lp 281 = some (.iconst 0) := by decide +kernel
theorem am_qL_283 : am_lp 283 = some (.goto 66) := by decide +kernel
theorem am_qL_286 : am_lp 286 = some (.aload_n 1) := by decide +kernel
theorem am_qL_287 : am_lp 287 = some (.aload_n 0) := by decide +kernel
theorem am_qL_288 : am_lp 288 = some (.iload 4) := by decide +kernel
theorem am_qL_290 : am_lp 290 = some (.iconst 1) := by decide +kernel
theorem am_qL_291 : am_lp 291 = some (.iadd) := by decide +kernel
theorem am_qL_292 : am_lp 292 = some (.iaload) := by decide +kernel
theorem am_qL_293 : am_lq 293 = some (0, 14, 1, 0) := by decide +kernel
theorem am_qL_296 : am_lp 296 = some (.aload_n 2) := by decide +kernel
theorem am_qL_297 : am_lp 297 = some (.aload_n 0) := by decide +kernel
theorem am_qL_298 : am_lp 298 = some (.iload 4) := by decide +kernel
theorem am_qL_300 : am_lp 300 = some (.iconst 1) := by decide +kernel
theorem am_qL_301 : am_lp 301 = some (.iadd) := by decide +kernel
theorem am_qL_302 : am_lp 302 = some (.iaload) := by decide +kernel
theorem am_qL_303 : am_lq 303 = some (0, 298, 1, 9) := by decide +kernel
theorem am_qL_306 : am_lp 306 = some (.if_icmp .eq 43) := by decide +kernel
theorem am_qL_309 : am_lp 309 = some (.iconst 0) := by decide +kernel
theorem am_qL_311 : am_lp 311 = some (.aload_n 1) := by decide +kernel
theorem am_qL_312 : am_lp 312 = some (.aload_n 0) := by decide +kernel
theorem am_qL_313 : am_lp 313 = some (.iload 4) := by decide +kernel
theorem am_qL_315 : am_lp 315 = some (.iconst 1) := by decide +kernel
theorem am_qL_316 : am_lp 316 = some (.iadd) := by decide +kernel
theorem am_qL_317 : am_lp 317 = some (.iaload) := by decide +kernel
theorem am_qL_318 : am_lq 318 = some (0, 17, 1, 0) := by decide +kernel
theorem am_qL_321 : am_lp 321 = some (.aload_n 2) := by decide +kernel
theorem am_qL_322 : am_lp 322 = some (.aload_n 0) := by decide +kernel
theorem am_qL_323 : am_lp 323 = some (.iload 4) := by decide +kernel
theorem am_qL_325 : am_lp 325 = some (.iconst 1) := by decide +kernel
theorem am_qL_326 : am_lp 326 = some (.iadd) := by decide +kernel
theorem am_qL_327 : am_lp 327 = some (.iaload) := by decide +kernel
theorem am_qL_328 : am_lq 328 = some (0, 299, 1, 9) := by decide +kernel
theorem am_qL_331 : am_lp 331 = some (.if_icmp .eq 18) := by decide +kernel
theorem am_qL_334 : am_lp 334 = some (.iconst 0) := by decide +kernel
theorem am_qL_336 : am_lp 336 = some (.aload_n 1) := by decide +kernel
theorem am_qL_337 : am_lq 337 = some (0, 19, 0, 0) := by decide +kernel
theorem am_qL_340 : am_lp 340 = some (.aload_n 2) := by decide +kernel
theorem am_qL_341 : am_lq 341 = some (0, 300, 0, 9) := by decide +kernel
theorem am_qL_344 : am_lp 344 = some (.if_icmp .eq 5) := by decide +kernel
theorem am_qL_347 : am_lp 347 = some (.iconst 0) := by decide +kernel
theorem am_qL_349 : am_lp 349 = some (.iinc 4 4) := by decide +kernel
theorem am_qL_352 : am_lp 352 = some (.goto (-329)) := by decide +kernel
theorem am_qL_355 : am_lp 355 = some (.iconst 1) := by decide +kernel
