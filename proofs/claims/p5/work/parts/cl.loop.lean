/-! ===== THE LAW'S LOOP, printed by wip/gen/cm/gencl.py ===== -/
theorem qL_23 : am_fL0.lookup 23 = some (.iload 4) := by decide +kernel
theorem qL_25 : am_fL0.lookup 25 = some (.aload_n 0) := by decide +kernel
theorem qL_26 : am_fL0.lookup 26 = some (.arraylength) := by decide +kernel
theorem qL_27 : am_fL0.lookup 27 = some (.iconst 4) := by decide +kernel
theorem qL_28 : am_fL0.lookup 28 = some (.isub) := by decide +kernel
theorem qL_29 : am_fL0.lookup 29 = some (.if_icmp .gt 298) := by decide +kernel
theorem qL_32 : am_fL0.lookup 32 = some (.aload_n 0) := by decide +kernel
theorem qL_33 : am_fL0.lookup 33 = some (.iload 4) := by decide +kernel
theorem qL_35 : am_fL0.lookup 35 = some (.iaload) := by decide +kernel
theorem qL_36 : am_fL0.lookup 36 = some (.bipush 7) := by decide +kernel
theorem qL_38 : am_fL0.lookup 38 = some (.iand) := by decide +kernel
theorem qL_39 : am_fL0.lookup 39 = some (.tableswitch 282 0 6 #[41, 110, 126, 151, 219, 244, 269]) := by decide +kernel
theorem qL_80 : am_fL0.lookup 80 = some (.aload_n 1) := by decide +kernel
theorem qL_81 : am_fL0.lookup 81 = some (.aload_n 0) := by decide +kernel
theorem qL_82 : am_fL0.lookup 82 = some (.iload 4) := by decide +kernel
theorem qL_84 : am_fL0.lookup 84 = some (.iconst 1) := by decide +kernel
theorem qL_85 : am_fL0.lookup 85 = some (.iadd) := by decide +kernel
theorem qL_86 : am_fL0.lookup 86 = some (.iaload) := by decide +kernel
theorem qL_87 : am_fL0.lookup 87 = some (.i2l) := by decide +kernel
theorem qL_88 : am_fL0.lookup 88 = some (.bipush 32) := by decide +kernel
theorem qL_90 : am_fL0.lookup 90 = some (.lshl) := by decide +kernel
theorem qL_91 : am_fL0.lookup 91 = some (.aload_n 0) := by decide +kernel
theorem qL_92 : am_fL0.lookup 92 = some (.iload 4) := by decide +kernel
theorem qL_94 : am_fL0.lookup 94 = some (.iconst 2) := by decide +kernel
theorem qL_95 : am_fL0.lookup 95 = some (.iadd) := by decide +kernel
theorem qL_96 : am_fL0.lookup 96 = some (.iaload) := by decide +kernel
theorem qL_97 : am_fL0.lookup 97 = some (.i2l) := by decide +kernel
theorem qL_98 : am_fL0.lookup 98 = some (.ldc2_w 25) := by decide +kernel
theorem qL_101 : am_fL0.lookup 101 = some (.land) := by decide +kernel
theorem qL_102 : am_fL0.lookup 102 = some (.lor) := by decide +kernel
theorem qL_103 : am_fL0.lookup 103 = some (.aload_n 0) := by decide +kernel
theorem qL_104 : am_fL0.lookup 104 = some (.iload 4) := by decide +kernel
theorem qL_106 : am_fL0.lookup 106 = some (.iconst 3) := by decide +kernel
theorem qL_107 : am_fL0.lookup 107 = some (.iadd) := by decide +kernel
theorem qL_108 : am_fL0.lookup 108 = some (.iaload) := by decide +kernel
theorem qL_109 : am_fL0.lookup 109 = some (.invokevirtual 27) := by decide +kernel
theorem qL_112 : am_fL0.lookup 112 = some (.pop) := by decide +kernel
theorem qL_113 : am_fL0.lookup 113 = some (.aload_n 2) := by decide +kernel
theorem qL_114 : am_fL0.lookup 114 = some (.aload_n 0) := by decide +kernel
theorem qL_115 : am_fL0.lookup 115 = some (.iload 4) := by decide +kernel
theorem qL_117 : am_fL0.lookup 117 = some (.iconst 1) := by decide +kernel
theorem qL_118 : am_fL0.lookup 118 = some (.iadd) := by decide +kernel
theorem qL_119 : am_fL0.lookup 119 = some (.iaload) := by decide +kernel
theorem qL_120 : am_fL0.lookup 120 = some (.i2l) := by decide +kernel
theorem qL_121 : am_fL0.lookup 121 = some (.bipush 32) := by decide +kernel
theorem qL_123 : am_fL0.lookup 123 = some (.lshl) := by decide +kernel
theorem qL_124 : am_fL0.lookup 124 = some (.aload_n 0) := by decide +kernel
theorem qL_125 : am_fL0.lookup 125 = some (.iload 4) := by decide +kernel
theorem qL_127 : am_fL0.lookup 127 = some (.iconst 2) := by decide +kernel
theorem qL_128 : am_fL0.lookup 128 = some (.iadd) := by decide +kernel
theorem qL_129 : am_fL0.lookup 129 = some (.iaload) := by decide +kernel
theorem qL_130 : am_fL0.lookup 130 = some (.i2l) := by decide +kernel
theorem qL_131 : am_fL0.lookup 131 = some (.ldc2_w 25) := by decide +kernel
theorem qL_134 : am_fL0.lookup 134 = some (.land) := by decide +kernel
theorem qL_135 : am_fL0.lookup 135 = some (.lor) := by decide +kernel
theorem qL_136 : am_fL0.lookup 136 = some (.aload_n 0) := by decide +kernel
theorem qL_137 : am_fL0.lookup 137 = some (.iload 4) := by decide +kernel
theorem qL_139 : am_fL0.lookup 139 = some (.iconst 3) := by decide +kernel
theorem qL_140 : am_fL0.lookup 140 = some (.iadd) := by decide +kernel
theorem qL_141 : am_fL0.lookup 141 = some (.iaload) := by decide +kernel
theorem qL_142 : am_fL0.lookup 142 = some (.invokevirtual 31) := by decide +kernel
theorem qL_145 : am_fL0.lookup 145 = some (.pop) := by decide +kernel
theorem qL_146 : am_fL0.lookup 146 = some (.goto 175) := by decide +kernel
theorem qL_149 : am_fL0.lookup 149 = some (.aload_n 1) := by decide +kernel
theorem qL_150 : am_fL0.lookup 150 = some (.aload_n 3) := by decide +kernel
theorem qL_151 : am_fL0.lookup 151 = some (.invokestatic 32) := by decide +kernel
theorem qL_154 : am_fL0.lookup 154 = some (.istore 5) := by decide +kernel
theorem qL_156 : am_fL0.lookup 156 = some (.aload_n 2) := by decide +kernel
theorem qL_157 : am_fL0.lookup 157 = some (.invokevirtual 37) := by decide +kernel
theorem qL_160 : am_fL0.lookup 160 = some (.istore 6) := by decide +kernel
theorem qL_162 : am_fL0.lookup 162 = some (.goto 159) := by decide +kernel
theorem qL_165 : am_fL0.lookup 165 = some (.aload_n 1) := by decide +kernel
theorem qL_166 : am_fL0.lookup 166 = some (.aload_n 0) := by decide +kernel
theorem qL_167 : am_fL0.lookup 167 = some (.iload 4) := by decide +kernel
theorem qL_169 : am_fL0.lookup 169 = some (.iconst 1) := by decide +kernel
theorem qL_170 : am_fL0.lookup 170 = some (.iadd) := by decide +kernel
theorem qL_171 : am_fL0.lookup 171 = some (.iaload) := by decide +kernel
theorem qL_172 : am_fL0.lookup 172 = some (.invokevirtual 38) := by decide +kernel
theorem qL_175 : am_fL0.lookup 175 = some (.pop) := by decide +kernel
theorem qL_176 : am_fL0.lookup 176 = some (.aload_n 2) := by decide +kernel
theorem qL_177 : am_fL0.lookup 177 = some (.aload_n 0) := by decide +kernel
theorem qL_178 : am_fL0.lookup 178 = some (.iload 4) := by decide +kernel
theorem qL_180 : am_fL0.lookup 180 = some (.iconst 1) := by decide +kernel
theorem qL_181 : am_fL0.lookup 181 = some (.iadd) := by decide +kernel
theorem qL_182 : am_fL0.lookup 182 = some (.iaload) := by decide +kernel
theorem qL_183 : am_fL0.lookup 183 = some (.invokevirtual 42) := by decide +kernel
theorem qL_186 : am_fL0.lookup 186 = some (.pop) := by decide +kernel
theorem qL_187 : am_fL0.lookup 187 = some (.goto 134) := by decide +kernel
theorem qL_190 : am_fL0.lookup 190 = some (.aload_n 1) := by decide +kernel
theorem qL_191 : am_fL0.lookup 191 = some (.aload_n 0) := by decide +kernel
theorem qL_192 : am_fL0.lookup 192 = some (.iload 4) := by decide +kernel
theorem qL_194 : am_fL0.lookup 194 = some (.iconst 1) := by decide +kernel
theorem qL_195 : am_fL0.lookup 195 = some (.iadd) := by decide +kernel
theorem qL_196 : am_fL0.lookup 196 = some (.iaload) := by decide +kernel
theorem qL_197 : am_fL0.lookup 197 = some (.aload_n 0) := by decide +kernel
theorem qL_198 : am_fL0.lookup 198 = some (.iload 4) := by decide +kernel
theorem qL_200 : am_fL0.lookup 200 = some (.iconst 2) := by decide +kernel
theorem qL_201 : am_fL0.lookup 201 = some (.iadd) := by decide +kernel
theorem qL_202 : am_fL0.lookup 202 = some (.iaload) := by decide +kernel
theorem qL_203 : am_fL0.lookup 203 = some (.aload_n 3) := by decide +kernel
theorem qL_204 : am_fL0.lookup 204 = some (.invokestatic 43) := by decide +kernel
theorem qL_207 : am_fL0.lookup 207 = some (.istore 5) := by decide +kernel
theorem qL_209 : am_fL0.lookup 209 = some (.aload_n 2) := by decide +kernel
theorem qL_210 : am_fL0.lookup 210 = some (.aload_n 0) := by decide +kernel
theorem qL_211 : am_fL0.lookup 211 = some (.iload 4) := by decide +kernel
theorem qL_213 : am_fL0.lookup 213 = some (.iconst 1) := by decide +kernel
theorem qL_214 : am_fL0.lookup 214 = some (.iadd) := by decide +kernel
theorem qL_215 : am_fL0.lookup 215 = some (.iaload) := by decide +kernel
theorem qL_216 : am_fL0.lookup 216 = some (.aload_n 0) := by decide +kernel
theorem qL_217 : am_fL0.lookup 217 = some (.iload 4) := by decide +kernel
theorem qL_219 : am_fL0.lookup 219 = some (.iconst 2) := by decide +kernel
theorem qL_220 : am_fL0.lookup 220 = some (.iadd) := by decide +kernel
theorem qL_221 : am_fL0.lookup 221 = some (.iaload) := by decide +kernel
theorem qL_222 : am_fL0.lookup 222 = some (.invokevirtual 46) := by decide +kernel
theorem qL_225 : am_fL0.lookup 225 = some (.istore 6) := by decide +kernel
theorem qL_227 : am_fL0.lookup 227 = some (.aload_n 2) := by decide +kernel
theorem qL_228 : am_fL0.lookup 228 = some (.invokevirtual 47) := by decide +kernel
theorem qL_231 : am_fL0.lookup 231 = some (.iload 5) := by decide +kernel
theorem qL_233 : am_fL0.lookup 233 = some (.if_icmp .eq 5) := by decide +kernel
theorem qL_236 : am_fL0.lookup 236 = some (.iconst 0) := by decide +kernel
theorem qL_237 : am_fL0.lookup 237 = some (.ireturn) := by decide +kernel
theorem qL_238 : am_fL0.lookup 238 = some (.iload 5) := by decide +kernel
theorem qL_240 : am_fL0.lookup 240 = some (.ifCond .ne 15) := by decide +kernel
theorem qL_243 : am_fL0.lookup 243 = some (.aload_n 3) := by decide +kernel
theorem qL_244 : am_fL0.lookup 244 = some (.iconst 0) := by decide +kernel
theorem qL_245 : am_fL0.lookup 245 = some (.laload) := by decide +kernel
theorem qL_246 : am_fL0.lookup 246 = some (.iload 6) := by decide +kernel
theorem qL_248 : am_fL0.lookup 248 = some (.i2l) := by decide +kernel
theorem qL_249 : am_fL0.lookup 249 = some (.lcmp) := by decide +kernel
theorem qL_250 : am_fL0.lookup 250 = some (.ifCond .eq 5) := by decide +kernel
theorem qL_253 : am_fL0.lookup 253 = some (.iconst 0) := by decide +kernel
theorem qL_254 : am_fL0.lookup 254 = some (.ireturn) := by decide +kernel
theorem qL_255 : am_fL0.lookup 255 = some (.goto 66) := by decide +kernel
theorem qL_258 : am_fL0.lookup 258 = some (.aload_n 1) := by decide +kernel
theorem qL_259 : am_fL0.lookup 259 = some (.aload_n 0) := by decide +kernel
theorem qL_260 : am_fL0.lookup 260 = some (.iload 4) := by decide +kernel
theorem qL_262 : am_fL0.lookup 262 = some (.iconst 1) := by decide +kernel
theorem qL_263 : am_fL0.lookup 263 = some (.iadd) := by decide +kernel
theorem qL_264 : am_fL0.lookup 264 = some (.iaload) := by decide +kernel
theorem qL_265 : am_fL0.lookup 265 = some (.invokevirtual 50) := by decide +kernel
theorem qL_268 : am_fL0.lookup 268 = some (.pop) := by decide +kernel
theorem qL_269 : am_fL0.lookup 269 = some (.aload_n 2) := by decide +kernel
theorem qL_270 : am_fL0.lookup 270 = some (.aload_n 0) := by decide +kernel
theorem qL_271 : am_fL0.lookup 271 = some (.iload 4) := by decide +kernel
theorem qL_273 : am_fL0.lookup 273 = some (.iconst 1) := by decide +kernel
theorem qL_274 : am_fL0.lookup 274 = some (.iadd) := by decide +kernel
theorem qL_275 : am_fL0.lookup 275 = some (.iaload) := by decide +kernel
theorem qL_276 : am_fL0.lookup 276 = some (.invokevirtual 53) := by decide +kernel
theorem qL_279 : am_fL0.lookup 279 = some (.pop) := by decide +kernel
theorem qL_280 : am_fL0.lookup 280 = some (.goto 41) := by decide +kernel
theorem qL_283 : am_fL0.lookup 283 = some (.aload_n 1) := by decide +kernel
theorem qL_284 : am_fL0.lookup 284 = some (.aload_n 0) := by decide +kernel
theorem qL_285 : am_fL0.lookup 285 = some (.iload 4) := by decide +kernel
theorem qL_287 : am_fL0.lookup 287 = some (.iconst 1) := by decide +kernel
theorem qL_288 : am_fL0.lookup 288 = some (.iadd) := by decide +kernel
theorem qL_289 : am_fL0.lookup 289 = some (.iaload) := by decide +kernel
theorem qL_290 : am_fL0.lookup 290 = some (.invokevirtual 54) := by decide +kernel
theorem qL_293 : am_fL0.lookup 293 = some (.pop) := by decide +kernel
theorem qL_294 : am_fL0.lookup 294 = some (.aload_n 2) := by decide +kernel
theorem qL_295 : am_fL0.lookup 295 = some (.aload_n 0) := by decide +kernel
theorem qL_296 : am_fL0.lookup 296 = some (.iload 4) := by decide +kernel
theorem qL_298 : am_fL0.lookup 298 = some (.iconst 1) := by decide +kernel
theorem qL_299 : am_fL0.lookup 299 = some (.iadd) := by decide +kernel
theorem qL_300 : am_fL0.lookup 300 = some (.iaload) := by decide +kernel
theorem qL_301 : am_fL0.lookup 301 = some (.invokevirtual 57) := by decide +kernel
theorem qL_304 : am_fL0.lookup 304 = some (.pop) := by decide +kernel
theorem qL_305 : am_fL0.lookup 305 = some (.goto 16) := by decide +kernel
theorem qL_308 : am_fL0.lookup 308 = some (.aload_n 1) := by decide +kernel
theorem qL_309 : am_fL0.lookup 309 = some (.invokevirtual 58) := by decide +kernel
theorem qL_312 : am_fL0.lookup 312 = some (.pop) := by decide +kernel
theorem qL_313 : am_fL0.lookup 313 = some (.aload_n 2) := by decide +kernel
theorem qL_314 : am_fL0.lookup 314 = some (.invokevirtual 62) := by decide +kernel
theorem qL_317 : am_fL0.lookup 317 = some (.pop) := by decide +kernel
theorem qL_318 : am_fL0.lookup 318 = some (.goto 3) := by decide +kernel
theorem qL_321 : am_fL0.lookup 321 = some (.iinc 4 4) := by decide +kernel
theorem qL_324 : am_fL0.lookup 324 = some (.goto (-301)) := by decide +kernel
theorem qL_327 : am_fL0.lookup 327 = some (.iconst 1) := by decide +kernel
theorem qL_328 : am_fL0.lookup 328 = some (.ireturn) := by decide +kernel
theorem am_kl12 : am_kl 12 25 = some 4294967295 := by decide +kernel
theorem am_q27 : am_cal 12 (.invokevirtual 27) = some (0, 9, 2, 0) := by decide +kernel
theorem am_q31 : am_cal 12 (.invokevirtual 31) = some (0, 172, 2, 9) := by decide +kernel
theorem am_q37 : am_cal 12 (.invokevirtual 37) = some (0, 174, 0, 9) := by decide +kernel
theorem am_q38 : am_cal 12 (.invokevirtual 38) = some (0, 13, 1, 0) := by decide +kernel
theorem am_q42 : am_cal 12 (.invokevirtual 42) = some (0, 296, 1, 9) := by decide +kernel
theorem am_q46 : am_cal 12 (.invokevirtual 46) = some (0, 297, 2, 9) := by decide +kernel
theorem am_q47 : am_cal 12 (.invokevirtual 47) = some (0, 171, 0, 9) := by decide +kernel
theorem am_q50 : am_cal 12 (.invokevirtual 50) = some (0, 14, 1, 0) := by decide +kernel
theorem am_q53 : am_cal 12 (.invokevirtual 53) = some (0, 298, 1, 9) := by decide +kernel
theorem am_q54 : am_cal 12 (.invokevirtual 54) = some (0, 17, 1, 0) := by decide +kernel
theorem am_q57 : am_cal 12 (.invokevirtual 57) = some (0, 299, 1, 9) := by decide +kernel
theorem am_q58 : am_cal 12 (.invokevirtual 58) = some (0, 19, 0, 0) := by decide +kernel
theorem am_q62 : am_cal 12 (.invokevirtual 62) = some (0, 300, 0, 9) := by decide +kernel
section LOOP
variable {p : Program} {l : Launch} {e : Env} {s : State} {m : MethodId} {below : List Frame} {meth : Method} {c : Code} {b L : Nat} {xs : Nat → Int32} {D : va_G} {tys : List (ClassId × FieldType)} {ct ak : Nat → Nat} {n pc : Nat} {lv : am_L} {st : List Value} {h : List va_E}
theorem LG_ic (hC : LC p l s m meth c b L xs D tys ct ak) {cd : ClassFile.Cond} {off : Int} {x z : Int32} {bb : Bool} {t : Nat} (hi : am_fL0.lookup pc = some (.if_icmp cd off)) (hc : am_c cd x z = bb) (ht : am_to pc off = some t) (k : LG p l e s m below meth c b D ct ak n (cond bb t (pc + 3)) lv st h) : LG p l e s m below meth c b D ct ak n pc lv (.int z :: .int x :: st) h := by
  refine LG_st hC hi ?_ k
  show (am_to pc off).bind _ = _
  rw [ht, Option.bind_some, hc]
  cases bb <;> rfl
theorem LG_iz (hC : LC p l s m meth c b L xs D tys ct ak) {cd : ClassFile.Cond} {off : Int} {x : Int32} {bb : Bool} {t : Nat} (hi : am_fL0.lookup pc = some (.ifCond cd off)) (hc : am_c cd x 0 = bb) (ht : am_to pc off = some t) (k : LG p l e s m below meth c b D ct ak n (cond bb t (pc + 3)) lv st h) : LG p l e s m below meth c b D ct ak n pc lv (.int x :: st) h := by
  refine LG_st hC hi ?_ k
  show (am_to pc off).bind _ = _
  rw [ht, Option.bind_some, hc]
  cases bb <;> rfl
theorem LG_lk (hC : LC p l s m meth c b L xs D tys ct ak) {k : Nat} {v : Int64} (hi : am_fL0.lookup pc = some (.ldc2_w k)) (hk : am_kl 12 k = some v) (kk : LG p l e s m below meth c b D ct ak n (pc + 3) lv (.long v :: st) h) : LG p l e s m below meth c b D ct ak n pc lv st h := by
  refine LG_st hC hi ?_ kk
  show (am_kl 12 k).bind _ = _
  rw [hk]
  rfl
theorem LG_to (hC : LC p l s m meth c b L xs D tys ct ak) {dd lo hi : Int} {offs : Array Int} {x : Int32} {t : Nat} (hp : am_fL0.lookup pc = some (.tableswitch dd lo hi offs)) (ho : (decide (x.toInt < lo) || decide (hi < x.toInt)) = true) (ht : am_to pc dd = some t) (kk : LG p l e s m below meth c b D ct ak n t lv st h) : LG p l e s m below meth c b D ct ak n pc lv (.int x :: st) h := by
  refine LG_st hC hp ?_ kk
  show (am_to pc (if (decide (x.toInt < lo) || decide (hi < x.toInt)) = true then dd else _)).bind _ = _
  rw [if_pos ho, ht, Option.bind_some, if_pos]
  rw [ho]
  rfl
theorem LG_tw (hC : LC p l s m meth c b L xs D tys ct ak) {dd lo hi off : Int} {offs : Array Int} {x : Int32} {t : Nat} (hp : am_fL0.lookup pc = some (.tableswitch dd lo hi offs)) (ho : (decide (x.toInt < lo) || decide (hi < x.toInt)) = false) (hf : offs[(x.toInt - lo).toNat]? = some off) (ht : am_to pc off = some t) (kk : LG p l e s m below meth c b D ct ak n t lv st h) : LG p l e s m below meth c b D ct ak n pc lv (.int x :: st) h := by
  refine LG_st hC hp ?_ kk
  show (am_to pc (if (decide (x.toInt < lo) || decide (hi < x.toInt)) = true then dd else (offs[(x.toInt - lo).toNat]?).getD dd)).bind _ = _
  rw [ho, if_neg (by decide), hf, Option.getD_some, ht, Option.bind_some, if_pos]
  rfl
theorem LG_ia (hC : LC p l s m meth c b L xs D tys ct ak) {j : Int32} {q : Nat} (hi : am_fL0.lookup pc = some .iaload) (hj : j = Int32.ofInt (q : Int)) (hq : q < L) (hL : L ≤ 2048) (k : LG p l e s m below meth c b D ct ak n (pc + 1) lv (.int (xs q) :: st) h) : LG p l e s m below meth c b D ct ak n pc lv (.int j :: .ref 2000 :: st) h := by
  subst hj
  refine LG_st hC hi ?_ k
  show (if am_ok (Int32.ofInt (q : Int)) L = true then some (pc + 1, lv, .int (xs (Int32.ofInt (q : Int)).toNatClampNeg) :: st, h) else none) = _
  rw [if_pos (cm_okix (by omega) (by omega) (by omega)), cm_clamp (by omega) (by omega), Int.toNat_natCast]
theorem ix_c (k : Nat) (z : Nat) : Int32.ofNat (4 * k) + Int32.ofInt (z : Int) = Int32.ofInt (((4 * k + z : Nat)) : Int) := by
  show Int32.ofInt ((4 * k : Nat) : Int) + Int32.ofInt (z : Int) = _
  rw [← Int32.ofInt_add]
  rfl
abbrev lvI (k : Nat) : am_L := [(4, .int (Int32.ofNat (4 * k))), (3, .ref 72), (2, .ref 41), (1, .ref 0), (0, .ref 2000)]
def J (s r : cm_S) (h0 : List va_E) : Prop := FI s r ∧ cm_cs 0 41 s ∧ cm_cs 41 72 r ∧ okO h0
theorem okO_set {h0 : List va_E} (h : okO h0) (g : Nat → Int64) : okO (h0.set 72 (.inl (4, 1, .inr (.inl g)))) := ⟨by rw [List.length_set]; exact h.1, g, List.getElem?_set_self (by rw [h.1]; omega)⟩
/-- runs of both sides -/
theorem c_run {y : Nat} {as : List cm_V} {s s' r : cm_S} {v : Option cm_V} {h0 : List va_E} (hO : okO h0) (h : cm_sem y as s = some (.inl v, s')) (hA : jA 0 41 y as) (hd : dok y as) (hs : cm_cs 0 41 s) (hE : drk y as + 6 ≤ 400) : jRun 400 y (as.map cm_v) (cm_two s r h0) (.inl (v.map cm_v), cm_two s' r h0, 0, 0) ∧ cm_cs 0 41 s' := ⟨(two_c hO h hA hd hs hE).1, (two_c (r := r) hO h hA hd hs hE).2.1⟩
theorem c_thr {y : Nat} {as : List cm_V} {s s' r : cm_S} {ex : Nat} {h0 : List va_E} (hO : okO h0) (h : cm_sem y as s = some (.inr ex, s')) (hA : jA 0 41 y as) (hd : dok y as) (hs : cm_cs 0 41 s) (hE : drk y as + 6 ≤ 400) : jRun 400 y (as.map cm_v) (cm_two s r h0) (.inr ex, cm_two s' r h0, 1, 6) ∧ cm_cs 0 41 s' := ⟨(two_c hO h hA hd hs hE).1, (two_c (r := r) hO h hA hd hs hE).2.1⟩
theorem r_run {y : Nat} {as : List cm_V} {s r r' : cm_S} {v : Option cm_V} {h0 : List va_E} (hO : okO h0) (h : cm_sem y as r = some (.inl v, r')) (hA : jA 41 72 y as) (hd : dok y as) (hs : cm_cs 41 72 r) (hE : drk y as + 6 ≤ 400) : jRun 400 y (as.map cm_v) (cm_two s r h0) (.inl (v.map cm_v), cm_two s r' h0, 0, 0) ∧ cm_cs 41 72 r' := by
  obtain ⟨h1, h2⟩ := two_r (s := s) hO h hA hd hs hE
  refine ⟨?_, h2.1⟩
  have e : jR 41 72 (cm_mix 0 41 s h0) (.inl v, r') = (.inl (v.map cm_v), cm_two s r' h0, 0, 0) := by
    show (_, cm_mix 41 72 r' (cm_mix 0 41 s h0), 0, 0) = (_, cm_mix 0 41 s (cm_mix 41 72 r' h0), 0, 0)
    rw [mix_comm]
  rw [e] at h1
  exact h1
theorem jA_1 {lo hi a y : Nat} (hy : y < 301) (ht : jtxl y = none) (ha : lo ≤ a ∧ a < hi) : jA lo hi y [.inr (.inl a)] := by
  refine ⟨hy, ?_, fun k hk => (by rw [ht] at hk; cases hk)⟩
  intro v hv
  rcases List.mem_cons.mp hv with rfl | hv
  · exact Or.inl ha
  · cases hv
theorem jA_2 {lo hi a y : Nat} {x : Int} (hy : y < 301) (ht : jtxl y = none) (ha : lo ≤ a ∧ a < hi) (hx : cm_in x) : jA lo hi y [.inr (.inl a), .inl x] := by
  refine ⟨hy, ?_, fun k hk => (by rw [ht] at hk; cases hk)⟩
  intro v hv
  rcases List.mem_cons.mp hv with rfl | hv
  · exact Or.inl ha
  · rcases List.mem_cons.mp hv with rfl | hv
    · exact hx
    · cases hv
theorem jA_3 {lo hi a y : Nat} {x z : Int} (hy : y < 301) (ht : jtxl y = none) (ha : lo ≤ a ∧ a < hi) (hx : cm_in x) (hz : cm_in z) : jA lo hi y [.inr (.inl a), .inl x, .inl z] := by
  refine ⟨hy, ?_, fun k hk => (by rw [ht] at hk; cases hk)⟩
  intro v hv
  rcases List.mem_cons.mp hv with rfl | hv
  · exact Or.inl ha
  · rcases List.mem_cons.mp hv with rfl | hv
    · exact hx
    · rcases List.mem_cons.mp hv with rfl | hv
      · exact hz
      · cases hv
theorem dok_n {y : Nat} {as : List cm_V} (hy : y < 301) (h : dlo y = none) : dok y as := ⟨hy, fun k hk => by rw [h] at hk; cases hk⟩
theorem drk_n {y : Nat} {as : List cm_V} (h : dlo y = none) (hd : ds y + 6 ≤ 400) : drk y as + 6 ≤ 400 := by
  unfold drk
  rw [h]
  exact hd
theorem ofI (x : Int32) : Int32.ofInt x.toInt = x := Int32.ofInt_toInt x
/-! type keeps FI -/
theorem FI_keep {s r S R : cm_S} (h : FI s r) (e1 : ∀ k, k ≠ 101 → S.1 k = s.1 k) (e2 : ∀ q, q ≠ 2 → S.2 q = s.2 q) (f1 : ∀ k, k ≠ 4106 → k ≠ 4103 → R.1 k = r.1 k) (f2 : ∀ q, q ≠ 45 → R.2 q = r.2 q) (g1 : S.1 101 = R.1 4106) (g2 : 0 ≤ S.1 101 ∧ S.1 101 ≤ 480) (g3 : ∀ i, 0 ≤ i → i < S.1 101 → S.2 2 i = R.2 45 i ∧ okc (S.2 2 i)) : FI S R := by
  obtain ⟨⟨a, a', h6, h7, tt, hz, htr⟩, c0, c9, hth, hty, y0, y9, htp, hpr, p0, p9, hpt⟩ := h
  have q43 : R.1 4143 = r.1 4143 := f1 _ (by decide) (by decide)
  have q42 : R.1 4142 = r.1 4142 := f1 _ (by decide) (by decide)
  have q48 : R.1 4148 = r.1 4148 := f1 _ (by decide) (by decide)
  have q37 : S.1 3706 = s.1 3706 := e1 _ (by decide)
  have q67 : R.2 67 = r.2 67 := f2 _ (by decide)
  have q68 : R.2 68 = r.2 68 := f2 _ (by decide)
  have q38 : S.2 38 = s.2 38 := e2 _ (by decide)
  refine ⟨⟨a, a', (e1 6 (by decide)).trans h6, (e1 7 (by decide)).trans h7, tt, ?_, fun i i0 i1 => ?_⟩, by rw [q43]; exact c0, by rw [q43]; exact c9, by rw [q42, q43]; exact hth, g1, g2.1, g2.2, g3, by rw [q37, q48]; exact hpr, by rw [q37]; exact p0, by rw [q37]; exact p9, by rw [q37, q38, q68]; exact hpt⟩
  · rw [e1 _ (by omega), q43]
    exact hz
  · rw [q43] at i1
    have h1 := htr i i0 i1
    unfold trE at h1 ⊢
    rw [q67, e2 (a + 1) (by omega), e2 (a + 2) (by omega), e2 (a + 3) (by omega), e2 (a + 7) (by omega), e2 (a + 5) (by omega), e2 (a + 8) (by omega)]
    exact h1
theorem okc_ty {x : Int32} (h : am_ty x = true) : okc x.toInt := by
  unfold am_ty at h
  simp only [Bool.or_eq_true, Bool.and_eq_true, Bool.not_eq_true', decide_eq_false_iff_not, decide_eq_true_eq] at h
  have e32 : (32 : Int32).toInt = 32 := by decide
  have e126 : (126 : Int32).toInt = 126 := by decide
  rcases h with ⟨h1, h2⟩ | h | h | h
  · have h2 := Int32.le_iff_toInt_le.mp h2
    have h1 : ¬ x.toInt < (32 : Int32).toInt := fun z => h1 (Int32.lt_iff_toInt_lt.mpr z)
    right; right; right; omega
  · subst h; left; decide
  · subst h; right; left; decide
  · subst h; right; right; left; decide
theorem FI_ty {w : Int64} : ∀ (j t : Nat) (s r : cm_S), j ≤ 8 → t + j ≤ 480 → am_ok8 w j = true → s.1 101 = (t : Int) → FI s r → FI (tyS w j t s) (tyR w j t r)
  | 0, _, _, _, _, _, _, _, h => h
  | j + 1, t, s, r, hj, ht, hok, h1, h => by
    have hok2 : am_ty (am_cb w (am_lc (j + 1))) = true ∧ am_ok8 w j = true := by
      unfold am_ok8 at hok
      rwa [Bool.and_eq_true] at hok
    refine FI_ty j (t + 1) _ _ (by omega) (by omega) hok2.2 rfl ?_
    have htp := h.2.2.2.2.2.2.2.1
    generalize hcv : (am_cb w (am_lc (j + 1))).toInt = cv
    have hcc : okc cv := by rw [← hcv]; exact okc_ty hok2.1
    refine FI_keep h (fun k hk => ?_) (fun q hq => ?_) (fun k hk _ => ?_) (fun q hq => ?_) rfl ⟨?_, ?_⟩ (fun i i0 i1 => ?_)
    · show (if k = 101 then _ else s.1 k) = _
      rw [if_neg hk]
    · show (if q = 2 then _ else s.2 q) = _
      rw [if_neg hq]
    · show (if k = 4106 then _ else r.1 k) = _
      rw [if_neg hk]
    · show (if q = 45 then _ else r.2 q) = _
      rw [if_neg hq]
    · show (0 : Int) ≤ ((t + 1 : Nat) : Int)
      omega
    · show ((t + 1 : Nat) : Int) ≤ 480
      omega
    · have i1 : i < ((t + 1 : Nat) : Int) := i1
      show (if (2 : Nat) = 2 then (fun q => if q = (t : Int) then cv else s.2 2 q) else s.2 2) i = (if (45 : Nat) = 45 then (fun q => if q = (t : Int) then cv else r.2 45 q) else r.2 45) i ∧ okc ((if (2 : Nat) = 2 then (fun q => if q = (t : Int) then cv else s.2 2 q) else s.2 2) i)
      rw [if_pos rfl, if_pos rfl]
      by_cases hi : i = (t : Int)
      · simp only [if_pos hi]
        exact ⟨trivial, hcc⟩
      · simp only [if_neg hi]
        exact htp i i0 (by rw [h1]; omega)
theorem FI_z0 : FI z0 z0 := by
  refine ⟨⟨18, 27, rfl, rfl, Or.inl ⟨rfl, rfl⟩, rfl, fun i i0 i1 => ?_⟩, ?_, ?_, ?_, rfl, ?_, ?_, fun i i0 i1 => ?_, rfl, ?_, ?_, fun i i0 i1 => ?_⟩
  · exact absurd i1 (by show ¬ i < 0; omega)
  · show (0 : Int) ≤ 0; omega
  · show (0 : Int) ≤ 482; omega
  · rfl
  · show (0 : Int) ≤ 0; omega
  · show (0 : Int) ≤ 480; omega
  · exact absurd i1 (by show ¬ i < 0; omega)
  · show (0 : Int) ≤ 0; omega
  · show (0 : Int) ≤ 1024; omega
  · exact absurd i1 (by show ¬ i < 0; omega)
/-- the end of a round -/
theorem lw_tail (hC : LC p l s m meth c b L xs D tys ct ak) {k : Nat} {lv : am_L} {h : List va_E} (hi : lv.lookup 4 = some (.int (Int32.ofNat (4 * k)))) (hs : ∀ q ∈ lvI (k + 1), q ∈ am_sto lv 4 (.int (Int32.ofNat (4 * k) + Int32.ofInt 4))) (kk : LG p l e s m below meth c b D ct ak n 23 (lvI (k + 1)) [] h) : LG p l e s m below meth c b D ct ak n 321 lv [] h := by
  refine LG_st hC qL_321 (pc' := 324) (lv' := am_sto lv 4 (.int (Int32.ofNat (4 * k) + Int32.ofInt 4))) (st' := []) (h' := h) ?_ ?_
  · show am_gi lv 4 _ = _
    unfold am_gi
    rw [hi]
    rfl
  refine LG_st hC qL_324 rfl ?_
  exact LG_weak hs kk
theorem ix_n (k : Nat) : Int32.ofNat (4 * k) + Int32.ofInt 4 = Int32.ofNat (4 * (k + 1)) := by
  have h := ix_c k 4
  exact h
theorem sto_I (k : Nat) : ∀ q ∈ lvI (k + 1), q ∈ am_sto (lvI k) 4 (.int (Int32.ofNat (4 * k) + Int32.ofInt 4)) := by
  rw [ix_n]
  intro q hq
  exact hq
theorem sto_I2 (k : Nat) (x z : Int32) : ∀ q ∈ lvI (k + 1), q ∈ am_sto (am_sto (am_sto (lvI k) 5 (.int x)) 6 (.int z)) 4 (.int (Int32.ofNat (4 * k) + Int32.ofInt 4)) := by
  rw [ix_n, show am_sto (am_sto (am_sto (lvI k) 5 (.int x)) 6 (.int z)) 4 (.int (Int32.ofNat (4 * (k + 1)))) = [(4, .int (Int32.ofNat (4 * (k + 1)))), (6, .int z), (5, .int x), (3, .ref 72), (2, .ref 41), (1, .ref 0), (0, .ref 2000)] from rfl]
  intro q hq
  simp only [List.mem_cons, List.not_mem_nil, or_false] at hq ⊢
  rcases hq with h | h | h | h | h
  · exact Or.inl h
  · exact Or.inr (Or.inr (Or.inr (Or.inl h)))
  · exact Or.inr (Or.inr (Or.inr (Or.inr (Or.inl h))))
  · exact Or.inr (Or.inr (Or.inr (Or.inr (Or.inr (Or.inl h)))))
  · exact Or.inr (Or.inr (Or.inr (Or.inr (Or.inr (Or.inr h)))))
theorem lw_c0 (hC : LC p l s m meth c b L xs D tys ct ak) {k : Nat} (hL : L ≤ 2048) (hk : 4 * k + 4 ≤ L) {S R : cm_S} {h0 : List va_E} (hJ : J S R h0) (hih : ∀ (s' r' : cm_S) (h0' : List va_E), J s' r' h0' → LG p l e s m below meth c b D ct ak n 23 (lvI (k + 1)) [] (cm_two s' r' h0')) : LG p l e s m below meth c b D ct ak n 80 (lvI k) [] (cm_two S R h0) := by
  obtain ⟨hF, hcs, hcr, hO⟩ := id hJ
  have y0 := hF.2.2.2.2.2.1
  have y9 := hF.2.2.2.2.2.2.1
  have hts : S.1 101 = ((S.1 101).toNat : Int) := by omega
  have htr : R.1 4106 = ((S.1 101).toNat : Int) := by rw [← hF.2.2.2.2.1]; exact hts
  have ht : (S.1 101).toNat ≤ 480 := by omega
  generalize (S.1 101).toNat = t at hts htr ht
  have hend : ∀ (w : Int64) (nn : Int32), J (if am_tyv w nn t = true then tyS w nn.toNatClampNeg t S else S) (if am_tyv w nn t = true then tyR w nn.toNatClampNeg t (cm_p R 4103 0) else cm_p R 4103 0) h0 := by
    intro w nn
    by_cases hv : am_tyv w nn t = true
    · rw [if_pos hv, if_pos hv]
      obtain ⟨v1, v2, v3⟩ := tyv_n ht hv
      exact ⟨FI_ty _ _ _ _ v1 v2 v3 hts (FI_t hF 0), tyS_cs _ _ _ v1 v2 v3 hcs, tyR_cs _ _ _ v1 v2 v3 (p4103_cs hcr ⟨by omega, by omega⟩), hO⟩
    · rw [if_neg hv, if_neg hv]
      exact ⟨FI_t hF 0, hcs, p4103_cs hcr ⟨by omega, by omega⟩, hO⟩
  have hr1 := fun (w : Int64) (nn : Int32) => ty_c (r := R) hO (w := w) (n := nn) hts ht
  have hr2 := fun (w : Int64) (nn : Int32) (S' : cm_S) => ty_r (s := S') hO (w := w) (n := nn) htr ht
  refine LG_st hC qL_80 rfl ?_
  refine LG_st hC qL_81 rfl ?_
  refine LG_st hC qL_82 rfl ?_
  refine LG_st hC qL_84 rfl ?_
  refine LG_st hC qL_85 rfl ?_
  refine LG_ia hC qL_86 (q := 4 * k + 1) (ix_c k 1) (by omega) hL ?_
  refine LG_st hC qL_87 rfl ?_
  refine LG_st hC qL_88 rfl ?_
  refine LG_st hC qL_90 rfl ?_
  refine LG_st hC qL_91 rfl ?_
  refine LG_st hC qL_92 rfl ?_
  refine LG_st hC qL_94 rfl ?_
  refine LG_st hC qL_95 rfl ?_
  refine LG_ia hC qL_96 (q := 4 * k + 2) (ix_c k 2) (by omega) hL ?_
  refine LG_st hC qL_97 rfl ?_
  refine LG_lk hC qL_98 am_kl12 ?_
  refine LG_st hC qL_101 rfl ?_
  refine LG_st hC qL_102 rfl ?_
  refine LG_st hC qL_103 rfl ?_
  refine LG_st hC qL_104 rfl ?_
  refine LG_st hC qL_106 rfl ?_
  refine LG_st hC qL_107 rfl ?_
  refine LG_ia hC qL_108 (q := 4 * k + 3) (ix_c k 3) (by omega) hL ?_
  refine LG_call (w := ([.ref 0, .long _, .int _], [])) hC qL_109 am_q27 rfl rfl (Nat.le_of_ble_eq_true rfl) (fun _ => two_rc hJ.2.2.2) (hr1 _ _) ?_
  refine LG_pop hC qL_112 rfl ?_
  refine LG_st hC qL_113 rfl ?_
  refine LG_st hC qL_114 rfl ?_
  refine LG_st hC qL_115 rfl ?_
  refine LG_st hC qL_117 rfl ?_
  refine LG_st hC qL_118 rfl ?_
  refine LG_ia hC qL_119 (q := 4 * k + 1) (ix_c k 1) (by omega) hL ?_
  refine LG_st hC qL_120 rfl ?_
  refine LG_st hC qL_121 rfl ?_
  refine LG_st hC qL_123 rfl ?_
  refine LG_st hC qL_124 rfl ?_
  refine LG_st hC qL_125 rfl ?_
  refine LG_st hC qL_127 rfl ?_
  refine LG_st hC qL_128 rfl ?_
  refine LG_ia hC qL_129 (q := 4 * k + 2) (ix_c k 2) (by omega) hL ?_
  refine LG_st hC qL_130 rfl ?_
  refine LG_lk hC qL_131 am_kl12 ?_
  refine LG_st hC qL_134 rfl ?_
  refine LG_st hC qL_135 rfl ?_
  refine LG_st hC qL_136 rfl ?_
  refine LG_st hC qL_137 rfl ?_
  refine LG_st hC qL_139 rfl ?_
  refine LG_st hC qL_140 rfl ?_
  refine LG_ia hC qL_141 (q := 4 * k + 3) (ix_c k 3) (by omega) hL ?_
  refine LG_call (w := ([.ref 41, .long _, .int _], [])) hC qL_142 am_q31 rfl rfl (Nat.le_of_ble_eq_true rfl) (fun _ => two_rm hJ.2.2.2) (hr2 _ _ _) ?_
  refine LG_pop hC qL_145 rfl ?_
  refine LG_st hC qL_146 rfl ?_
  exact lw_tail hC rfl (sto_I k) (hih _ _ _ (hend _ _))
theorem LG_la (hC : LC p l s m meth c b L xs D tys ct ak) {g : Nat → Int64} (hi : am_fL0.lookup pc = some .laload) (ho : h[72]? = some (.inl (4, 1, .inr (.inl g)))) (k : LG p l e s m below meth c b D ct ak n (pc + 1) lv (.long (g 0) :: st) h) : LG p l e s m below meth c b D ct ak n pc lv (.int 0 :: .ref 72 :: st) h := by
  refine LG_st hC hi ?_ k
  show am_rowl h 72 _ = _
  unfold am_rowl
  rw [ho]
  rfl
theorem okO_at {s r : cm_S} {h0 : List va_E} {f : Nat → Int64} (h : okO h0) : (cm_two s r (h0.set 72 (.inl (4, 1, .inr (.inl f)))))[72]? = some (.inl (4, 1, .inr (.inl f))) := two_72.trans (List.getElem?_set_self (by rw [h.1]; omega))
theorem lcmp_0 (x : Int64) : am_c .eq (lg_cmp x x) 0 = true := by
  unfold lg_cmp
  rw [if_neg (by exact Int64.lt_irrefl), if_pos rfl]
  rfl
theorem lw_c1 (hC : LC p l s m meth c b L xs D tys ct ak) {k : Nat} (hL : L ≤ 2048) (hk : 4 * k + 4 ≤ L) {S R : cm_S} {h0 : List va_E} (hJ : J S R h0) (hih : ∀ (s' r' : cm_S) (h0' : List va_E), J s' r' h0' → LG p l e s m below meth c b D ct ak (n - 1) 23 (lvI (k + 1)) [] (cm_two s' r' h0')) (hn : 1 ≤ n) : LG p l e s m below meth c b D ct ak n 149 (lvI k) [] (cm_two S R h0) := by
  obtain ⟨hF, hcs, hcr, hO⟩ := id hJ
  obtain ⟨g, hg⟩ := hO.2
  have d20 : dlo 20 = none := by decide
  have d174 : dlo 174 = none := by decide
  have d171 : dlo 171 = none := by decide
  refine LG_st hC qL_149 rfl ?_
  refine LG_st hC qL_150 rfl ?_
  rcases both_parse hF with ⟨z, S', R', h1, h2, h3, hF2⟩ | ⟨z, S', R', h1, h2, h3, hF2⟩
  · obtain ⟨j1, c1⟩ := c_run (r := R) hO h1 (jA_1 (by decide) rfl ⟨by omega, by omega⟩) (dok_n (by decide) d20) hcs (drk_n d20 (by decide))
    have hO2 := okO_set hO (vp_updL g 0 (Int32.ofInt z).toInt64)
    have hz : cm_in z := (two_r (s := S') hO2 h2 (jA_1 (by decide) rfl ⟨by omega, by omega⟩) (dok_n (by decide) d174) hcr (drk_n d174 (by decide))).2.2 z rfl
    obtain ⟨j2, c2⟩ := r_run (s := S') hO2 h2 (jA_1 (by decide) rfl ⟨by omega, by omega⟩) (dok_n (by decide) d174) hcr (drk_n d174 (by decide))
    obtain ⟨j3, c3⟩ := r_run (s := S') hO2 (cS_171 R') (jA_1 (by decide) rfl ⟨by omega, by omega⟩) (dok_n (by decide) d171) c2 (drk_n d171 (by decide))
    refine LG_less (Nat.sub_le n 1) ?_
    refine LG_3R hC qL_151 (Nat.le_of_ble_eq_true rfl) (two_rc hO) j1 (by rw [two_len hO, two_len hO]; exact Nat.le_refl _) (two_72.trans hg) ?_
    rw [two_set]
    refine LG_st hC qL_154 rfl ?_
    refine LG_st hC qL_156 rfl ?_
    refine LG_call (w := ([.ref 41], [])) hC qL_157 am_q37 rfl rfl (Nat.le_of_ble_eq_true rfl) (fun _ => two_rm hO2) j2 ?_
    refine LG_st hC qL_160 rfl ?_
    refine LG_st hC qL_162 rfl ?_
    exact lw_tail hC rfl (sto_I2 k _ _) (hih _ _ _ ⟨hF2, c1, c2, hO2⟩)
  · obtain ⟨j1, c1⟩ := c_thr (r := R) hO h1 (jA_1 (by decide) rfl ⟨by omega, by omega⟩) (dok_n (by decide) d20) hcs (drk_n d20 (by decide))
    have hO2 := hO
    obtain ⟨j2, c2⟩ := r_run (s := S') hO2 h2 (jA_1 (by decide) rfl ⟨by omega, by omega⟩) (dok_n (by decide) d174) hcr (drk_n d174 (by decide))
    obtain ⟨j3, c3⟩ := r_run (s := S') hO2 (cS_171 R') (jA_1 (by decide) rfl ⟨by omega, by omega⟩) (dok_n (by decide) d171) c2 (drk_n d171 (by decide))
    obtain ⟨n, rfl⟩ : ∃ q, n = q + 1 := ⟨n - 1, by omega⟩
    refine LG_3T hC qL_151 (Nat.le_of_ble_eq_true rfl) (by rw [two_len hO]; rfl) (two_rc hO) j1 ?_
    refine LG_st hC qL_154 rfl ?_
    refine LG_st hC qL_156 rfl ?_
    refine LG_call (w := ([.ref 41], [])) hC qL_157 am_q37 rfl rfl (Nat.le_of_ble_eq_true rfl) (fun _ => two_rm hO2) j2 ?_
    refine LG_st hC qL_160 rfl ?_
    refine LG_st hC qL_162 rfl ?_
    exact lw_tail hC rfl (sto_I2 k _ _) (hih _ _ _ ⟨hF2, c1, c2, hO2⟩)
theorem lw_c2 (hC : LC p l s m meth c b L xs D tys ct ak) {k : Nat} (hL : L ≤ 2048) (hk : 4 * k + 4 ≤ L) {S R : cm_S} {h0 : List va_E} (hJ : J S R h0) (hih : ∀ (s' r' : cm_S) (h0' : List va_E), J s' r' h0' → LG p l e s m below meth c b D ct ak n 23 (lvI (k + 1)) [] (cm_two s' r' h0')) : LG p l e s m below meth c b D ct ak n 165 (lvI k) [] (cm_two S R h0) := by
  obtain ⟨hF, hcs, hcr, hO⟩ := id hJ
  have dA : dlo 13 = none := by decide
  have dB : dlo 296 = none := by decide
  obtain ⟨z, z', h1, h2, hF2⟩ := both_fault hF (xs (4 * k + 1)).toInt
  obtain ⟨j1, c1⟩ := c_run (r := R) hO h1 (jA_2 (by decide) rfl ⟨by omega, by omega⟩ (cm_in32 _)) (dok_n (by decide) dA) hcs (drk_n dA (by decide))
  obtain ⟨j2, c2⟩ := r_run (s := S) hO h2 (jA_2 (by decide) rfl ⟨by omega, by omega⟩ (cm_in32 _)) (dok_n (by decide) dB) hcr (drk_n dB (by decide))
  simp only [List.map_cons, List.map_nil, cm_v, ofI] at j1 j2
  refine LG_st hC qL_165 rfl ?_
  refine LG_st hC qL_166 rfl ?_
  refine LG_st hC qL_167 rfl ?_
  refine LG_st hC qL_169 rfl ?_
  refine LG_st hC qL_170 rfl ?_
  refine LG_ia hC qL_171 (q := 4 * k + 1) (ix_c k 1) (by omega) hL ?_
  refine LG_call (w := ([.ref 0, .int _], [])) hC qL_172 am_q38 rfl rfl (Nat.le_of_ble_eq_true rfl) (fun _ => two_rc hJ.2.2.2) j1 ?_
  refine LG_pop hC qL_175 rfl ?_
  refine LG_st hC qL_176 rfl ?_
  refine LG_st hC qL_177 rfl ?_
  refine LG_st hC qL_178 rfl ?_
  refine LG_st hC qL_180 rfl ?_
  refine LG_st hC qL_181 rfl ?_
  refine LG_ia hC qL_182 (q := 4 * k + 1) (ix_c k 1) (by omega) hL ?_
  refine LG_call (w := ([.ref 41, .int _], [])) hC qL_183 am_q42 rfl rfl (Nat.le_of_ble_eq_true rfl) (fun _ => two_rm hJ.2.2.2) j2 ?_
  refine LG_pop hC qL_186 rfl ?_
  refine LG_st hC qL_187 rfl ?_
  exact lw_tail hC rfl (sto_I k) (hih _ _ _ ⟨hF2, c1, c2, hO⟩)
theorem lw_c4 (hC : LC p l s m meth c b L xs D tys ct ak) {k : Nat} (hL : L ≤ 2048) (hk : 4 * k + 4 ≤ L) {S R : cm_S} {h0 : List va_E} (hJ : J S R h0) (hih : ∀ (s' r' : cm_S) (h0' : List va_E), J s' r' h0' → LG p l e s m below meth c b D ct ak n 23 (lvI (k + 1)) [] (cm_two s' r' h0')) : LG p l e s m below meth c b D ct ak n 258 (lvI k) [] (cm_two S R h0) := by
  obtain ⟨hF, hcs, hcr, hO⟩ := id hJ
  have dA : dlo 14 = none := by decide
  have dB : dlo 298 = none := by decide
  obtain ⟨z, h1, h2⟩ := both_many hF (xs (4 * k + 1)).toInt
  obtain ⟨j1, c1⟩ := c_run (r := R) hO h1 (jA_2 (by decide) rfl ⟨by omega, by omega⟩ (cm_in32 _)) (dok_n (by decide) dA) hcs (drk_n dA (by decide))
  obtain ⟨j2, c2⟩ := r_run (s := S) hO h2 (jA_2 (by decide) rfl ⟨by omega, by omega⟩ (cm_in32 _)) (dok_n (by decide) dB) hcr (drk_n dB (by decide))
  simp only [List.map_cons, List.map_nil, cm_v, ofI] at j1 j2
  refine LG_st hC qL_258 rfl ?_
  refine LG_st hC qL_259 rfl ?_
  refine LG_st hC qL_260 rfl ?_
  refine LG_st hC qL_262 rfl ?_
  refine LG_st hC qL_263 rfl ?_
  refine LG_ia hC qL_264 (q := 4 * k + 1) (ix_c k 1) (by omega) hL ?_
  refine LG_call (w := ([.ref 0, .int _], [])) hC qL_265 am_q50 rfl rfl (Nat.le_of_ble_eq_true rfl) (fun _ => two_rc hJ.2.2.2) j1 ?_
  refine LG_pop hC qL_268 rfl ?_
  refine LG_st hC qL_269 rfl ?_
  refine LG_st hC qL_270 rfl ?_
  refine LG_st hC qL_271 rfl ?_
  refine LG_st hC qL_273 rfl ?_
  refine LG_st hC qL_274 rfl ?_
  refine LG_ia hC qL_275 (q := 4 * k + 1) (ix_c k 1) (by omega) hL ?_
  refine LG_call (w := ([.ref 41, .int _], [])) hC qL_276 am_q53 rfl rfl (Nat.le_of_ble_eq_true rfl) (fun _ => two_rm hJ.2.2.2) j2 ?_
  refine LG_pop hC qL_279 rfl ?_
  refine LG_st hC qL_280 rfl ?_
  exact lw_tail hC rfl (sto_I k) (hih _ _ _ ⟨FI_t hF 0, c1, c2, hO⟩)
theorem lw_c5 (hC : LC p l s m meth c b L xs D tys ct ak) {k : Nat} (hL : L ≤ 2048) (hk : 4 * k + 4 ≤ L) {S R : cm_S} {h0 : List va_E} (hJ : J S R h0) (hih : ∀ (s' r' : cm_S) (h0' : List va_E), J s' r' h0' → LG p l e s m below meth c b D ct ak n 23 (lvI (k + 1)) [] (cm_two s' r' h0')) : LG p l e s m below meth c b D ct ak n 283 (lvI k) [] (cm_two S R h0) := by
  obtain ⟨hF, hcs, hcr, hO⟩ := id hJ
  have dA : dlo 17 = none := by decide
  have dB : dlo 299 = none := by decide
  obtain ⟨z, h1, h2⟩ := both_printed hF (xs (4 * k + 1)).toInt
  obtain ⟨j1, c1⟩ := c_run (r := R) hO h1 (jA_2 (by decide) rfl ⟨by omega, by omega⟩ (cm_in32 _)) (dok_n (by decide) dA) hcs (drk_n dA (by decide))
  obtain ⟨j2, c2⟩ := r_run (s := S) hO h2 (jA_2 (by decide) rfl ⟨by omega, by omega⟩ (cm_in32 _)) (dok_n (by decide) dB) hcr (drk_n dB (by decide))
  simp only [List.map_cons, List.map_nil, cm_v, ofI] at j1 j2
  refine LG_st hC qL_283 rfl ?_
  refine LG_st hC qL_284 rfl ?_
  refine LG_st hC qL_285 rfl ?_
  refine LG_st hC qL_287 rfl ?_
  refine LG_st hC qL_288 rfl ?_
  refine LG_ia hC qL_289 (q := 4 * k + 1) (ix_c k 1) (by omega) hL ?_
  refine LG_call (w := ([.ref 0, .int _], [])) hC qL_290 am_q54 rfl rfl (Nat.le_of_ble_eq_true rfl) (fun _ => two_rc hJ.2.2.2) j1 ?_
  refine LG_pop hC qL_293 rfl ?_
  refine LG_st hC qL_294 rfl ?_
  refine LG_st hC qL_295 rfl ?_
  refine LG_st hC qL_296 rfl ?_
  refine LG_st hC qL_298 rfl ?_
  refine LG_st hC qL_299 rfl ?_
  refine LG_ia hC qL_300 (q := 4 * k + 1) (ix_c k 1) (by omega) hL ?_
  refine LG_call (w := ([.ref 41, .int _], [])) hC qL_301 am_q57 rfl rfl (Nat.le_of_ble_eq_true rfl) (fun _ => two_rm hJ.2.2.2) j2 ?_
  refine LG_pop hC qL_304 rfl ?_
  refine LG_st hC qL_305 rfl ?_
  exact lw_tail hC rfl (sto_I k) (hih _ _ _ ⟨FI_t hF 0, c1, c2, hO⟩)
theorem lw_c6 (hC : LC p l s m meth c b L xs D tys ct ak) {k : Nat} (hL : L ≤ 2048) (hk : 4 * k + 4 ≤ L) {S R : cm_S} {h0 : List va_E} (hJ : J S R h0) (hih : ∀ (s' r' : cm_S) (h0' : List va_E), J s' r' h0' → LG p l e s m below meth c b D ct ak n 23 (lvI (k + 1)) [] (cm_two s' r' h0')) : LG p l e s m below meth c b D ct ak n 308 (lvI k) [] (cm_two S R h0) := by
  obtain ⟨hF, hcs, hcr, hO⟩ := id hJ
  have dA : dlo 19 = none := by decide
  have dB : dlo 300 = none := by decide
  obtain ⟨z, S', R', h1, h2, hF2⟩ := both_again hF
  obtain ⟨j1, c1⟩ := c_run (r := R) hO h1 (jA_1 (by decide) rfl ⟨by omega, by omega⟩) (dok_n (by decide) dA) hcs (drk_n dA (by decide))
  obtain ⟨j2, c2⟩ := r_run (s := S') hO h2 (jA_1 (by decide) rfl ⟨by omega, by omega⟩) (dok_n (by decide) dB) hcr (drk_n dB (by decide))
  refine LG_st hC qL_308 rfl ?_
  refine LG_call (w := ([.ref 0], [])) hC qL_309 am_q58 rfl rfl (Nat.le_of_ble_eq_true rfl) (fun _ => two_rc hJ.2.2.2) j1 ?_
  refine LG_pop hC qL_312 rfl ?_
  refine LG_st hC qL_313 rfl ?_
  refine LG_call (w := ([.ref 41], [])) hC qL_314 am_q62 rfl rfl (Nat.le_of_ble_eq_true rfl) (fun _ => two_rm hJ.2.2.2) j2 ?_
  refine LG_pop hC qL_317 rfl ?_
  refine LG_st hC qL_318 rfl ?_
  exact lw_tail hC rfl (sto_I k) (hih _ _ _ ⟨hF2, c1, c2, hO⟩)
theorem lw_c3 (hC : LC p l s m meth c b L xs D tys ct ak) {k : Nat} (hL : L ≤ 2048) (hk : 4 * k + 4 ≤ L) {S R : cm_S} {h0 : List va_E} (hJ : J S R h0) (hih : ∀ (s' r' : cm_S) (h0' : List va_E), J s' r' h0' → LG p l e s m below meth c b D ct ak (n - 1) 23 (lvI (k + 1)) [] (cm_two s' r' h0')) (hn : 1 ≤ n) : LG p l e s m below meth c b D ct ak n 190 (lvI k) [] (cm_two S R h0) := by
  obtain ⟨hF, hcs, hcr, hO⟩ := id hJ
  obtain ⟨g, hg⟩ := hO.2
  have d169 : dlo 169 = none := by decide
  have d297 : dlo 297 = none := by decide
  have d171 : dlo 171 = none := by decide
  refine LG_st hC qL_190 rfl ?_
  refine LG_st hC qL_191 rfl ?_
  refine LG_st hC qL_192 rfl ?_
  refine LG_st hC qL_194 rfl ?_
  refine LG_st hC qL_195 rfl ?_
  refine LG_ia hC qL_196 (q := 4 * k + 1) (ix_c k 1) (by omega) hL ?_
  refine LG_st hC qL_197 rfl ?_
  refine LG_st hC qL_198 rfl ?_
  refine LG_st hC qL_200 rfl ?_
  refine LG_st hC qL_201 rfl ?_
  refine LG_ia hC qL_202 (q := 4 * k + 2) (ix_c k 2) (by omega) hL ?_
  refine LG_st hC qL_203 rfl ?_
  rcases both_node hF (xs (4 * k + 1)).toInt (xs (4 * k + 2)).toInt with ⟨z, h1, h2⟩ | ⟨h1, h2⟩
  · obtain ⟨j1, c1⟩ := c_run (r := R) hO h1 (jA_3 (by decide) rfl ⟨by omega, by omega⟩ (cm_in32 _) (cm_in32 _)) (dok_n (by decide) d169) hcs (drk_n d169 (by decide))
    have hO2 := okO_set hO (vp_updL g 0 (Int32.ofInt z).toInt64)
    obtain ⟨j2, c2⟩ := r_run (s := S) hO2 h2 (jA_3 (by decide) rfl ⟨by omega, by omega⟩ (cm_in32 _) (cm_in32 _)) (dok_n (by decide) d297) hcr (drk_n d297 (by decide))
    obtain ⟨j3, c3⟩ := r_run (s := S) hO2 (cS_171 (cm_p R 4103 0)) (jA_1 (by decide) rfl ⟨by omega, by omega⟩) (dok_n (by decide) d171) c2 (drk_n d171 (by decide))
    simp only [List.map_cons, List.map_nil, cm_v, ofI] at j1 j2
    refine LG_less (Nat.sub_le n 1) ?_
    refine LG_4R hC qL_204 (Nat.le_of_ble_eq_true rfl) (two_rc hO) j1 (by rw [two_len hO]; exact Nat.le_refl _) (two_72.trans hg) ?_
    rw [two_set]
    refine LG_st hC qL_207 rfl ?_
    refine LG_st hC qL_209 rfl ?_
    refine LG_st hC qL_210 rfl ?_
    refine LG_st hC qL_211 rfl ?_
    refine LG_st hC qL_213 rfl ?_
    refine LG_st hC qL_214 rfl ?_
    refine LG_ia hC qL_215 (q := 4 * k + 1) (ix_c k 1) (by omega) hL ?_
    refine LG_st hC qL_216 rfl ?_
    refine LG_st hC qL_217 rfl ?_
    refine LG_st hC qL_219 rfl ?_
    refine LG_st hC qL_220 rfl ?_
    refine LG_ia hC qL_221 (q := 4 * k + 2) (ix_c k 2) (by omega) hL ?_
    refine LG_call (w := ([.ref 41, .int _, .int _], [])) hC qL_222 am_q46 rfl rfl (Nat.le_of_ble_eq_true rfl) (fun _ => two_rm hO2) j2 ?_
    refine LG_st hC qL_225 rfl ?_
    refine LG_st hC qL_227 rfl ?_
    refine LG_call (w := ([.ref 41], [])) hC qL_228 am_q47 rfl rfl (Nat.le_of_ble_eq_true rfl) (fun _ => two_rm hO2) j3 ?_
    refine LG_st hC qL_231 rfl ?_
    refine LG_ic hC qL_233 (bb := true) (t := 238) (by rw [cm_p_at]; decide) rfl ?_
    refine LG_st hC qL_238 rfl ?_
    refine LG_iz hC qL_240 (bb := false) (t := 255) (by decide) rfl ?_
    refine LG_st hC qL_243 rfl ?_
    refine LG_st hC qL_244 rfl ?_
    refine LG_la hC qL_245 (okO_at (r := cm_p R 4103 0) hO) ?_
    refine LG_st hC qL_246 rfl ?_
    refine LG_st hC qL_248 rfl ?_
    refine LG_st hC qL_249 rfl ?_
    refine LG_iz hC qL_250 (bb := true) (t := 255) (lcmp_0 _) rfl ?_
    refine LG_st hC qL_255 rfl ?_
    exact lw_tail hC rfl (sto_I2 k _ _) (hih _ _ _ ⟨FI_t hF 0, c1, c2, hO2⟩)
  · obtain ⟨j1, c1⟩ := c_thr (r := R) hO h1 (jA_3 (by decide) rfl ⟨by omega, by omega⟩ (cm_in32 _) (cm_in32 _)) (dok_n (by decide) d169) hcs (drk_n d169 (by decide))
    have hO2 := hO
    obtain ⟨j2, c2⟩ := r_run (s := S) hO2 h2 (jA_3 (by decide) rfl ⟨by omega, by omega⟩ (cm_in32 _) (cm_in32 _)) (dok_n (by decide) d297) hcr (drk_n d297 (by decide))
    obtain ⟨j3, c3⟩ := r_run (s := S) hO2 (cS_171 (cm_p R 4103 1)) (jA_1 (by decide) rfl ⟨by omega, by omega⟩) (dok_n (by decide) d171) c2 (drk_n d171 (by decide))
    simp only [List.map_cons, List.map_nil, cm_v, ofI] at j1 j2
    obtain ⟨n, rfl⟩ : ∃ q, n = q + 1 := ⟨n - 1, by omega⟩
    refine LG_4T hC qL_204 (Nat.le_of_ble_eq_true rfl) (by rw [two_len hO]; rfl) (two_rc hO) j1 ?_
    refine LG_st hC qL_207 rfl ?_
    refine LG_st hC qL_209 rfl ?_
    refine LG_st hC qL_210 rfl ?_
    refine LG_st hC qL_211 rfl ?_
    refine LG_st hC qL_213 rfl ?_
    refine LG_st hC qL_214 rfl ?_
    refine LG_ia hC qL_215 (q := 4 * k + 1) (ix_c k 1) (by omega) hL ?_
    refine LG_st hC qL_216 rfl ?_
    refine LG_st hC qL_217 rfl ?_
    refine LG_st hC qL_219 rfl ?_
    refine LG_st hC qL_220 rfl ?_
    refine LG_ia hC qL_221 (q := 4 * k + 2) (ix_c k 2) (by omega) hL ?_
    refine LG_call (w := ([.ref 41, .int _, .int _], [])) hC qL_222 am_q46 rfl rfl (Nat.le_of_ble_eq_true rfl) (fun _ => two_rm hO2) j2 ?_
    refine LG_st hC qL_225 rfl ?_
    refine LG_st hC qL_227 rfl ?_
    refine LG_call (w := ([.ref 41], [])) hC qL_228 am_q47 rfl rfl (Nat.le_of_ble_eq_true rfl) (fun _ => two_rm hO2) j3 ?_
    refine LG_st hC qL_231 rfl ?_
    refine LG_ic hC qL_233 (bb := true) (t := 238) (by rw [cm_p_at]; decide) rfl ?_
    refine LG_st hC qL_238 rfl ?_
    refine LG_iz hC qL_240 (bb := true) (t := 255) (by decide) rfl ?_
    refine LG_st hC qL_255 rfl ?_
    exact lw_tail hC rfl (sto_I2 k _ _) (hih _ _ _ ⟨FI_t hF 1, c1, c2, hO2⟩)
theorem and7 (v : Int32) : ∃ k, k < 8 ∧ v &&& (Int8.ofInt 7).toInt32 = Int32.ofNat k := by
  rw [show (Int8.ofInt 7).toInt32 = (7 : Int32) from by decide +kernel]
  refine ⟨(v &&& 7).toBitVec.toNat, ?_, ?_⟩
  · rw [Int32.toBitVec_and, BitVec.toNat_and]
    exact Nat.lt_succ_of_le (Nat.and_le_right (n := v.toBitVec.toNat) (m := 7))
  · apply Int32.toBitVec_inj.mp
    rw [Int32.toBitVec_ofNat', BitVec.ofNat_toNat, BitVec.setWidth_eq]
/-- THE LOOP -/
theorem lw_loop (hC : LC p l s m meth c b L xs D tys ct ak) (hL : L ≤ 2048) : ∀ (n k : Nat) (S R : cm_S) (h0 : List va_E), J S R h0 → 4 * (k + n) ≤ L → L < 4 * (k + n) + 4 → LG p l e s m below meth c b D ct ak n 23 (lvI k) [] (cm_two S R h0) := by
  have hgt : ∀ k : Nat, 4 * k ≤ L → am_c .gt (Int32.ofNat (4 * k)) (Int32.ofNat L - Int32.ofInt 4) = decide (L < 4 * k + 4) := by
    intro k hk
    show decide (Int32.ofNat L - Int32.ofInt 4 < Int32.ofNat (4 * k)) = _
    have e : Int32.ofNat L - Int32.ofInt 4 = Int32.ofInt ((L : Int) - 4) := by
      show Int32.ofInt (L : Int) - Int32.ofInt 4 = _
      rw [← Int32.ofInt_sub]
    have h1 : (Int32.ofNat L - Int32.ofInt 4 < Int32.ofNat (4 * k)) ↔ L < 4 * k + 4 := by
      rw [e]
      show Int32.ofInt ((L : Int) - 4) < Int32.ofInt ((4 * k : Nat) : Int) ↔ _
      rw [cm_lt32 ⟨by omega, by omega⟩ ⟨by omega, by omega⟩]
      omega
    simp only [h1]
  intro n
  induction n with
  | zero =>
    intro k S R h0 hJ h1 h2
    refine LG_st hC qL_23 rfl ?_
    refine LG_st hC qL_25 rfl ?_
    refine LG_st hC qL_26 rfl ?_
    refine LG_st hC qL_27 rfl ?_
    refine LG_st hC qL_28 rfl ?_
    refine LG_ic hC qL_29 (bb := true) (t := 327) ((hgt k (by omega)).trans (decide_eq_true (by omega))) rfl ?_
    refine LG_st hC qL_327 rfl ?_
    exact LG_end hC qL_328
  | succ n ih =>
    intro k S R h0 hJ h1 h2
    have hih : ∀ (s' r' : cm_S) (h0' : List va_E), J s' r' h0' → LG p l e s m below meth c b D ct ak n 23 (lvI (k + 1)) [] (cm_two s' r' h0') := fun s' r' h0' hJ' => ih (k + 1) s' r' h0' hJ' (by omega) (by omega)
    have hih1 : ∀ (s' r' : cm_S) (h0' : List va_E), J s' r' h0' → LG p l e s m below meth c b D ct ak (n + 1) 23 (lvI (k + 1)) [] (cm_two s' r' h0') := fun s' r' h0' hJ' => LG_less (Nat.le_succ n) (hih s' r' h0' hJ')
    refine LG_st hC qL_23 rfl ?_
    refine LG_st hC qL_25 rfl ?_
    refine LG_st hC qL_26 rfl ?_
    refine LG_st hC qL_27 rfl ?_
    refine LG_st hC qL_28 rfl ?_
    refine LG_ic hC qL_29 (bb := false) (t := 327) ((hgt k (by omega)).trans (decide_eq_false (by omega))) rfl ?_
    refine LG_st hC qL_32 rfl ?_
    refine LG_st hC qL_33 rfl ?_
    refine LG_ia hC qL_35 (q := 4 * k) rfl (by omega) hL ?_
    refine LG_st hC qL_36 rfl ?_
    refine LG_st hC qL_38 rfl ?_
    obtain ⟨q, hq, eq⟩ := and7 (xs (4 * k))
    show LG p l e s m below meth c b D ct ak (n + 1) 39 (lvI k) [.int (xs (4 * k) &&& (Int8.ofInt 7).toInt32)] (cm_two S R h0)
    rw [eq]
    match q, hq with
    | 0, _ => exact LG_tw hC qL_39 (off := 41) (t := 80) (by decide) (by decide) (by decide) (lw_c0 hC hL (by omega) hJ hih1)
    | 1, _ => exact LG_tw hC qL_39 (off := 110) (t := 149) (by decide) (by decide) (by decide) (lw_c1 hC hL (by omega) hJ hih (by omega))
    | 2, _ => exact LG_tw hC qL_39 (off := 126) (t := 165) (by decide) (by decide) (by decide) (lw_c2 hC hL (by omega) hJ hih1)
    | 3, _ => exact LG_tw hC qL_39 (off := 151) (t := 190) (by decide) (by decide) (by decide) (lw_c3 hC hL (by omega) hJ hih (by omega))
    | 4, _ => exact LG_tw hC qL_39 (off := 219) (t := 258) (by decide) (by decide) (by decide) (lw_c4 hC hL (by omega) hJ hih1)
    | 5, _ => exact LG_tw hC qL_39 (off := 244) (t := 283) (by decide) (by decide) (by decide) (lw_c5 hC hL (by omega) hJ hih1)
    | 6, _ => exact LG_tw hC qL_39 (off := 269) (t := 308) (by decide) (by decide) (by decide) (lw_c6 hC hL (by omega) hJ hih1)
    | 7, _ => exact LG_to hC qL_39 (t := 321) (by decide) (by decide) (lw_tail hC rfl (sto_I k) (hih1 S R h0 hJ))
end LOOP
