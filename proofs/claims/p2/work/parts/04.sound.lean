section AM1
variable {p : Program} {l : Launch} {e : Env} {R : Room} {s : State} {m : MethodId} {args : Array Value} {below : List Frame} {meth : Method} {c : Code} {H : Heap} {locs : List Loc} {cells slots : Nat} {Q : State → Prop}
variable {cc : ByteArray} {D : va_G} {cl : List vw_C} {A : Nat → Prop} {tys : List (ClassId × FieldType)} {ad ct : Nat → Nat} {Ts : List Jvm.Cond} {own : String}
variable {fl : Nat → Option (Nat × Nat × FieldType × Bool)} {kc : Nat → Option Value} {kl : Nat → Option Int64} {gs : Nat → Option Value} {ro : Nat → Option (Nat × (Nat → Int32))} {ini : Bool} {nL : Nat}
theorem am_pick (P : Nat → Prop) {b : Bool} {t u : Nat} (k : P (if b = true then t else u)) : (b = true → P t) ∧ (¬ b = true → P u) := ⟨fun q => by rw [if_pos q] at k; exact k, fun q => by rw [if_neg q] at k; exact k⟩
set_option maxHeartbeats 4000000 in
set_option maxRecDepth 20000 in
theorem am_step_ok (hx : p.tables.exec = Jvm.exec) (hb : c.code = cc) (hts : ∀ w ∈ Ts, w.before args s = true) (hown : s.vm.findClass own = some m.cls) (hK : va_K D cl tys s)
    (hFL : am_FL fl own cl Ts) (hKC : am_KC kc own ad Ts s) (hKL : am_KL kl own Ts) (hGS : am_GS gs own ad A Ts s) (hRO : am_RO ro ad A s) (hTY : am_TY tys ct) (hin : ini = true → meth.name = "<init>")
    {i : Instr} {pc pc' : Nat} {lv lv' : am_L} {st st' : List Value} {h h' : List va_E} {ls : Array Slot} (hst : am_step fl kc kl gs ro ini nL i pc lv st h = some (pc', lv', st', h'))
    (hd0 : ∃ n, decode cc pc = .ok (i, n) ∧ (am_len i ≠ 0 → n = am_len i)) (hP : va_P D cl (am_ws ad ct h) H) (hD : va_D A (am_ws ad ct h)) (hS : va_S A s.heap H locs) (hl : lv_has ls nL (am_lv ad lv))
    (kk : ∀ (H' : Heap) (locs' : List Loc) (ls' : Array Slot), va_P D cl (am_ws ad ct h') H' → va_D A (am_ws ad ct h') → va_S A s.heap H' locs' → lv_has ls' nL (am_lv ad lv') → W p l e R s m args below meth c H' locs' cells slots Q (F0 m pc' ls' (st'.map (am_tv ad)))) :
    W p l e R s m args below meth c H locs cells slots Q (F0 m pc ls (st.map (am_tv ad))) := by
  obtain ⟨n, hd, hn⟩ := hd0
  unfold am_step at hst
  split at hst
  -- iconst .. lconst
  · cases hst; cases hn (by simp [am_len]); exact lv_iconst hx hb hd rfl (kk H locs ls hP hD hS hl)
  · cases hst; cases hn (by simp [am_len]); exact lv_bipush hx hb hd rfl (kk H locs ls hP hD hS hl)
  · cases hst; cases hn (by simp [am_len]); exact lv_sipush hx hb hd rfl (kk H locs ls hP hD hS hl)
  · cases hst; cases hn (by simp [am_len]); exact lv_lconst hx hb hd rfl (kk H locs ls hP hD hS hl)
  -- loads
  · obtain ⟨x, e1, h2⟩ := am_gi_eq hst; cases h2; cases hn (by simp [am_len]); obtain ⟨k, hk⟩ := am_look (ad := ad) e1; exact lv_iload hx hb hd (lv_at hl k hk) (kk H locs ls hP hD hS hl)
  · obtain ⟨x, e1, h2⟩ := am_gi_eq hst; cases h2; cases hn (by simp [am_len]); obtain ⟨k, hk⟩ := am_look (ad := ad) e1; exact lv_iload_n hx hb hd rfl (lv_at hl k hk) (kk H locs ls hP hD hS hl)
  · obtain ⟨x, e1, h2⟩ := am_gl_eq hst; cases h2; cases hn (by simp [am_len]); obtain ⟨k, hk⟩ := am_look (ad := ad) e1; exact lv_lload_n hx hb hd rfl (lv_at hl k hk) (kk H locs ls hP hD hS hl)
  · obtain ⟨x, e1, h2⟩ := am_gr_eq hst; cases h2; cases hn (by simp [am_len]); obtain ⟨k, hk⟩ := am_look (ad := ad) e1; exact lv_aload hx hb hd (lv_at hl k hk) (kk H locs ls hP hD hS hl)
  · obtain ⟨x, e1, h2⟩ := am_gr_eq hst; cases h2; cases hn (by simp [am_len]); obtain ⟨k, hk⟩ := am_look (ad := ad) e1; exact lv_aload_n hx hb hd rfl (lv_at hl k hk) (kk H locs ls hP hD hS hl)
  -- stores
  · obtain ⟨x, r, rfl, h2⟩ := am_i1_eq hst; obtain ⟨h3, h4⟩ := am_if h2; cases h4; cases hn (by simp [am_len]); exact lv_istore hx hb hd hl (of_decide_eq_true h3) (am_sto_lv ad lv _ (.int x)) (fun ls' hl' => kk H locs ls' hP hD hS hl')
  · obtain ⟨x, r, rfl, h2⟩ := am_i1_eq hst; obtain ⟨h3, h4⟩ := am_if h2; cases h4; cases hn (by simp [am_len]); exact lv_istore_n hx hb hd rfl hl (of_decide_eq_true h3) (am_sto_lv ad lv _ (.int x)) (fun ls' hl' => kk H locs ls' hP hD hS hl')
  · obtain ⟨x, r, rfl, h2⟩ := am_l1_eq hst; obtain ⟨h3, h4⟩ := am_if h2; cases h4; cases hn (by simp [am_len]); exact lv_lstore_n hx hb hd rfl hl (of_decide_eq_true h3) (am_sto2_lv ad lv _ (.long x)) (fun ls' hl' => kk H locs ls' hP hD hS hl')
  · obtain ⟨x, r, rfl, h2⟩ := am_r1_eq hst; obtain ⟨h3, h4⟩ := am_if h2; cases h4; cases hn (by simp [am_len]); exact lv_astore hx hb hd hl (of_decide_eq_true h3) (am_sto_lv ad lv _ (.ref x)) (fun ls' hl' => kk H locs ls' hP hD hS hl')
  · obtain ⟨x, r, rfl, h2⟩ := am_r1_eq hst; obtain ⟨h3, h4⟩ := am_if h2; cases h4; cases hn (by simp [am_len]); exact lv_astore_n hx hb hd rfl hl (of_decide_eq_true h3) (am_sto_lv ad lv _ (.ref x)) (fun ls' hl' => kk H locs ls' hP hD hS hl')
  · obtain ⟨x, e1, h2⟩ := am_gi_eq hst; obtain ⟨h3, h4⟩ := am_if h2; cases h4; cases hn (by simp [am_len]); obtain ⟨k, hk⟩ := am_look (ad := ad) e1; exact lv_iinc hx hb hd hl hk rfl (of_decide_eq_true h3) (am_sto_lv ad lv _ (.int _)) (fun ls' hl' => kk H locs ls' hP hD hS hl')
  -- ints
  · obtain ⟨x, y, r, rfl, h2⟩ := am_i2_eq hst; cases h2; cases hn (by simp [am_len]); exact lv_iadd hx hb hd (kk H locs ls hP hD hS hl)
  · obtain ⟨x, y, r, rfl, h2⟩ := am_i2_eq hst; cases h2; cases hn (by simp [am_len]); exact lv_isub hx hb hd (kk H locs ls hP hD hS hl)
  · obtain ⟨x, y, r, rfl, h2⟩ := am_i2_eq hst; cases h2; cases hn (by simp [am_len]); exact lv_imul hx hb hd (kk H locs ls hP hD hS hl)
  · obtain ⟨x, y, r, rfl, h2⟩ := am_i2_eq hst; cases h2; cases hn (by simp [am_len]); exact lv_iand hx hb hd (kk H locs ls hP hD hS hl)
  · obtain ⟨x, y, r, rfl, h2⟩ := am_i2_eq hst; cases h2; cases hn (by simp [am_len]); exact lv_ior hx hb hd (kk H locs ls hP hD hS hl)
  · obtain ⟨x, y, r, rfl, h2⟩ := am_i2_eq hst; cases h2; cases hn (by simp [am_len]); exact lv_ishl hx hb hd (kk H locs ls hP hD hS hl)
  · obtain ⟨x, y, r, rfl, h2⟩ := am_i2_eq hst; cases h2; cases hn (by simp [am_len]); exact lv_ishr hx hb hd (kk H locs ls hP hD hS hl)
  -- longs
  · obtain ⟨x, y, r, rfl, h2⟩ := am_l2_eq hst; cases h2; cases hn (by simp [am_len]); exact lv_ladd hx hb hd (kk H locs ls hP hD hS hl)
  · obtain ⟨x, y, r, rfl, h2⟩ := am_l2_eq hst; cases h2; cases hn (by simp [am_len]); exact lv_lsub hx hb hd (kk H locs ls hP hD hS hl)
  · obtain ⟨x, y, r, rfl, h2⟩ := am_l2_eq hst; cases h2; cases hn (by simp [am_len]); exact lv_lmul hx hb hd (kk H locs ls hP hD hS hl)
  · obtain ⟨x, y, r, rfl, h2⟩ := am_l2_eq hst; cases h2; cases hn (by simp [am_len]); exact lv_land hx hb hd (kk H locs ls hP hD hS hl)
  · obtain ⟨x, y, r, rfl, h2⟩ := am_l2_eq hst; cases h2; cases hn (by simp [am_len]); exact lv_lor hx hb hd (kk H locs ls hP hD hS hl)
  · obtain ⟨x, y, r, rfl, h2⟩ := am_li_eq hst; cases h2; cases hn (by simp [am_len]); exact lv_lshl hx hb hd rfl (kk H locs ls hP hD hS hl)
  · obtain ⟨x, y, r, rfl, h2⟩ := am_li_eq hst; cases h2; cases hn (by simp [am_len]); exact lv_lshr hx hb hd rfl (kk H locs ls hP hD hS hl)
  · obtain ⟨x, y, r, rfl, h2⟩ := am_li_eq hst; cases h2; cases hn (by simp [am_len]); exact lv_lushr hx hb hd rfl (kk H locs ls hP hD hS hl)
  · obtain ⟨x, r, rfl, h2⟩ := am_i1_eq hst; cases h2; cases hn (by simp [am_len]); exact lv_i2l hx hb hd rfl (kk H locs ls hP hD hS hl)
  · obtain ⟨x, r, rfl, h2⟩ := am_l1_eq hst; cases h2; cases hn (by simp [am_len]); exact lv_l2i hx hb hd rfl (kk H locs ls hP hD hS hl)
  · obtain ⟨x, r, rfl, h2⟩ := am_i1_eq hst; cases h2; cases hn (by simp [am_len]); exact lv_i2c hx hb hd rfl (kk H locs ls hP hD hS hl)
  · obtain ⟨x, r, rfl, h2⟩ := am_i1_eq hst; cases h2; cases hn (by simp [am_len]); exact lv_i2b hx hb hd rfl (kk H locs ls hP hD hS hl)
  · obtain ⟨x, y, r, rfl, h2⟩ := am_l2_eq hst; cases h2; cases hn (by simp [am_len]); exact W.lcmp hx hb hd (kk H locs ls hP hD hS hl)
  -- dup, dup2
  · split at hst
    · obtain ⟨h3, h4⟩ := am_if hst; cases h4; cases hn (by simp [am_len]); exact lv_dup hx hb hd ((am_tv_cat ad _).trans (of_decide_eq_true h3)) (kk H locs ls hP hD hS hl)
    · cases hst
  · split at hst
    · obtain ⟨h3, h4⟩ := am_if hst; cases h4; cases hn (by simp [am_len])
      rw [Bool.and_eq_true] at h3
      exact lv_dup2_11 hx hb hd ((am_tv_cat ad _).trans (of_decide_eq_true h3.1)) ((am_tv_cat ad _).trans (of_decide_eq_true h3.2)) (kk H locs ls hP hD hS hl)
    · cases hst
  -- goto
  · obtain ⟨t, ht, h2⟩ := Option.bind_eq_some_iff.mp hst; cases h2; cases hn (by simp [am_len]); exact lv_goto hx hb hd (am_to_eq ht) (kk H locs ls hP hD hS hl)
  -- ifCond
  · obtain ⟨x, r, rfl, h2⟩ := am_i1_eq hst
    obtain ⟨t, ht, h3⟩ := Option.bind_eq_some_iff.mp h2; cases h3; cases hn (by simp [am_len])
    have k1 := am_pick (fun z => W p l e R s m args below meth c H locs cells slots Q (F0 m z ls (List.map (am_tv ad) st'))) (kk H locs ls hP hD hS hl)
    rename_i cnd off
    cases cnd
    · exact lv_if_eq hx hb hd (am_to_eq ht) (fun q => k1.1 (decide_eq_true q)) (fun q => k1.2 (fun z => q (of_decide_eq_true z)))
    · exact lv_if_ne hx hb hd (am_to_eq ht) (fun q => k1.1 (decide_eq_true q)) (fun q => k1.2 (fun z => (of_decide_eq_true z) q))
    · exact lv_if_lt hx hb hd (am_to_eq ht) (fun q => k1.1 (decide_eq_true q)) (fun q => k1.2 (fun z => q (of_decide_eq_true z)))
    · exact lv_if_ge hx hb hd (am_to_eq ht) (fun q => k1.1 (decide_eq_true q)) (fun q => k1.2 (fun z => q (of_decide_eq_true z)))
    · exact lv_if_gt hx hb hd (am_to_eq ht) (fun q => k1.1 (decide_eq_true q)) (fun q => k1.2 (fun z => q (of_decide_eq_true z)))
    · exact lv_if_le hx hb hd (am_to_eq ht) (fun q => k1.1 (decide_eq_true q)) (fun q => k1.2 (fun z => q (of_decide_eq_true z)))
  -- if_icmp
  · obtain ⟨x, y, r, rfl, h2⟩ := am_i2_eq hst
    obtain ⟨t, ht, h3⟩ := Option.bind_eq_some_iff.mp h2; cases h3; cases hn (by simp [am_len])
    have k1 := am_pick (fun z => W p l e R s m args below meth c H locs cells slots Q (F0 m z ls (List.map (am_tv ad) st'))) (kk H locs ls hP hD hS hl)
    rename_i cnd off
    cases cnd
    · exact lv_icmp_eq hx hb hd (am_to_eq ht) (fun q => k1.1 (decide_eq_true q)) (fun q => k1.2 (fun z => q (of_decide_eq_true z)))
    · exact lv_icmp_ne hx hb hd (am_to_eq ht) (fun q => k1.1 (decide_eq_true q)) (fun q => k1.2 (fun z => (of_decide_eq_true z) q))
    · exact lv_icmp_lt hx hb hd (am_to_eq ht) (fun q => k1.1 (decide_eq_true q)) (fun q => k1.2 (fun z => q (of_decide_eq_true z)))
    · exact lv_icmp_ge hx hb hd (am_to_eq ht) (fun q => k1.1 (decide_eq_true q)) (fun q => k1.2 (fun z => q (of_decide_eq_true z)))
    · exact lv_icmp_gt hx hb hd (am_to_eq ht) (fun q => k1.1 (decide_eq_true q)) (fun q => k1.2 (fun z => q (of_decide_eq_true z)))
    · exact lv_icmp_le hx hb hd (am_to_eq ht) (fun q => k1.1 (decide_eq_true q)) (fun q => k1.2 (fun z => q (of_decide_eq_true z)))
  -- tableswitch
  · obtain ⟨x, r, rfl, h2⟩ := am_i1_eq hst
    obtain ⟨t, ht, h3⟩ := Option.bind_eq_some_iff.mp h2
    obtain ⟨h4, h5⟩ := am_if h3; cases h5
    rename_i d lo hi offs
    by_cases q : (decide (x.toInt < lo) || decide (hi < x.toInt)) = true
    · rw [if_pos q] at ht
      refine lv_tableOut hx hb hd ?_ (am_to_eq ht) (kk H locs ls hP hD hS hl)
      rw [Bool.or_eq_true] at q
      exact q.imp of_decide_eq_true of_decide_eq_true
    · rw [if_neg q] at ht
      cases ho : offs[(x.toInt - lo).toNat]? with
      | none => rw [ho] at h4; simp at h4; simp at q; omega
      | some off =>
        rw [ho] at ht
        simp only [Bool.or_eq_true, decide_eq_true_eq, not_or] at q
        exact lv_tableIn hx hb hd q.1 q.2 ho (am_to_eq ht) (kk H locs ls hP hD hS hl)
  -- lookupswitch
  · obtain ⟨x, r, rfl, h2⟩ := am_i1_eq hst
    obtain ⟨h4, h5⟩ := am_if h2
    obtain ⟨t, ht, h3⟩ := Option.bind_eq_some_iff.mp h5; cases h3
    exact lv_lookup hx hb hd h4 rfl (am_to_eq ht) (kk H locs ls hP hD hS hl)
  -- ldc, ldc2_w
  · obtain ⟨v, hv, h2⟩ := Option.bind_eq_some_iff.mp hst; cases h2; cases hn (by simp [am_len])
    rcases hKC _ _ hv with ⟨x, rfl, hw⟩ | ⟨a, tx, rfl, hw⟩
    · exact lv_ldc hx hb hown (hts _ hw) hd (kk H locs ls hP hD hS hl)
    · exact va_ldcS hx hb hown hw hd (kk H locs ls hP hD hS hl)
  · obtain ⟨v, hv, h2⟩ := Option.bind_eq_some_iff.mp hst; cases h2; cases hn (by simp [am_len])
    exact lv_ldc2 hx hb hown (hts _ (hKL _ _ hv)) hd (kk H locs ls hP hD hS hl)
  -- getfield
  · obtain ⟨a, r, rfl, h2⟩ := am_r1_eq hst
    obtain ⟨q, hq, h3⟩ := Option.bind_eq_some_iff.mp h2
    obtain ⟨ci, fs, hc, h4⟩ := am_obj_eq h3
    obtain ⟨h5, h6⟩ := am_if h4
    obtain ⟨v, hv, h7⟩ := Option.bind_eq_some_iff.mp h6; cases h7; cases hn (by simp [am_len])
    obtain ⟨C, T, N, ty0, g1, g2, g3, g4, -⟩ := hFL _ _ hq
    have h5 := of_decide_eq_true h5
    subst h5
    exact va_get (v := am_tv ad v) hx hb hts g1 hown hK hP a (am_ws_at hc) g2 q.2.1 g3 (hts _ g4) (fun _ z => z) (by rw [List.getElem?_map, hv]; rfl) hd (kk H locs ls hP hD hS hl)
  -- putfield
  · split at hst
    · next v a r =>
      obtain ⟨q, hq, h3⟩ := Option.bind_eq_some_iff.mp hst
      obtain ⟨ci, fs, hc, h4⟩ := am_obj_eq h3
      obtain ⟨h5, h6⟩ := am_if h4; cases h6; cases hn (by simp [am_len])
      simp only [Bool.and_eq_true, decide_eq_true_eq] at h5
      obtain ⟨h5, h6, h7, h8, h9⟩ := h5
      obtain ⟨C, T, N, ty0, g1, g2, g3, g4, g5, g6, g7, g8, g9⟩ := hFL _ _ hq
      subst h5
      have e1 : am_ws ad ct (h.set a (.inr (q.1, fs.set q.2.1 v))) = (am_ws ad ct h).set a (ad a, .inr (q.1, (fs.map (am_tv ad)).set q.2.1 (am_tv ad v))) := by
        rw [am_ws_set]
        simp [am_te, List.map_set]
      rw [e1] at kk
      have n1 : narrow q.2.2.1 (am_tv ad v) = am_tv ad v := by
        cases v with
        | int x => exact h8
        | long x => exact h8
        | float x => exact h8
        | double x => exact h8
        | null => exact h8
        | ref x => cases q.2.2.1 <;> rfl
        | retAddr x => exact h8
      have f1 : fits q.2.2.1 (am_tv ad v) = true := by
        cases v with
        | int x => exact h9
        | long x => exact h9
        | float x => exact h9
        | double x => exact h9
        | null => exact h9
        | ref x => revert h9; cases q.2.2.1 <;> simp [fits, am_tv]
        | retAddr x => exact h9
      have hty := g5 _ g3
      rw [g6] at hty
      cases hf : q.2.2.2 with
      | false =>
        rw [hf] at g8
        exact va_put hx hb hts g1 ty0 g5 g7 hown hK hP hD hS a (am_ws_at hc) g2 q.2.1 g3 (hts _ g4) (fun _ z => z) g8 hty n1 f1 (by simpa using h6) hd (fun H1 locs1 hP1 hD1 hS1 => kk H1 locs1 ls hP1 hD1 hS1 hl)
      | true =>
        rw [hf] at g8 g9 h7
        exact va_putF hx hb hts g1 ty0 g5 g7 hown hK hP hD hS a (am_ws_at hc) g2 q.2.1 g3 (hts _ g4) (fun _ z => z) g8 (hin (by simpa using h7)) (g9 rfl) hty n1 f1 (by simpa using h6) hd (fun H1 locs1 hP1 hD1 hS1 => kk H1 locs1 ls hP1 hD1 hS1 hl)
    · cases hst
  -- getstatic
  · obtain ⟨v, hv, h2⟩ := Option.bind_eq_some_iff.mp hst; cases h2; cases hn (by simp [am_len])
    obtain ⟨C, n1, d1, hz, hw⟩ := hGS _ _ hv
    exact va_gets hx hb hz hS hown (hts _ hw) (fun _ z => z) hd (kk H locs ls hP hD hS hl)
  -- iaload
  · obtain ⟨a, j, r, rfl, h2⟩ := am_ri_eq hst
    cases hn (by simp [am_len])
    split at h2
    · next q hq =>
      obtain ⟨h3, h4⟩ := am_if h2; cases h4
      exact va_ti hx hb (hRO a q.1 q.2 hq) hS (am_ok_eq h3) rfl hd (kk H locs ls hP hD hS hl)
    · obtain ⟨t, n1, g, hg, h3⟩ := am_row_eq h2
      obtain ⟨h4, h5⟩ := am_if h3; cases h5
      simp only [Bool.and_eq_true, beq_iff_eq] at h4
      obtain ⟨rfl, h4⟩ := h4
      exact va_iald hx hb hK hP a 0 (am_ws_at hg) (hTY 0 (by decide)) (am_ok_eq h4) hd (kk H locs ls hP hD hS hl)
  -- caload
  · obtain ⟨a, j, r, rfl, h2⟩ := am_ri_eq hst
    cases hn (by simp [am_len])
    obtain ⟨t, n1, g, hg, h3⟩ := am_row_eq h2
    obtain ⟨h4, h5⟩ := am_if h3; cases h5
    simp only [Bool.and_eq_true, beq_iff_eq] at h4
    obtain ⟨rfl, h4⟩ := h4
    exact va_cald hx hb hK hP a 1 (am_ws_at hg) (hTY 1 (by decide)) (am_ok_eq h4) hd (kk H locs ls hP hD hS hl)
  -- baload
  · obtain ⟨a, j, r, rfl, h2⟩ := am_ri_eq hst
    cases hn (by simp [am_len])
    obtain ⟨t, n1, g, hg, h3⟩ := am_row_eq h2
    obtain ⟨h4, h5⟩ := am_if h3; cases h5
    simp only [Bool.and_eq_true, Bool.or_eq_true, beq_iff_eq] at h4
    obtain ⟨h6, h4⟩ := h4
    rcases h6 with rfl | rfl
    · exact va_zald hx hb hK hP a 2 (am_ws_at hg) (hTY 2 (by decide)) (am_ok_eq h4) hd (kk H locs ls hP hD hS hl)
    · exact va_bald hx hb hK hP a 3 (am_ws_at hg) (hTY 3 (by decide)) (am_ok_eq h4) hd (kk H locs ls hP hD hS hl)
  -- laload
  · obtain ⟨a, j, r, rfl, h2⟩ := am_ri_eq hst
    cases hn (by simp [am_len])
    obtain ⟨t, n1, g, hg, h3⟩ := am_rowl_eq h2
    obtain ⟨h4, h5⟩ := am_if h3; cases h5
    simp only [Bool.and_eq_true, beq_iff_eq] at h4
    obtain ⟨rfl, h4⟩ := h4
    exact va_lald hx hb hK hP a 4 (am_ws_at hg) (hTY 4 (by decide)) (am_ok_eq h4) hd (kk H locs ls hP hD hS hl)
  -- iastore
  · obtain ⟨a, j, x, r, rfl, h2⟩ := am_rii_eq hst
    cases hn (by simp [am_len])
    obtain ⟨t, n1, g, hg, h3⟩ := am_row_eq h2
    obtain ⟨h4, h5⟩ := am_if h3; cases h5
    simp only [Bool.and_eq_true, beq_iff_eq] at h4
    obtain ⟨rfl, h4⟩ := h4
    rw [am_ws_set] at kk
    exact va_iast hx hb hK hP hD hS a 0 (am_ws_at hg) (hTY 0 (by decide)) (am_ok_eq h4) hd (fun H1 locs1 hP1 hD1 hS1 => kk H1 locs1 ls hP1 hD1 hS1 hl)
  -- castore
  · obtain ⟨a, j, x, r, rfl, h2⟩ := am_rii_eq hst
    cases hn (by simp [am_len])
    obtain ⟨t, n1, g, hg, h3⟩ := am_row_eq h2
    obtain ⟨h4, h5⟩ := am_if h3; cases h5
    simp only [Bool.and_eq_true, beq_iff_eq] at h4
    obtain ⟨rfl, h4⟩ := h4
    rw [am_ws_set] at kk
    exact va_cast hx hb hK hP hD hS a 1 (am_ws_at hg) (hTY 1 (by decide)) (am_ok_eq h4) hd (fun H1 locs1 hP1 hD1 hS1 => kk H1 locs1 ls hP1 hD1 hS1 hl)
  -- bastore
  · obtain ⟨a, j, x, r, rfl, h2⟩ := am_rii_eq hst
    cases hn (by simp [am_len])
    obtain ⟨t, n1, g, hg, h3⟩ := am_row_eq h2
    obtain ⟨h4, h5⟩ := am_if h3; cases h5
    simp only [Bool.and_eq_true, Bool.or_eq_true, beq_iff_eq] at h4
    obtain ⟨h6, h4⟩ := h4
    rw [am_ws_set] at kk
    rcases h6 with rfl | rfl
    · exact va_zast hx hb hK hP hD hS a 2 (am_ws_at hg) (hTY 2 (by decide)) (am_ok_eq h4) hd (fun H1 locs1 hP1 hD1 hS1 => kk H1 locs1 ls hP1 hD1 hS1 hl)
    · exact va_bast hx hb hK hP hD hS a 3 (am_ws_at hg) (hTY 3 (by decide)) (am_ok_eq h4) hd (fun H1 locs1 hP1 hD1 hS1 => kk H1 locs1 ls hP1 hD1 hS1 hl)
  -- lastore
  · obtain ⟨a, j, x, r, rfl, h2⟩ := am_ril_eq hst
    cases hn (by simp [am_len])
    obtain ⟨t, n1, g, hg, h3⟩ := am_rowl_eq h2
    obtain ⟨h4, h5⟩ := am_if h3; cases h5
    simp only [Bool.and_eq_true, beq_iff_eq] at h4
    obtain ⟨rfl, h4⟩ := h4
    rw [am_ws_set] at kk
    exact va_last hx hb hK hP hD hS a 4 (am_ws_at hg) (hTY 4 (by decide)) (am_ok_eq h4) hd (fun H1 locs1 hP1 hD1 hS1 => kk H1 locs1 ls hP1 hD1 hS1 hl)
  -- arraylength
  · obtain ⟨a, r, rfl, h2⟩ := am_r1_eq hst
    cases hn (by simp [am_len])
    split at h2
    · next q hq =>
      cases h2
      exact va_tlen hx hb (hRO a q.1 q.2 hq) hS rfl hd (kk H locs ls hP hD hS hl)
    · split at h2
      · next t x hg =>
        obtain ⟨h4, h5⟩ := am_if h2; cases h5
        exact va_alen hx hb hK hP a t (am_ws_at hg) (hTY t (of_decide_eq_true h4)) rfl hd (kk H locs ls hP hD hS hl)
      · cases h2
  · cases hst
end AM1
theorem am_step_len {fl : Nat → Option (Nat × Nat × FieldType × Bool)} {kc : Nat → Option Value} {kl : Nat → Option Int64} {gs : Nat → Option Value} {ro : Nat → Option (Nat × (Nat → Int32))} {ini : Bool} {nL : Nat} {i : Instr} {pc pc' : Nat} {lv lv' : am_L} {st st' : List Value} {h h' : List va_E} (hst : am_step fl kc kl gs ro ini nL i pc lv st h = some (pc', lv', st', h')) : h'.length = h.length := by
  unfold am_step at hst
  split at hst
  all_goals first
    | (cases hst; done)
    | (cases hst; rfl)
    | (obtain ⟨_, _, h2⟩ := am_gi_eq hst; first | (cases h2; rfl) | (obtain ⟨_, h4⟩ := am_if h2; cases h4; rfl))
    | (obtain ⟨_, _, h2⟩ := am_gl_eq hst; cases h2; rfl)
    | (obtain ⟨_, _, h2⟩ := am_gr_eq hst; cases h2; rfl)
    | (obtain ⟨_, _, _, h2⟩ := am_i1_eq hst; first | (cases h2; rfl) | (obtain ⟨_, h4⟩ := am_if h2; first | (cases h4; rfl) | (obtain ⟨_, _, h5⟩ := Option.bind_eq_some_iff.mp h4; cases h5; rfl)) | (obtain ⟨_, _, h4⟩ := Option.bind_eq_some_iff.mp h2; first | (cases h4; rfl) | (obtain ⟨_, h5⟩ := am_if h4; cases h5; rfl)))
    | (obtain ⟨_, _, _, _, h2⟩ := am_i2_eq hst; first | (cases h2; rfl) | (obtain ⟨_, _, h4⟩ := Option.bind_eq_some_iff.mp h2; cases h4; rfl))
    | (obtain ⟨_, _, _, h2⟩ := am_l1_eq hst; first | (cases h2; rfl) | (obtain ⟨_, h4⟩ := am_if h2; cases h4; rfl))
    | (obtain ⟨_, _, _, _, h2⟩ := am_l2_eq hst; cases h2; rfl)
    | (obtain ⟨_, _, _, _, h2⟩ := am_li_eq hst; cases h2; rfl)
    | (obtain ⟨_, _, h2⟩ := Option.bind_eq_some_iff.mp hst; cases h2; rfl)
    | (obtain ⟨_, _, _, h2⟩ := am_r1_eq hst; first | (obtain ⟨_, h4⟩ := am_if h2; cases h4; rfl) | (obtain ⟨_, _, h3⟩ := Option.bind_eq_some_iff.mp h2; obtain ⟨_, _, _, h4⟩ := am_obj_eq h3; obtain ⟨_, h6⟩ := am_if h4; obtain ⟨_, _, h7⟩ := Option.bind_eq_some_iff.mp h6; cases h7; rfl) | (split at h2 <;> first | (cases h2; done) | (cases h2; rfl) | (split at h2 <;> first | (cases h2; done) | (obtain ⟨_, h5⟩ := am_if h2; cases h5; rfl))))
    | (obtain ⟨_, _, _, _, h2⟩ := am_ri_eq hst; first | (obtain ⟨_, _, _, _, h3⟩ := am_row_eq h2; obtain ⟨_, h5⟩ := am_if h3; cases h5; rfl) | (obtain ⟨_, _, _, _, h3⟩ := am_rowl_eq h2; obtain ⟨_, h5⟩ := am_if h3; cases h5; rfl) | (split at h2 <;> first | (obtain ⟨_, h4⟩ := am_if h2; cases h4; rfl) | (obtain ⟨_, _, _, _, h3⟩ := am_row_eq h2; obtain ⟨_, h5⟩ := am_if h3; cases h5; rfl)))
    | (obtain ⟨_, _, _, _, _, h2⟩ := am_rii_eq hst; obtain ⟨_, _, _, _, h3⟩ := am_row_eq h2; obtain ⟨_, h5⟩ := am_if h3; cases h5; exact List.length_set)
    | (obtain ⟨_, _, _, _, _, h2⟩ := am_ril_eq hst; obtain ⟨_, _, _, _, h3⟩ := am_rowl_eq h2; obtain ⟨_, h5⟩ := am_if h3; cases h5; exact List.length_set)
    | (split at hst <;> first | (cases hst; done) | (obtain ⟨_, h4⟩ := am_if hst; cases h4; rfl))
    | (split at hst <;> first | (cases hst; done) | (obtain ⟨_, _, h3⟩ := Option.bind_eq_some_iff.mp hst; obtain ⟨_, _, _, h4⟩ := am_obj_eq h3; obtain ⟨_, h6⟩ := am_if h4; cases h6; exact List.length_set))
