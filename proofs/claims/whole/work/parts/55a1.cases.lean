/-! the law's cases -/
section LWC
variable {p : Program} {e : Env} {s : State} {m : MethodId} {below : List Frame} {meth : Method} {c : Code} {Q : State → Prop} {D : va_G} {ca : Nat → ClassId} {sa sd : Nat} {A : Nat → Prop} {b L : Nat} {xs : Nat → Int32} {a aR aT aH aD : Nat → Nat} {aK : Nat} {aI aC aS aY a8 : Nat → Nat} {x : Int32} {ls : Array Slot} {cn sn : Nat}
set_option maxHeartbeats 4000000 in
set_option maxRecDepth 100000 in
theorem lw_c0 (l : Launch) (C0 : LawC p s m meth c D ca sa sd A b L xs) (hl : lv_has ls 4 [(0, .ref b), (1, .ref (a 0)), (2, .ref (a8 0)), (3, .int x)]) (h1 : vp_in (x + 1) L) (h2 : vp_in (x + 2) L) (h3 : vp_in (x + 3) L) (h4 : vp_in (x + 4) L) (h5 : vp_in (x + 5) L) (hf0 : cn + 0 ≤ room_1.cells ∧ sn + 0 ≤ room_1.slots) (hf8 : cn + 8 ≤ room_1.cells ∧ sn + 122 ≤ room_1.slots) (kk : LwG p l e s m below meth c Q A b ls (Inv D ca A a aR aT aH aD aK aI aC aS aY a8) (cn + 8) (sn + 130) 1265) : LwG p l e s m below meth c Q A b ls (Inv D ca A a aR aT aH aD aK aI aC aS aY a8) cn sn 216 := by
  obtain ⟨hx, hb, hr, hml, hown, hts, hX, hbl, hbA, hA, hK, hSX⟩ := C0
  intro Hh locs hI hS
  obtain ⟨lt, rs, rc, tS, tc, hk, hw, ho, hg, he, hr, hd, sz, sB, dC, ek, ew, eo, eg, ee, er, ed, zz, zB, zC, kept, il, io, ih, ct, tp, bo, oF, la, mS, mW, xS, xW, now, keeps, kM, fi, fs, rd, at8, costs, ways, reach, hP, hD, ⟨m6, h6⟩, ⟨m4, h4s⟩, hT, hQ, hKR⟩ := hI
  obtain ⟨n0, s0, d0, h0, rfl, rfl, rfl, hPh⟩ := hQ
  refine lv_aload_n hx hb dL_law_216 rfl (lv_at hl 1 rfl) ?_
  refine lv_aload_n hx hb dL_law_217 rfl (lv_at hl 0 rfl) ?_
  refine lv_iload_n hx hb dL_law_218 rfl (lv_at hl 3 rfl) ?_
  refine lv_iconst (v := (1)) hx hb dL_law_219 (by decide) ?_
  refine lv_iadd hx hb dL_law_220 ?_
  refine va_sld hx hb hX hbl hbA hS h1 dL_law_221 ?_
  refine lv_aload_n hx hb dL_law_222 rfl (lv_at hl 0 rfl) ?_
  refine lv_iload_n hx hb dL_law_223 rfl (lv_at hl 3 rfl) ?_
  refine lv_iconst (v := (2)) hx hb dL_law_224 (by decide) ?_
  refine lv_iadd hx hb dL_law_225 ?_
  refine va_sld hx hb hX hbl hbA hS h2 dL_law_226 ?_
  have hc := c_X7_row l D ca a aR aT aH aD aK aI aC aS aY lt 6 240 (nI 40) rs rc oF la (xs (x + 1).toNatClampNeg) (xs (x + 2).toNatClampNeg) _ (hD.subM [0, 1, 2, 3, 31, 32] (by decide) rfl) (s_row h6 hT (xs (x + 1).toNatClampNeg) (xs (x + 2).toNatClampNeg))
  refine wr_calliK (ws1 := fun zu => WL ca a aR aT aH aD aK aI aC aS aY a8 lt (zu.1) (zu.2.1) tS tc hk hw ho hg he hr hd (nI n0) (nI s0) (nI d0) ek ew eo eg ee er ed zz zB zC kept il io ih ct tp bo (zu.2.2.1) (zu.2.2.2) mS mW xS xW now keeps kM lt tp bo fi fs rd at8 costs ways reach) (wr := ([4, 5, 6, 7, 8, 9, 10, 11, 12, 13, 14, 15, 16, 17, 18, 19, 20, 21, 22, 23, 24, 25, 26, 27, 28, 29, 30, 33, 34, 35, 36, 37, 38, 39, 40, 41, 42, 43, 44, 45] : List Nat).filterMap (fun zi => (WL ca a aR aT aH aD aK aI aC aS aY a8 lt rs rc tS tc hk hw ho hg he hr hd (nI n0) (nI s0) (nI d0) ek ew eo eg ee er ed zz zB zC kept il io ih ct tp bo oF la mS mW xS xW now keeps kM lt tp bo fi fs rd at8 costs ways reach : va_W)[zi]?)) (n := 46) (va_runV (As := [.int ((xs (x + 1).toNatClampNeg)), .int ((xs (x + 2).toNatClampNeg))]) (rest := []) ⟨hx, hb, hml, hown, hts⟩ hc (cwV 2 hts gL_law_X7_row rfl rfl rfl (by decide +kernel) ⟨Nat.le_of_ble_eq_true rfl, Nat.le_of_ble_eq_true rfl⟩) (PcX.preV (q := (RX7, TX7, 10)) (ci := 6) (q0 := 0) hK hP rfl rfl (hP.subM [0, 1, 2, 3, 31, 32] rfl)) rfl rfl hl.1 rfl (lv_room (Nat.le_of_ble_eq_true rfl)) dL_law_227 hf0) hP hD hS [0, 1, 2, 3, 31, 32] [4, 5, 6, 7, 8, 9, 10, 11, 12, 13, 14, 15, 16, 17, 18, 19, 20, 21, 22, 23, 24, 25, 26, 27, 28, 29, 30, 33, 34, 35, 36, 37, 38, 39, 40, 41, 42, 43, 44, 45] rfl (fun _ => rfl) rfl (fun _ => rfl) (fun _ => rfl) (fun _ => rfl) (by decide +kernel) (by decide +kernel) (fun r7 zu H1 locs1 hp hP1 hD1 hS1 hk1 => ?_)
  obtain ⟨rs_7, rc_7, oF_7, la_7⟩ := zu
  dsimp only at hp
  have hKR := hKR.frame hk1
  have hP : va_P D vwCl (WL ca a aR aT aH aD aK aI aC aS aY a8 lt rs_7 rc_7 tS tc hk hw ho hg he hr hd (nI n0) (nI s0) (nI d0) ek ew eo eg ee er ed zz zB zC kept il io ih ct tp bo oF_7 la_7 mS mW xS xW now keeps kM lt tp bo fi fs rd at8 costs ways reach) H1 := hP1
  have hD : va_D A (WL ca a aR aT aH aD aK aI aC aS aY a8 lt rs_7 rc_7 tS tc hk hw ho hg he hr hd (nI n0) (nI s0) (nI d0) ek ew eo eg ee er ed zz zB zC kept il io ih ct tp bo oF_7 la_7 mS mW xS xW now keeps kM lt tp bo fi fs rd at8 costs ways reach) := hD1
  have hS := hS1
  clear hP1 hD1 hS1 hk1
  refine lv_aload_n hx hb dL_law_230 rfl (lv_at hl 2 rfl) ?_
  refine lv_aload_n hx hb dL_law_231 rfl (lv_at hl 0 rfl) ?_
  refine lv_iload_n hx hb dL_law_232 rfl (lv_at hl 3 rfl) ?_
  refine lv_iconst (v := (1)) hx hb dL_law_233 (by decide) ?_
  refine lv_iadd hx hb dL_law_234 ?_
  refine va_sld hx hb hX hbl hbA hS h1 dL_law_235 ?_
  refine lv_aload_n hx hb dL_law_236 rfl (lv_at hl 0 rfl) ?_
  refine lv_iload_n hx hb dL_law_237 rfl (lv_at hl 3 rfl) ?_
  refine lv_iconst (v := (2)) hx hb dL_law_238 (by decide) ?_
  refine lv_iadd hx hb dL_law_239 ?_
  refine va_sld hx hb hX hbl hbA hS h2 dL_law_240 ?_
  have hc := c_X8_row l D ca a8 mS mW xS xW now keeps kM lt tp bo fi fs rd at8 costs ways reach (xs (x + 1).toNatClampNeg) (xs (x + 2).toNatClampNeg) _ (hD.subM [33, 34, 35, 36, 37, 38, 39, 40, 41, 42, 43, 44, 45] (by decide) rfl) hp
  refine wr_calliK (ws1 := fun zu => WL ca a aR aT aH aD aK aI aC aS aY a8 lt rs_7 rc_7 tS tc hk hw ho hg he hr hd (nI n0) (nI s0) (nI d0) ek ew eo eg ee er ed zz zB zC kept il io ih ct tp bo oF_7 la_7 (zu.1) (zu.2.1) xS xW now keeps kM lt tp bo (zu.2.2.1) (zu.2.2.2) rd at8 costs ways reach) (wr := ([0, 1, 2, 3, 4, 5, 6, 7, 8, 9, 10, 11, 12, 13, 14, 15, 16, 17, 18, 19, 20, 21, 22, 23, 24, 25, 26, 27, 28, 29, 30, 31, 32] : List Nat).filterMap (fun zi => (WL ca a aR aT aH aD aK aI aC aS aY a8 lt rs_7 rc_7 tS tc hk hw ho hg he hr hd (nI n0) (nI s0) (nI d0) ek ew eo eg ee er ed zz zB zC kept il io ih ct tp bo oF_7 la_7 mS mW xS xW now keeps kM lt tp bo fi fs rd at8 costs ways reach : va_W)[zi]?)) (n := 46) (va_runV (As := [.int ((xs (x + 1).toNatClampNeg)), .int ((xs (x + 2).toNatClampNeg))]) (rest := [.int r7]) ⟨hx, hb, hml, hown, hts⟩ hc (cwV 2 hts gL_law_X8_row rfl rfl rfl (by decide +kernel) ⟨Nat.le_of_ble_eq_true rfl, Nat.le_of_ble_eq_true rfl⟩) (PcX.preV (q := (RX8, TX8, 17)) (ci := 7) (q0 := 33) hK hP rfl rfl (hP.subM [33, 34, 35, 36, 37, 38, 39, 40, 41, 42, 43, 44, 45] rfl)) rfl rfl hl.1 rfl (lv_room (Nat.le_of_ble_eq_true rfl)) dL_law_241 hf0) hP hD hS [33, 34, 35, 36, 37, 38, 39, 40, 41, 42, 43, 44, 45] [0, 1, 2, 3, 4, 5, 6, 7, 8, 9, 10, 11, 12, 13, 14, 15, 16, 17, 18, 19, 20, 21, 22, 23, 24, 25, 26, 27, 28, 29, 30, 31, 32] rfl (fun _ => rfl) rfl (fun _ => rfl) (fun _ => rfl) (fun _ => rfl) (by decide +kernel) (by decide +kernel) (fun r8 zu H1 locs1 hp hP1 hD1 hS1 hk1 => ?_)
  obtain ⟨mS_8, mW_8, fi_8, fs_8⟩ := zu
  dsimp only at hp
  have hKR := hKR.frame hk1
  have hP : va_P D vwCl (WL ca a aR aT aH aD aK aI aC aS aY a8 lt rs_7 rc_7 tS tc hk hw ho hg he hr hd (nI n0) (nI s0) (nI d0) ek ew eo eg ee er ed zz zB zC kept il io ih ct tp bo oF_7 la_7 mS_8 mW_8 xS xW now keeps kM lt tp bo fi_8 fs_8 rd at8 costs ways reach) H1 := hP1
  have hD : va_D A (WL ca a aR aT aH aD aK aI aC aS aY a8 lt rs_7 rc_7 tS tc hk hw ho hg he hr hd (nI n0) (nI s0) (nI d0) ek ew eo eg ee er ed zz zB zC kept il io ih ct tp bo oF_7 la_7 mS_8 mW_8 xS xW now keeps kM lt tp bo fi_8 fs_8 rd at8 costs ways reach) := hD1
  have hS := hS1
  clear hP1 hD1 hS1 hk1
  obtain ⟨hre, hE6, hT⟩ := hp
  refine lv_icmp_eq (tgt := 1265) hx hb dL_law_244 (by decide) (fun _ => ?_) (fun hne => absurd hre hne)
  exact W.widen (Nat.le_add_right _ _) (Nat.le_add_right _ _) (kk _ _ ⟨_, _, _, _, _, _, _, _, _, _, _, _, _, _, _, _, _, _, _, _, _, _, _, _, _, _, _, _, _, _, _, _, _, _, _, _, _, _, _, _, _, _, _, _, _, _, _, _, hP, hD, hE6, ⟨_, h4s⟩, hT, ⟨n0, s0, d0, h0, rfl, rfl, rfl, hPh⟩, hKR⟩ hS)
set_option maxHeartbeats 4000000 in
set_option maxRecDepth 100000 in
theorem lw_c1 (l : Launch) (C0 : LawC p s m meth c D ca sa sd A b L xs) (hl : lv_has ls 4 [(0, .ref b), (1, .ref (a 0)), (2, .ref (a8 0)), (3, .int x)]) (h1 : vp_in (x + 1) L) (h2 : vp_in (x + 2) L) (h3 : vp_in (x + 3) L) (h4 : vp_in (x + 4) L) (h5 : vp_in (x + 5) L) (hf0 : cn + 0 ≤ room_1.cells ∧ sn + 0 ≤ room_1.slots) (hf8 : cn + 8 ≤ room_1.cells ∧ sn + 122 ≤ room_1.slots) (kk : LwG p l e s m below meth c Q A b ls (Inv D ca A a aR aT aH aD aK aI aC aS aY a8) (cn + 8) (sn + 130) 1265) : LwG p l e s m below meth c Q A b ls (Inv D ca A a aR aT aH aD aK aI aC aS aY a8) cn sn 249 := by
  obtain ⟨hx, hb, hr, hml, hown, hts, hX, hbl, hbA, hA, hK, hSX⟩ := C0
  intro Hh locs hI hS
  obtain ⟨lt, rs, rc, tS, tc, hk, hw, ho, hg, he, hr, hd, sz, sB, dC, ek, ew, eo, eg, ee, er, ed, zz, zB, zC, kept, il, io, ih, ct, tp, bo, oF, la, mS, mW, xS, xW, now, keeps, kM, fi, fs, rd, at8, costs, ways, reach, hP, hD, ⟨m6, h6⟩, ⟨m4, h4s⟩, hT, hQ, hKR⟩ := hI
  obtain ⟨n0, s0, d0, h0, rfl, rfl, rfl, hPh⟩ := hQ
  refine lv_aload_n hx hb dL_law_249 rfl (lv_at hl 1 rfl) ?_
  refine lv_aload_n hx hb dL_law_250 rfl (lv_at hl 0 rfl) ?_
  refine lv_iload_n hx hb dL_law_251 rfl (lv_at hl 3 rfl) ?_
  refine lv_iconst (v := (1)) hx hb dL_law_252 (by decide) ?_
  refine lv_iadd hx hb dL_law_253 ?_
  refine va_sld hx hb hX hbl hbA hS h1 dL_law_254 ?_
  refine lv_aload_n hx hb dL_law_255 rfl (lv_at hl 0 rfl) ?_
  refine lv_iload_n hx hb dL_law_256 rfl (lv_at hl 3 rfl) ?_
  refine lv_iconst (v := (2)) hx hb dL_law_257 (by decide) ?_
  refine lv_iadd hx hb dL_law_258 ?_
  refine va_sld hx hb hX hbl hbA hS h2 dL_law_259 ?_
  refine lv_aload_n hx hb dL_law_260 rfl (lv_at hl 0 rfl) ?_
  refine lv_iload_n hx hb dL_law_261 rfl (lv_at hl 3 rfl) ?_
  refine lv_iconst (v := (3)) hx hb dL_law_262 (by decide) ?_
  refine lv_iadd hx hb dL_law_263 ?_
  refine va_sld hx hb hX hbl hbA hS h3 dL_law_264 ?_
  have hc := c_X7_lay l D ca a aR aT aH aD aK aI aC aS aY lt 6 240 (nI 40) rs rc oF la (xs (x + 1).toNatClampNeg) (xs (x + 2).toNatClampNeg) (xs (x + 3).toNatClampNeg) _ (hD.subM [0, 1, 2, 3, 31, 32] (by decide) rfl) (s_lay h6 hT (xs (x + 1).toNatClampNeg) (xs (x + 2).toNatClampNeg) (xs (x + 3).toNatClampNeg))
  refine wr_calliK (ws1 := fun zu => WL ca a aR aT aH aD aK aI aC aS aY a8 (zu.1) rs (zu.2.1) tS tc hk hw ho hg he hr hd (nI n0) (nI s0) (nI d0) ek ew eo eg ee er ed zz zB zC kept il io ih ct tp bo (zu.2.2.1) (zu.2.2.2) mS mW xS xW now keeps kM lt tp bo fi fs rd at8 costs ways reach) (wr := ([4, 5, 6, 7, 8, 9, 10, 11, 12, 13, 14, 15, 16, 17, 18, 19, 20, 21, 22, 23, 24, 25, 26, 27, 28, 29, 30, 33, 34, 35, 36, 37, 38, 39, 40, 41, 42, 43, 44, 45] : List Nat).filterMap (fun zi => (WL ca a aR aT aH aD aK aI aC aS aY a8 lt rs rc tS tc hk hw ho hg he hr hd (nI n0) (nI s0) (nI d0) ek ew eo eg ee er ed zz zB zC kept il io ih ct tp bo oF la mS mW xS xW now keeps kM lt tp bo fi fs rd at8 costs ways reach : va_W)[zi]?)) (n := 46) (va_runV (As := [.int ((xs (x + 1).toNatClampNeg)), .int ((xs (x + 2).toNatClampNeg)), .int ((xs (x + 3).toNatClampNeg))]) (rest := []) ⟨hx, hb, hml, hown, hts⟩ hc (cwV 3 hts gL_law_X7_lay rfl rfl rfl (by decide +kernel) ⟨Nat.le_of_ble_eq_true rfl, Nat.le_of_ble_eq_true rfl⟩) (PcX.preV (q := (RX7, TX7, 10)) (ci := 6) (q0 := 0) hK hP rfl rfl (hP.subM [0, 1, 2, 3, 31, 32] rfl)) rfl rfl hl.1 rfl (lv_room (Nat.le_of_ble_eq_true rfl)) dL_law_265 hf0) hP hD hS [0, 1, 2, 3, 31, 32] [4, 5, 6, 7, 8, 9, 10, 11, 12, 13, 14, 15, 16, 17, 18, 19, 20, 21, 22, 23, 24, 25, 26, 27, 28, 29, 30, 33, 34, 35, 36, 37, 38, 39, 40, 41, 42, 43, 44, 45] rfl (fun _ => rfl) rfl (fun _ => rfl) (fun _ => rfl) (fun _ => rfl) (by decide +kernel) (by decide +kernel) (fun r7 zu H1 locs1 hp hP1 hD1 hS1 hk1 => ?_)
  obtain ⟨lt_7, rc_7, oF_7, la_7⟩ := zu
  dsimp only at hp
  have hKR := hKR.frame hk1
  have hP : va_P D vwCl (WL ca a aR aT aH aD aK aI aC aS aY a8 lt_7 rs rc_7 tS tc hk hw ho hg he hr hd (nI n0) (nI s0) (nI d0) ek ew eo eg ee er ed zz zB zC kept il io ih ct tp bo oF_7 la_7 mS mW xS xW now keeps kM lt tp bo fi fs rd at8 costs ways reach) H1 := hP1
  have hD : va_D A (WL ca a aR aT aH aD aK aI aC aS aY a8 lt_7 rs rc_7 tS tc hk hw ho hg he hr hd (nI n0) (nI s0) (nI d0) ek ew eo eg ee er ed zz zB zC kept il io ih ct tp bo oF_7 la_7 mS mW xS xW now keeps kM lt tp bo fi fs rd at8 costs ways reach) := hD1
  have hS := hS1
  clear hP1 hD1 hS1 hk1
  refine lv_aload_n hx hb dL_law_268 rfl (lv_at hl 2 rfl) ?_
  refine lv_aload_n hx hb dL_law_269 rfl (lv_at hl 0 rfl) ?_
  refine lv_iload_n hx hb dL_law_270 rfl (lv_at hl 3 rfl) ?_
  refine lv_iconst (v := (1)) hx hb dL_law_271 (by decide) ?_
  refine lv_iadd hx hb dL_law_272 ?_
  refine va_sld hx hb hX hbl hbA hS h1 dL_law_273 ?_
  refine lv_aload_n hx hb dL_law_274 rfl (lv_at hl 0 rfl) ?_
  refine lv_iload_n hx hb dL_law_275 rfl (lv_at hl 3 rfl) ?_
  refine lv_iconst (v := (2)) hx hb dL_law_276 (by decide) ?_
  refine lv_iadd hx hb dL_law_277 ?_
  refine va_sld hx hb hX hbl hbA hS h2 dL_law_278 ?_
  refine lv_aload_n hx hb dL_law_279 rfl (lv_at hl 0 rfl) ?_
  refine lv_iload_n hx hb dL_law_280 rfl (lv_at hl 3 rfl) ?_
  refine lv_iconst (v := (3)) hx hb dL_law_281 (by decide) ?_
  refine lv_iadd hx hb dL_law_282 ?_
  refine va_sld hx hb hX hbl hbA hS h3 dL_law_283 ?_
  have hc := c_X8_lay l D ca a8 mS mW xS xW now keeps kM lt tp bo fi fs rd at8 costs ways reach (xs (x + 1).toNatClampNeg) (xs (x + 2).toNatClampNeg) (xs (x + 3).toNatClampNeg) _ (hD.subM [33, 34, 35, 36, 37, 38, 39, 40, 41, 42, 43, 44, 45] (by decide) rfl) hp
  refine wr_calliK (ws1 := fun zu => WL ca a aR aT aH aD aK aI aC aS aY a8 lt_7 rs rc_7 tS tc hk hw ho hg he hr hd (nI n0) (nI s0) (nI d0) ek ew eo eg ee er ed zz zB zC kept il io ih ct tp bo oF_7 la_7 mS (zu.1) xS xW now keeps kM (zu.2.1) tp bo (zu.2.2.1) (zu.2.2.2) rd at8 costs ways reach) (wr := ([0, 1, 2, 3, 4, 5, 6, 7, 8, 9, 10, 11, 12, 13, 14, 15, 16, 17, 18, 19, 20, 21, 22, 23, 24, 25, 26, 27, 28, 29, 30, 31, 32] : List Nat).filterMap (fun zi => (WL ca a aR aT aH aD aK aI aC aS aY a8 lt_7 rs rc_7 tS tc hk hw ho hg he hr hd (nI n0) (nI s0) (nI d0) ek ew eo eg ee er ed zz zB zC kept il io ih ct tp bo oF_7 la_7 mS mW xS xW now keeps kM lt tp bo fi fs rd at8 costs ways reach : va_W)[zi]?)) (n := 46) (va_runV (As := [.int ((xs (x + 1).toNatClampNeg)), .int ((xs (x + 2).toNatClampNeg)), .int ((xs (x + 3).toNatClampNeg))]) (rest := [.int r7]) ⟨hx, hb, hml, hown, hts⟩ hc (cwV 3 hts gL_law_X8_lay rfl rfl rfl (by decide +kernel) ⟨Nat.le_of_ble_eq_true rfl, Nat.le_of_ble_eq_true rfl⟩) (PcX.preV (q := (RX8, TX8, 17)) (ci := 7) (q0 := 33) hK hP rfl rfl (hP.subM [33, 34, 35, 36, 37, 38, 39, 40, 41, 42, 43, 44, 45] rfl)) rfl rfl hl.1 rfl (lv_room (Nat.le_of_ble_eq_true rfl)) dL_law_284 hf0) hP hD hS [33, 34, 35, 36, 37, 38, 39, 40, 41, 42, 43, 44, 45] [0, 1, 2, 3, 4, 5, 6, 7, 8, 9, 10, 11, 12, 13, 14, 15, 16, 17, 18, 19, 20, 21, 22, 23, 24, 25, 26, 27, 28, 29, 30, 31, 32] rfl (fun _ => rfl) rfl (fun _ => rfl) (fun _ => rfl) (fun _ => rfl) (by decide +kernel) (by decide +kernel) (fun r8 zu H1 locs1 hp hP1 hD1 hS1 hk1 => ?_)
  obtain ⟨mW_8, as__8, fi_8, fs_8⟩ := zu
  dsimp only at hp
  have hKR := hKR.frame hk1
  have hP : va_P D vwCl (WL ca a aR aT aH aD aK aI aC aS aY a8 lt_7 rs rc_7 tS tc hk hw ho hg he hr hd (nI n0) (nI s0) (nI d0) ek ew eo eg ee er ed zz zB zC kept il io ih ct tp bo oF_7 la_7 mS mW_8 xS xW now keeps kM as__8 tp bo fi_8 fs_8 rd at8 costs ways reach) H1 := hP1
  have hD : va_D A (WL ca a aR aT aH aD aK aI aC aS aY a8 lt_7 rs rc_7 tS tc hk hw ho hg he hr hd (nI n0) (nI s0) (nI d0) ek ew eo eg ee er ed zz zB zC kept il io ih ct tp bo oF_7 la_7 mS mW_8 xS xW now keeps kM as__8 tp bo fi_8 fs_8 rd at8 costs ways reach) := hD1
  have hS := hS1
  clear hP1 hD1 hS1 hk1
  obtain ⟨hre, hlt, hE6, hT⟩ := hp
  subst hlt
  refine lv_icmp_eq (tgt := 1265) hx hb dL_law_287 (by decide) (fun _ => ?_) (fun hne => absurd hre hne)
  exact W.widen (Nat.le_add_right _ _) (Nat.le_add_right _ _) (kk _ _ ⟨_, _, _, _, _, _, _, _, _, _, _, _, _, _, _, _, _, _, _, _, _, _, _, _, _, _, _, _, _, _, _, _, _, _, _, _, _, _, _, _, _, _, _, _, _, _, _, _, hP, hD, hE6, ⟨_, h4s⟩, hT, ⟨n0, s0, d0, h0, rfl, rfl, rfl, hPh⟩, hKR⟩ hS)
set_option maxHeartbeats 4000000 in
set_option maxRecDepth 100000 in
theorem lw_c2 (l : Launch) (C0 : LawC p s m meth c D ca sa sd A b L xs) (hl : lv_has ls 4 [(0, .ref b), (1, .ref (a 0)), (2, .ref (a8 0)), (3, .int x)]) (h1 : vp_in (x + 1) L) (h2 : vp_in (x + 2) L) (h3 : vp_in (x + 3) L) (h4 : vp_in (x + 4) L) (h5 : vp_in (x + 5) L) (hf0 : cn + 0 ≤ room_1.cells ∧ sn + 0 ≤ room_1.slots) (hf8 : cn + 8 ≤ room_1.cells ∧ sn + 122 ≤ room_1.slots) (kk : LwG p l e s m below meth c Q A b ls (Inv D ca A a aR aT aH aD aK aI aC aS aY a8) (cn + 8) (sn + 130) 1265) : LwG p l e s m below meth c Q A b ls (Inv D ca A a aR aT aH aD aK aI aC aS aY a8) cn sn 292 := by
  obtain ⟨hx, hb, hr, hml, hown, hts, hX, hbl, hbA, hA, hK, hSX⟩ := C0
  intro Hh locs hI hS
  obtain ⟨lt, rs, rc, tS, tc, hk, hw, ho, hg, he, hr, hd, sz, sB, dC, ek, ew, eo, eg, ee, er, ed, zz, zB, zC, kept, il, io, ih, ct, tp, bo, oF, la, mS, mW, xS, xW, now, keeps, kM, fi, fs, rd, at8, costs, ways, reach, hP, hD, ⟨m6, h6⟩, ⟨m4, h4s⟩, hT, hQ, hKR⟩ := hI
  obtain ⟨n0, s0, d0, h0, rfl, rfl, rfl, hPh⟩ := hQ
  refine lv_aload_n hx hb dL_law_292 rfl (lv_at hl 1 rfl) ?_
  refine lv_aload_n hx hb dL_law_293 rfl (lv_at hl 0 rfl) ?_
  refine lv_iload_n hx hb dL_law_294 rfl (lv_at hl 3 rfl) ?_
  refine lv_iconst (v := (1)) hx hb dL_law_295 (by decide) ?_
  refine lv_iadd hx hb dL_law_296 ?_
  refine va_sld hx hb hX hbl hbA hS h1 dL_law_297 ?_
  refine lv_aload_n hx hb dL_law_298 rfl (lv_at hl 0 rfl) ?_
  refine lv_iload_n hx hb dL_law_299 rfl (lv_at hl 3 rfl) ?_
  refine lv_iconst (v := (2)) hx hb dL_law_300 (by decide) ?_
  refine lv_iadd hx hb dL_law_301 ?_
  refine va_sld hx hb hX hbl hbA hS h2 dL_law_302 ?_
  have hc := c_X7_at l D ca a aR aT aH aD aK aI aC aS aY lt 6 240 (nI 40) rs rc oF la (xs (x + 1).toNatClampNeg) (xs (x + 2).toNatClampNeg) _ (hD.subM [0, 1, 2, 3, 31, 32] (by decide) rfl) (s_at h6 hT (xs (x + 1).toNatClampNeg) (xs (x + 2).toNatClampNeg))
  refine wr_calliK (ws1 := fun zu => WL ca a aR aT aH aD aK aI aC aS aY a8 (zu.1) rs rc tS tc hk hw ho hg he hr hd (nI n0) (nI s0) (nI d0) ek ew eo eg ee er ed zz zB zC kept il io ih ct tp bo (zu.2.1) (zu.2.2) mS mW xS xW now keeps kM lt tp bo fi fs rd at8 costs ways reach) (wr := ([4, 5, 6, 7, 8, 9, 10, 11, 12, 13, 14, 15, 16, 17, 18, 19, 20, 21, 22, 23, 24, 25, 26, 27, 28, 29, 30, 33, 34, 35, 36, 37, 38, 39, 40, 41, 42, 43, 44, 45] : List Nat).filterMap (fun zi => (WL ca a aR aT aH aD aK aI aC aS aY a8 lt rs rc tS tc hk hw ho hg he hr hd (nI n0) (nI s0) (nI d0) ek ew eo eg ee er ed zz zB zC kept il io ih ct tp bo oF la mS mW xS xW now keeps kM lt tp bo fi fs rd at8 costs ways reach : va_W)[zi]?)) (n := 46) (va_runV (As := [.int ((xs (x + 1).toNatClampNeg)), .int ((xs (x + 2).toNatClampNeg))]) (rest := []) ⟨hx, hb, hml, hown, hts⟩ hc (cwV 2 hts gL_law_X7_at rfl rfl rfl (by decide +kernel) ⟨Nat.le_of_ble_eq_true rfl, Nat.le_of_ble_eq_true rfl⟩) (PcX.preV (q := (RX7, TX7, 10)) (ci := 6) (q0 := 0) hK hP rfl rfl (hP.subM [0, 1, 2, 3, 31, 32] rfl)) rfl rfl hl.1 rfl (lv_room (Nat.le_of_ble_eq_true rfl)) dL_law_303 hf0) hP hD hS [0, 1, 2, 3, 31, 32] [4, 5, 6, 7, 8, 9, 10, 11, 12, 13, 14, 15, 16, 17, 18, 19, 20, 21, 22, 23, 24, 25, 26, 27, 28, 29, 30, 33, 34, 35, 36, 37, 38, 39, 40, 41, 42, 43, 44, 45] rfl (fun _ => rfl) rfl (fun _ => rfl) (fun _ => rfl) (fun _ => rfl) (by decide +kernel) (by decide +kernel) (fun r7 zu H1 locs1 hp hP1 hD1 hS1 hk1 => ?_)
  obtain ⟨lt_7, oF_7, la_7⟩ := zu
  dsimp only at hp
  have hKR := hKR.frame hk1
  have hP : va_P D vwCl (WL ca a aR aT aH aD aK aI aC aS aY a8 lt_7 rs rc tS tc hk hw ho hg he hr hd (nI n0) (nI s0) (nI d0) ek ew eo eg ee er ed zz zB zC kept il io ih ct tp bo oF_7 la_7 mS mW xS xW now keeps kM lt tp bo fi fs rd at8 costs ways reach) H1 := hP1
  have hD : va_D A (WL ca a aR aT aH aD aK aI aC aS aY a8 lt_7 rs rc tS tc hk hw ho hg he hr hd (nI n0) (nI s0) (nI d0) ek ew eo eg ee er ed zz zB zC kept il io ih ct tp bo oF_7 la_7 mS mW xS xW now keeps kM lt tp bo fi fs rd at8 costs ways reach) := hD1
  have hS := hS1
  clear hP1 hD1 hS1 hk1
  refine lv_aload_n hx hb dL_law_306 rfl (lv_at hl 2 rfl) ?_
  refine lv_aload_n hx hb dL_law_307 rfl (lv_at hl 0 rfl) ?_
  refine lv_iload_n hx hb dL_law_308 rfl (lv_at hl 3 rfl) ?_
  refine lv_iconst (v := (1)) hx hb dL_law_309 (by decide) ?_
  refine lv_iadd hx hb dL_law_310 ?_
  refine va_sld hx hb hX hbl hbA hS h1 dL_law_311 ?_
  refine lv_aload_n hx hb dL_law_312 rfl (lv_at hl 0 rfl) ?_
  refine lv_iload_n hx hb dL_law_313 rfl (lv_at hl 3 rfl) ?_
  refine lv_iconst (v := (2)) hx hb dL_law_314 (by decide) ?_
  refine lv_iadd hx hb dL_law_315 ?_
  refine va_sld hx hb hX hbl hbA hS h2 dL_law_316 ?_
  have hc := c_X8_at l D ca a8 mS mW xS xW now keeps kM lt tp bo fi fs rd at8 costs ways reach (xs (x + 1).toNatClampNeg) (xs (x + 2).toNatClampNeg) _ (hD.subM [33, 34, 35, 36, 37, 38, 39, 40, 41, 42, 43, 44, 45] (by decide) rfl) hp
  refine wr_calliK (ws1 := fun zu => WL ca a aR aT aH aD aK aI aC aS aY a8 lt_7 rs rc tS tc hk hw ho hg he hr hd (nI n0) (nI s0) (nI d0) ek ew eo eg ee er ed zz zB zC kept il io ih ct tp bo oF_7 la_7 mS mW xS xW now keeps kM (zu.1) tp bo (zu.2.1) (zu.2.2) rd at8 costs ways reach) (wr := ([0, 1, 2, 3, 4, 5, 6, 7, 8, 9, 10, 11, 12, 13, 14, 15, 16, 17, 18, 19, 20, 21, 22, 23, 24, 25, 26, 27, 28, 29, 30, 31, 32] : List Nat).filterMap (fun zi => (WL ca a aR aT aH aD aK aI aC aS aY a8 lt_7 rs rc tS tc hk hw ho hg he hr hd (nI n0) (nI s0) (nI d0) ek ew eo eg ee er ed zz zB zC kept il io ih ct tp bo oF_7 la_7 mS mW xS xW now keeps kM lt tp bo fi fs rd at8 costs ways reach : va_W)[zi]?)) (n := 46) (va_runV (As := [.int ((xs (x + 1).toNatClampNeg)), .int ((xs (x + 2).toNatClampNeg))]) (rest := [.int r7]) ⟨hx, hb, hml, hown, hts⟩ hc (cwV 2 hts gL_law_X8_at rfl rfl rfl (by decide +kernel) ⟨Nat.le_of_ble_eq_true rfl, Nat.le_of_ble_eq_true rfl⟩) (PcX.preV (q := (RX8, TX8, 17)) (ci := 7) (q0 := 33) hK hP rfl rfl (hP.subM [33, 34, 35, 36, 37, 38, 39, 40, 41, 42, 43, 44, 45] rfl)) rfl rfl hl.1 rfl (lv_room (Nat.le_of_ble_eq_true rfl)) dL_law_317 hf0) hP hD hS [33, 34, 35, 36, 37, 38, 39, 40, 41, 42, 43, 44, 45] [0, 1, 2, 3, 4, 5, 6, 7, 8, 9, 10, 11, 12, 13, 14, 15, 16, 17, 18, 19, 20, 21, 22, 23, 24, 25, 26, 27, 28, 29, 30, 31, 32] rfl (fun _ => rfl) rfl (fun _ => rfl) (fun _ => rfl) (fun _ => rfl) (by decide +kernel) (by decide +kernel) (fun r8 zu H1 locs1 hp hP1 hD1 hS1 hk1 => ?_)
  obtain ⟨as__8, fi_8, fs_8⟩ := zu
  dsimp only at hp
  have hKR := hKR.frame hk1
  have hP : va_P D vwCl (WL ca a aR aT aH aD aK aI aC aS aY a8 lt_7 rs rc tS tc hk hw ho hg he hr hd (nI n0) (nI s0) (nI d0) ek ew eo eg ee er ed zz zB zC kept il io ih ct tp bo oF_7 la_7 mS mW xS xW now keeps kM as__8 tp bo fi_8 fs_8 rd at8 costs ways reach) H1 := hP1
  have hD : va_D A (WL ca a aR aT aH aD aK aI aC aS aY a8 lt_7 rs rc tS tc hk hw ho hg he hr hd (nI n0) (nI s0) (nI d0) ek ew eo eg ee er ed zz zB zC kept il io ih ct tp bo oF_7 la_7 mS mW xS xW now keeps kM as__8 tp bo fi_8 fs_8 rd at8 costs ways reach) := hD1
  have hS := hS1
  clear hP1 hD1 hS1 hk1
  obtain ⟨hre, hlt, hT⟩ := hp
  subst hlt
  refine lv_icmp_eq (tgt := 1265) hx hb dL_law_320 (by decide) (fun _ => ?_) (fun hne => absurd hre hne)
  exact W.widen (Nat.le_add_right _ _) (Nat.le_add_right _ _) (kk _ _ ⟨_, _, _, _, _, _, _, _, _, _, _, _, _, _, _, _, _, _, _, _, _, _, _, _, _, _, _, _, _, _, _, _, _, _, _, _, _, _, _, _, _, _, _, _, _, _, _, _, hP, hD, ⟨_, h6⟩, ⟨_, h4s⟩, hT, ⟨n0, s0, d0, h0, rfl, rfl, rfl, hPh⟩, hKR⟩ hS)
set_option maxHeartbeats 4000000 in
set_option maxRecDepth 100000 in
theorem lw_c3 (l : Launch) (C0 : LawC p s m meth c D ca sa sd A b L xs) (hl : lv_has ls 4 [(0, .ref b), (1, .ref (a 0)), (2, .ref (a8 0)), (3, .int x)]) (h1 : vp_in (x + 1) L) (h2 : vp_in (x + 2) L) (h3 : vp_in (x + 3) L) (h4 : vp_in (x + 4) L) (h5 : vp_in (x + 5) L) (hf0 : cn + 0 ≤ room_1.cells ∧ sn + 0 ≤ room_1.slots) (hf8 : cn + 8 ≤ room_1.cells ∧ sn + 122 ≤ room_1.slots) (kk : LwG p l e s m below meth c Q A b ls (Inv D ca A a aR aT aH aD aK aI aC aS aY a8) (cn + 8) (sn + 130) 1265) : LwG p l e s m below meth c Q A b ls (Inv D ca A a aR aT aH aD aK aI aC aS aY a8) cn sn 325 := by
  obtain ⟨hx, hb, hr, hml, hown, hts, hX, hbl, hbA, hA, hK, hSX⟩ := C0
  intro Hh locs hI hS
  obtain ⟨lt, rs, rc, tS, tc, hk, hw, ho, hg, he, hr, hd, sz, sB, dC, ek, ew, eo, eg, ee, er, ed, zz, zB, zC, kept, il, io, ih, ct, tp, bo, oF, la, mS, mW, xS, xW, now, keeps, kM, fi, fs, rd, at8, costs, ways, reach, hP, hD, ⟨m6, h6⟩, ⟨m4, h4s⟩, hT, hQ, hKR⟩ := hI
  obtain ⟨n0, s0, d0, h0, rfl, rfl, rfl, hPh⟩ := hQ
  refine lv_aload_n hx hb dL_law_325 rfl (lv_at hl 1 rfl) ?_
  refine lv_aload_n hx hb dL_law_326 rfl (lv_at hl 0 rfl) ?_
  refine lv_iload_n hx hb dL_law_327 rfl (lv_at hl 3 rfl) ?_
  refine lv_iconst (v := (1)) hx hb dL_law_328 (by decide) ?_
  refine lv_iadd hx hb dL_law_329 ?_
  refine va_sld hx hb hX hbl hbA hS h1 dL_law_330 ?_
  have hc := c_X7_tear l D ca a aR aT aH aD aK aI aC aS aY lt 6 240 (nI 40) rs rc oF la (xs (x + 1).toNatClampNeg) _ (hD.subM [0, 1, 2, 3, 31, 32] (by decide) rfl) (s_tear h6 hT (xs (x + 1).toNatClampNeg))
  refine wr_calliK (ws1 := fun zu => WL ca a aR aT aH aD aK aI aC aS aY a8 lt (zu.1) rc tS tc hk hw ho hg he hr hd (nI n0) (nI s0) (nI d0) ek ew eo eg ee er ed zz zB zC kept il io ih ct tp bo (zu.2.1) (zu.2.2) mS mW xS xW now keeps kM lt tp bo fi fs rd at8 costs ways reach) (wr := ([4, 5, 6, 7, 8, 9, 10, 11, 12, 13, 14, 15, 16, 17, 18, 19, 20, 21, 22, 23, 24, 25, 26, 27, 28, 29, 30, 33, 34, 35, 36, 37, 38, 39, 40, 41, 42, 43, 44, 45] : List Nat).filterMap (fun zi => (WL ca a aR aT aH aD aK aI aC aS aY a8 lt rs rc tS tc hk hw ho hg he hr hd (nI n0) (nI s0) (nI d0) ek ew eo eg ee er ed zz zB zC kept il io ih ct tp bo oF la mS mW xS xW now keeps kM lt tp bo fi fs rd at8 costs ways reach : va_W)[zi]?)) (n := 46) (va_runV (As := [.int ((xs (x + 1).toNatClampNeg))]) (rest := []) ⟨hx, hb, hml, hown, hts⟩ hc (cwV 1 hts gL_law_X7_tear rfl rfl rfl (by decide +kernel) ⟨Nat.le_of_ble_eq_true rfl, Nat.le_of_ble_eq_true rfl⟩) (PcX.preV (q := (RX7, TX7, 10)) (ci := 6) (q0 := 0) hK hP rfl rfl (hP.subM [0, 1, 2, 3, 31, 32] rfl)) rfl rfl hl.1 rfl (lv_room (Nat.le_of_ble_eq_true rfl)) dL_law_331 hf0) hP hD hS [0, 1, 2, 3, 31, 32] [4, 5, 6, 7, 8, 9, 10, 11, 12, 13, 14, 15, 16, 17, 18, 19, 20, 21, 22, 23, 24, 25, 26, 27, 28, 29, 30, 33, 34, 35, 36, 37, 38, 39, 40, 41, 42, 43, 44, 45] rfl (fun _ => rfl) rfl (fun _ => rfl) (fun _ => rfl) (fun _ => rfl) (by decide +kernel) (by decide +kernel) (fun r7 zu H1 locs1 hp hP1 hD1 hS1 hk1 => ?_)
  obtain ⟨rs_7, oF_7, la_7⟩ := zu
  dsimp only at hp
  have hKR := hKR.frame hk1
  have hP : va_P D vwCl (WL ca a aR aT aH aD aK aI aC aS aY a8 lt rs_7 rc tS tc hk hw ho hg he hr hd (nI n0) (nI s0) (nI d0) ek ew eo eg ee er ed zz zB zC kept il io ih ct tp bo oF_7 la_7 mS mW xS xW now keeps kM lt tp bo fi fs rd at8 costs ways reach) H1 := hP1
  have hD : va_D A (WL ca a aR aT aH aD aK aI aC aS aY a8 lt rs_7 rc tS tc hk hw ho hg he hr hd (nI n0) (nI s0) (nI d0) ek ew eo eg ee er ed zz zB zC kept il io ih ct tp bo oF_7 la_7 mS mW xS xW now keeps kM lt tp bo fi fs rd at8 costs ways reach) := hD1
  have hS := hS1
  clear hP1 hD1 hS1 hk1
  refine lv_aload_n hx hb dL_law_334 rfl (lv_at hl 2 rfl) ?_
  refine lv_aload_n hx hb dL_law_335 rfl (lv_at hl 0 rfl) ?_
  refine lv_iload_n hx hb dL_law_336 rfl (lv_at hl 3 rfl) ?_
  refine lv_iconst (v := (1)) hx hb dL_law_337 (by decide) ?_
  refine lv_iadd hx hb dL_law_338 ?_
  refine va_sld hx hb hX hbl hbA hS h1 dL_law_339 ?_
  have hc := c_X8_tear l D ca a8 mS mW xS xW now keeps kM lt tp bo fi fs rd at8 costs ways reach (xs (x + 1).toNatClampNeg) _ (hD.subM [33, 34, 35, 36, 37, 38, 39, 40, 41, 42, 43, 44, 45] (by decide) rfl) hp
  refine wr_calliK (ws1 := fun zu => WL ca a aR aT aH aD aK aI aC aS aY a8 lt rs_7 rc tS tc hk hw ho hg he hr hd (nI n0) (nI s0) (nI d0) ek ew eo eg ee er ed zz zB zC kept il io ih ct tp bo oF_7 la_7 (zu.1) mW xS xW now keeps kM lt tp bo (zu.2.1) (zu.2.2) rd at8 costs ways reach) (wr := ([0, 1, 2, 3, 4, 5, 6, 7, 8, 9, 10, 11, 12, 13, 14, 15, 16, 17, 18, 19, 20, 21, 22, 23, 24, 25, 26, 27, 28, 29, 30, 31, 32] : List Nat).filterMap (fun zi => (WL ca a aR aT aH aD aK aI aC aS aY a8 lt rs_7 rc tS tc hk hw ho hg he hr hd (nI n0) (nI s0) (nI d0) ek ew eo eg ee er ed zz zB zC kept il io ih ct tp bo oF_7 la_7 mS mW xS xW now keeps kM lt tp bo fi fs rd at8 costs ways reach : va_W)[zi]?)) (n := 46) (va_runV (As := [.int ((xs (x + 1).toNatClampNeg))]) (rest := [.int r7]) ⟨hx, hb, hml, hown, hts⟩ hc (cwV 1 hts gL_law_X8_tear rfl rfl rfl (by decide +kernel) ⟨Nat.le_of_ble_eq_true rfl, Nat.le_of_ble_eq_true rfl⟩) (PcX.preV (q := (RX8, TX8, 17)) (ci := 7) (q0 := 33) hK hP rfl rfl (hP.subM [33, 34, 35, 36, 37, 38, 39, 40, 41, 42, 43, 44, 45] rfl)) rfl rfl hl.1 rfl (lv_room (Nat.le_of_ble_eq_true rfl)) dL_law_340 hf0) hP hD hS [33, 34, 35, 36, 37, 38, 39, 40, 41, 42, 43, 44, 45] [0, 1, 2, 3, 4, 5, 6, 7, 8, 9, 10, 11, 12, 13, 14, 15, 16, 17, 18, 19, 20, 21, 22, 23, 24, 25, 26, 27, 28, 29, 30, 31, 32] rfl (fun _ => rfl) rfl (fun _ => rfl) (fun _ => rfl) (fun _ => rfl) (by decide +kernel) (by decide +kernel) (fun r8 zu H1 locs1 hp hP1 hD1 hS1 hk1 => ?_)
  obtain ⟨mS_8, fi_8, fs_8⟩ := zu
  dsimp only at hp
  have hKR := hKR.frame hk1
  have hP : va_P D vwCl (WL ca a aR aT aH aD aK aI aC aS aY a8 lt rs_7 rc tS tc hk hw ho hg he hr hd (nI n0) (nI s0) (nI d0) ek ew eo eg ee er ed zz zB zC kept il io ih ct tp bo oF_7 la_7 mS_8 mW xS xW now keeps kM lt tp bo fi_8 fs_8 rd at8 costs ways reach) H1 := hP1
  have hD : va_D A (WL ca a aR aT aH aD aK aI aC aS aY a8 lt rs_7 rc tS tc hk hw ho hg he hr hd (nI n0) (nI s0) (nI d0) ek ew eo eg ee er ed zz zB zC kept il io ih ct tp bo oF_7 la_7 mS_8 mW xS xW now keeps kM lt tp bo fi_8 fs_8 rd at8 costs ways reach) := hD1
  have hS := hS1
  clear hP1 hD1 hS1 hk1
  obtain ⟨hre, hE6, hT⟩ := hp
  refine lv_icmp_eq (tgt := 1265) hx hb dL_law_343 (by decide) (fun _ => ?_) (fun hne => absurd hre hne)
  exact W.widen (Nat.le_add_right _ _) (Nat.le_add_right _ _) (kk _ _ ⟨_, _, _, _, _, _, _, _, _, _, _, _, _, _, _, _, _, _, _, _, _, _, _, _, _, _, _, _, _, _, _, _, _, _, _, _, _, _, _, _, _, _, _, _, _, _, _, _, hP, hD, hE6, ⟨_, h4s⟩, hT, ⟨n0, s0, d0, h0, rfl, rfl, rfl, hPh⟩, hKR⟩ hS)
set_option maxHeartbeats 4000000 in
set_option maxRecDepth 100000 in
theorem lw_c4 (l : Launch) (C0 : LawC p s m meth c D ca sa sd A b L xs) (hl : lv_has ls 4 [(0, .ref b), (1, .ref (a 0)), (2, .ref (a8 0)), (3, .int x)]) (h1 : vp_in (x + 1) L) (h2 : vp_in (x + 2) L) (h3 : vp_in (x + 3) L) (h4 : vp_in (x + 4) L) (h5 : vp_in (x + 5) L) (hf0 : cn + 0 ≤ room_1.cells ∧ sn + 0 ≤ room_1.slots) (hf8 : cn + 8 ≤ room_1.cells ∧ sn + 122 ≤ room_1.slots) (kk : LwG p l e s m below meth c Q A b ls (Inv D ca A a aR aT aH aD aK aI aC aS aY a8) (cn + 8) (sn + 130) 1265) : LwG p l e s m below meth c Q A b ls (Inv D ca A a aR aT aH aD aK aI aC aS aY a8) cn sn 348 := by
  obtain ⟨hx, hb, hr, hml, hown, hts, hX, hbl, hbA, hA, hK, hSX⟩ := C0
  intro Hh locs hI hS
  obtain ⟨lt, rs, rc, tS, tc, hk, hw, ho, hg, he, hr, hd, sz, sB, dC, ek, ew, eo, eg, ee, er, ed, zz, zB, zC, kept, il, io, ih, ct, tp, bo, oF, la, mS, mW, xS, xW, now, keeps, kM, fi, fs, rd, at8, costs, ways, reach, hP, hD, ⟨m6, h6⟩, ⟨m4, h4s⟩, hT, hQ, hKR⟩ := hI
  obtain ⟨n0, s0, d0, h0, rfl, rfl, rfl, hPh⟩ := hQ
  refine lv_aload_n hx hb dL_law_348 rfl (lv_at hl 1 rfl) ?_
  refine lv_aload_n hx hb dL_law_349 rfl (lv_at hl 0 rfl) ?_
  refine lv_iload_n hx hb dL_law_350 rfl (lv_at hl 3 rfl) ?_
  refine lv_iconst (v := (1)) hx hb dL_law_351 (by decide) ?_
  refine lv_iadd hx hb dL_law_352 ?_
  refine va_sld hx hb hX hbl hbA hS h1 dL_law_353 ?_
  refine lv_aload_n hx hb dL_law_354 rfl (lv_at hl 0 rfl) ?_
  refine lv_iload_n hx hb dL_law_355 rfl (lv_at hl 3 rfl) ?_
  refine lv_iconst (v := (2)) hx hb dL_law_356 (by decide) ?_
  refine lv_iadd hx hb dL_law_357 ?_
  refine va_sld hx hb hX hbl hbA hS h2 dL_law_358 ?_
  refine lv_aload_n hx hb dL_law_359 rfl (lv_at hl 0 rfl) ?_
  refine lv_iload_n hx hb dL_law_360 rfl (lv_at hl 3 rfl) ?_
  refine lv_iconst (v := (3)) hx hb dL_law_361 (by decide) ?_
  refine lv_iadd hx hb dL_law_362 ?_
  refine va_sld hx hb hX hbl hbA hS h3 dL_law_363 ?_
  refine lv_aload_n hx hb dL_law_364 rfl (lv_at hl 0 rfl) ?_
  refine lv_iload_n hx hb dL_law_365 rfl (lv_at hl 3 rfl) ?_
  refine lv_iconst (v := (4)) hx hb dL_law_366 (by decide) ?_
  refine lv_iadd hx hb dL_law_367 ?_
  refine va_sld hx hb hX hbl hbA hS h4 dL_law_368 ?_
  refine lv_aload_n hx hb dL_law_369 rfl (lv_at hl 0 rfl) ?_
  refine lv_iload_n hx hb dL_law_370 rfl (lv_at hl 3 rfl) ?_
  refine lv_iconst (v := (5)) hx hb dL_law_371 (by decide) ?_
  refine lv_iadd hx hb dL_law_372 ?_
  refine va_sld hx hb hX hbl hbA hS h5 dL_law_373 ?_
  have hc := c_X7_copy l D ca a aR aT aH aD aK aI aC aS aY lt 6 240 (nI 40) rs rc oF la (xs (x + 1).toNatClampNeg) (xs (x + 2).toNatClampNeg) (xs (x + 3).toNatClampNeg) (xs (x + 4).toNatClampNeg) (xs (x + 5).toNatClampNeg) _ (hD.subM [0, 1, 2, 3, 31, 32] (by decide) rfl) (s_copy h6 hT (xs (x + 1).toNatClampNeg) (xs (x + 2).toNatClampNeg) (xs (x + 3).toNatClampNeg) (xs (x + 4).toNatClampNeg) (xs (x + 5).toNatClampNeg))
  refine wr_calliK (ws1 := fun zu => WL ca a aR aT aH aD aK aI aC aS aY a8 lt rs (zu.1) tS tc hk hw ho hg he hr hd (nI n0) (nI s0) (nI d0) ek ew eo eg ee er ed zz zB zC kept il io ih ct tp bo (zu.2.1) (zu.2.2) mS mW xS xW now keeps kM lt tp bo fi fs rd at8 costs ways reach) (wr := ([4, 5, 6, 7, 8, 9, 10, 11, 12, 13, 14, 15, 16, 17, 18, 19, 20, 21, 22, 23, 24, 25, 26, 27, 28, 29, 30, 33, 34, 35, 36, 37, 38, 39, 40, 41, 42, 43, 44, 45] : List Nat).filterMap (fun zi => (WL ca a aR aT aH aD aK aI aC aS aY a8 lt rs rc tS tc hk hw ho hg he hr hd (nI n0) (nI s0) (nI d0) ek ew eo eg ee er ed zz zB zC kept il io ih ct tp bo oF la mS mW xS xW now keeps kM lt tp bo fi fs rd at8 costs ways reach : va_W)[zi]?)) (n := 46) (va_runV (As := [.int ((xs (x + 1).toNatClampNeg)), .int ((xs (x + 2).toNatClampNeg)), .int ((xs (x + 3).toNatClampNeg)), .int ((xs (x + 4).toNatClampNeg)), .int ((xs (x + 5).toNatClampNeg))]) (rest := []) ⟨hx, hb, hml, hown, hts⟩ hc (cwV 5 hts gL_law_X7_copy rfl rfl rfl (by decide +kernel) ⟨Nat.le_of_ble_eq_true rfl, Nat.le_of_ble_eq_true rfl⟩) (PcX.preV (q := (RX7, TX7, 10)) (ci := 6) (q0 := 0) hK hP rfl rfl (hP.subM [0, 1, 2, 3, 31, 32] rfl)) rfl rfl hl.1 rfl (lv_room (Nat.le_of_ble_eq_true rfl)) dL_law_374 hf0) hP hD hS [0, 1, 2, 3, 31, 32] [4, 5, 6, 7, 8, 9, 10, 11, 12, 13, 14, 15, 16, 17, 18, 19, 20, 21, 22, 23, 24, 25, 26, 27, 28, 29, 30, 33, 34, 35, 36, 37, 38, 39, 40, 41, 42, 43, 44, 45] rfl (fun _ => rfl) rfl (fun _ => rfl) (fun _ => rfl) (fun _ => rfl) (by decide +kernel) (by decide +kernel) (fun r7 zu H1 locs1 hp hP1 hD1 hS1 hk1 => ?_)
  obtain ⟨rc_7, oF_7, la_7⟩ := zu
  dsimp only at hp
  have hKR := hKR.frame hk1
  have hP : va_P D vwCl (WL ca a aR aT aH aD aK aI aC aS aY a8 lt rs rc_7 tS tc hk hw ho hg he hr hd (nI n0) (nI s0) (nI d0) ek ew eo eg ee er ed zz zB zC kept il io ih ct tp bo oF_7 la_7 mS mW xS xW now keeps kM lt tp bo fi fs rd at8 costs ways reach) H1 := hP1
  have hD : va_D A (WL ca a aR aT aH aD aK aI aC aS aY a8 lt rs rc_7 tS tc hk hw ho hg he hr hd (nI n0) (nI s0) (nI d0) ek ew eo eg ee er ed zz zB zC kept il io ih ct tp bo oF_7 la_7 mS mW xS xW now keeps kM lt tp bo fi fs rd at8 costs ways reach) := hD1
  have hS := hS1
  clear hP1 hD1 hS1 hk1
  refine lv_aload_n hx hb dL_law_377 rfl (lv_at hl 2 rfl) ?_
  refine lv_aload_n hx hb dL_law_378 rfl (lv_at hl 0 rfl) ?_
  refine lv_iload_n hx hb dL_law_379 rfl (lv_at hl 3 rfl) ?_
  refine lv_iconst (v := (1)) hx hb dL_law_380 (by decide) ?_
  refine lv_iadd hx hb dL_law_381 ?_
  refine va_sld hx hb hX hbl hbA hS h1 dL_law_382 ?_
  refine lv_aload_n hx hb dL_law_383 rfl (lv_at hl 0 rfl) ?_
  refine lv_iload_n hx hb dL_law_384 rfl (lv_at hl 3 rfl) ?_
  refine lv_iconst (v := (2)) hx hb dL_law_385 (by decide) ?_
  refine lv_iadd hx hb dL_law_386 ?_
  refine va_sld hx hb hX hbl hbA hS h2 dL_law_387 ?_
  refine lv_aload_n hx hb dL_law_388 rfl (lv_at hl 0 rfl) ?_
  refine lv_iload_n hx hb dL_law_389 rfl (lv_at hl 3 rfl) ?_
  refine lv_iconst (v := (3)) hx hb dL_law_390 (by decide) ?_
  refine lv_iadd hx hb dL_law_391 ?_
  refine va_sld hx hb hX hbl hbA hS h3 dL_law_392 ?_
  refine lv_aload_n hx hb dL_law_393 rfl (lv_at hl 0 rfl) ?_
  refine lv_iload_n hx hb dL_law_394 rfl (lv_at hl 3 rfl) ?_
  refine lv_iconst (v := (4)) hx hb dL_law_395 (by decide) ?_
  refine lv_iadd hx hb dL_law_396 ?_
  refine va_sld hx hb hX hbl hbA hS h4 dL_law_397 ?_
  refine lv_aload_n hx hb dL_law_398 rfl (lv_at hl 0 rfl) ?_
  refine lv_iload_n hx hb dL_law_399 rfl (lv_at hl 3 rfl) ?_
  refine lv_iconst (v := (5)) hx hb dL_law_400 (by decide) ?_
  refine lv_iadd hx hb dL_law_401 ?_
  refine va_sld hx hb hX hbl hbA hS h5 dL_law_402 ?_
  have hc := c_X8_copy l D ca a8 mS mW xS xW now keeps kM lt tp bo fi fs rd at8 costs ways reach (xs (x + 1).toNatClampNeg) (xs (x + 2).toNatClampNeg) (xs (x + 3).toNatClampNeg) (xs (x + 4).toNatClampNeg) (xs (x + 5).toNatClampNeg) _ (hD.subM [33, 34, 35, 36, 37, 38, 39, 40, 41, 42, 43, 44, 45] (by decide) rfl) hp
  refine wr_calliK (ws1 := fun zu => WL ca a aR aT aH aD aK aI aC aS aY a8 lt rs rc_7 tS tc hk hw ho hg he hr hd (nI n0) (nI s0) (nI d0) ek ew eo eg ee er ed zz zB zC kept il io ih ct tp bo oF_7 la_7 mS (zu.1) xS xW now keeps kM lt tp bo (zu.2.1) (zu.2.2) rd at8 costs ways reach) (wr := ([0, 1, 2, 3, 4, 5, 6, 7, 8, 9, 10, 11, 12, 13, 14, 15, 16, 17, 18, 19, 20, 21, 22, 23, 24, 25, 26, 27, 28, 29, 30, 31, 32] : List Nat).filterMap (fun zi => (WL ca a aR aT aH aD aK aI aC aS aY a8 lt rs rc_7 tS tc hk hw ho hg he hr hd (nI n0) (nI s0) (nI d0) ek ew eo eg ee er ed zz zB zC kept il io ih ct tp bo oF_7 la_7 mS mW xS xW now keeps kM lt tp bo fi fs rd at8 costs ways reach : va_W)[zi]?)) (n := 46) (va_runV (As := [.int ((xs (x + 1).toNatClampNeg)), .int ((xs (x + 2).toNatClampNeg)), .int ((xs (x + 3).toNatClampNeg)), .int ((xs (x + 4).toNatClampNeg)), .int ((xs (x + 5).toNatClampNeg))]) (rest := [.int r7]) ⟨hx, hb, hml, hown, hts⟩ hc (cwV 5 hts gL_law_X8_copy rfl rfl rfl (by decide +kernel) ⟨Nat.le_of_ble_eq_true rfl, Nat.le_of_ble_eq_true rfl⟩) (PcX.preV (q := (RX8, TX8, 17)) (ci := 7) (q0 := 33) hK hP rfl rfl (hP.subM [33, 34, 35, 36, 37, 38, 39, 40, 41, 42, 43, 44, 45] rfl)) rfl rfl hl.1 rfl (lv_room (Nat.le_of_ble_eq_true rfl)) dL_law_403 hf0) hP hD hS [33, 34, 35, 36, 37, 38, 39, 40, 41, 42, 43, 44, 45] [0, 1, 2, 3, 4, 5, 6, 7, 8, 9, 10, 11, 12, 13, 14, 15, 16, 17, 18, 19, 20, 21, 22, 23, 24, 25, 26, 27, 28, 29, 30, 31, 32] rfl (fun _ => rfl) rfl (fun _ => rfl) (fun _ => rfl) (fun _ => rfl) (by decide +kernel) (by decide +kernel) (fun r8 zu H1 locs1 hp hP1 hD1 hS1 hk1 => ?_)
  obtain ⟨mW_8, fi_8, fs_8⟩ := zu
  dsimp only at hp
  have hKR := hKR.frame hk1
  have hP : va_P D vwCl (WL ca a aR aT aH aD aK aI aC aS aY a8 lt rs rc_7 tS tc hk hw ho hg he hr hd (nI n0) (nI s0) (nI d0) ek ew eo eg ee er ed zz zB zC kept il io ih ct tp bo oF_7 la_7 mS mW_8 xS xW now keeps kM lt tp bo fi_8 fs_8 rd at8 costs ways reach) H1 := hP1
  have hD : va_D A (WL ca a aR aT aH aD aK aI aC aS aY a8 lt rs rc_7 tS tc hk hw ho hg he hr hd (nI n0) (nI s0) (nI d0) ek ew eo eg ee er ed zz zB zC kept il io ih ct tp bo oF_7 la_7 mS mW_8 xS xW now keeps kM lt tp bo fi_8 fs_8 rd at8 costs ways reach) := hD1
  have hS := hS1
  clear hP1 hD1 hS1 hk1
  obtain ⟨hre, hE6, hT⟩ := hp
  refine lv_icmp_eq (tgt := 1265) hx hb dL_law_406 (by decide) (fun _ => ?_) (fun hne => absurd hre hne)
  exact W.widen (Nat.le_add_right _ _) (Nat.le_add_right _ _) (kk _ _ ⟨_, _, _, _, _, _, _, _, _, _, _, _, _, _, _, _, _, _, _, _, _, _, _, _, _, _, _, _, _, _, _, _, _, _, _, _, _, _, _, _, _, _, _, _, _, _, _, _, hP, hD, hE6, ⟨_, h4s⟩, hT, ⟨n0, s0, d0, h0, rfl, rfl, rfl, hPh⟩, hKR⟩ hS)
set_option maxHeartbeats 4000000 in
set_option maxRecDepth 100000 in
theorem lw_c5 (l : Launch) (C0 : LawC p s m meth c D ca sa sd A b L xs) (hl : lv_has ls 4 [(0, .ref b), (1, .ref (a 0)), (2, .ref (a8 0)), (3, .int x)]) (h1 : vp_in (x + 1) L) (h2 : vp_in (x + 2) L) (h3 : vp_in (x + 3) L) (h4 : vp_in (x + 4) L) (h5 : vp_in (x + 5) L) (hf0 : cn + 0 ≤ room_1.cells ∧ sn + 0 ≤ room_1.slots) (hf8 : cn + 8 ≤ room_1.cells ∧ sn + 122 ≤ room_1.slots) (kk : LwG p l e s m below meth c Q A b ls (Inv D ca A a aR aT aH aD aK aI aC aS aY a8) (cn + 8) (sn + 130) 1265) : LwG p l e s m below meth c Q A b ls (Inv D ca A a aR aT aH aD aK aI aC aS aY a8) cn sn 411 := by
  obtain ⟨hx, hb, hr, hml, hown, hts, hX, hbl, hbA, hA, hK, hSX⟩ := C0
  intro Hh locs hI hS
  obtain ⟨lt, rs, rc, tS, tc, hk, hw, ho, hg, he, hr, hd, sz, sB, dC, ek, ew, eo, eg, ee, er, ed, zz, zB, zC, kept, il, io, ih, ct, tp, bo, oF, la, mS, mW, xS, xW, now, keeps, kM, fi, fs, rd, at8, costs, ways, reach, hP, hD, ⟨m6, h6⟩, ⟨m4, h4s⟩, hT, hQ, hKR⟩ := hI
  obtain ⟨n0, s0, d0, h0, rfl, rfl, rfl, hPh⟩ := hQ
  refine lv_aload_n hx hb dL_law_411 rfl (lv_at hl 1 rfl) ?_
  refine lv_aload_n hx hb dL_law_412 rfl (lv_at hl 0 rfl) ?_
  refine lv_iload_n hx hb dL_law_413 rfl (lv_at hl 3 rfl) ?_
  refine lv_iconst (v := (1)) hx hb dL_law_414 (by decide) ?_
  refine lv_iadd hx hb dL_law_415 ?_
  refine va_sld hx hb hX hbl hbA hS h1 dL_law_416 ?_
  have hc := c_X7_mean l D ca a aR aT aH aD aK aI aC aS aY lt 6 240 (nI 40) rs rc oF la (xs (x + 1).toNatClampNeg) _ (hD.subM [0, 1, 2, 3, 31, 32] (by decide) rfl) (s_mean h6 hT (xs (x + 1).toNatClampNeg))
  refine wr_calliK (ws1 := fun zu => WL ca a aR aT aH aD aK aI aC aS aY a8 (zu.1) rs rc tS tc hk hw ho hg he hr hd (nI n0) (nI s0) (nI d0) ek ew eo eg ee er ed zz zB zC kept il io ih ct tp bo (zu.2.1) (zu.2.2) mS mW xS xW now keeps kM lt tp bo fi fs rd at8 costs ways reach) (wr := ([4, 5, 6, 7, 8, 9, 10, 11, 12, 13, 14, 15, 16, 17, 18, 19, 20, 21, 22, 23, 24, 25, 26, 27, 28, 29, 30, 33, 34, 35, 36, 37, 38, 39, 40, 41, 42, 43, 44, 45] : List Nat).filterMap (fun zi => (WL ca a aR aT aH aD aK aI aC aS aY a8 lt rs rc tS tc hk hw ho hg he hr hd (nI n0) (nI s0) (nI d0) ek ew eo eg ee er ed zz zB zC kept il io ih ct tp bo oF la mS mW xS xW now keeps kM lt tp bo fi fs rd at8 costs ways reach : va_W)[zi]?)) (n := 46) (va_runV (As := [.int ((xs (x + 1).toNatClampNeg))]) (rest := []) ⟨hx, hb, hml, hown, hts⟩ hc (cwV 1 hts gL_law_X7_mean rfl rfl rfl (by decide +kernel) ⟨Nat.le_of_ble_eq_true rfl, Nat.le_of_ble_eq_true rfl⟩) (PcX.preV (q := (RX7, TX7, 10)) (ci := 6) (q0 := 0) hK hP rfl rfl (hP.subM [0, 1, 2, 3, 31, 32] rfl)) rfl rfl hl.1 rfl (lv_room (Nat.le_of_ble_eq_true rfl)) dL_law_417 hf0) hP hD hS [0, 1, 2, 3, 31, 32] [4, 5, 6, 7, 8, 9, 10, 11, 12, 13, 14, 15, 16, 17, 18, 19, 20, 21, 22, 23, 24, 25, 26, 27, 28, 29, 30, 33, 34, 35, 36, 37, 38, 39, 40, 41, 42, 43, 44, 45] rfl (fun _ => rfl) rfl (fun _ => rfl) (fun _ => rfl) (fun _ => rfl) (by decide +kernel) (by decide +kernel) (fun r7 zu H1 locs1 hp hP1 hD1 hS1 hk1 => ?_)
  obtain ⟨lt_7, oF_7, la_7⟩ := zu
  dsimp only at hp
  have hKR := hKR.frame hk1
  have hP : va_P D vwCl (WL ca a aR aT aH aD aK aI aC aS aY a8 lt_7 rs rc tS tc hk hw ho hg he hr hd (nI n0) (nI s0) (nI d0) ek ew eo eg ee er ed zz zB zC kept il io ih ct tp bo oF_7 la_7 mS mW xS xW now keeps kM lt tp bo fi fs rd at8 costs ways reach) H1 := hP1
  have hD : va_D A (WL ca a aR aT aH aD aK aI aC aS aY a8 lt_7 rs rc tS tc hk hw ho hg he hr hd (nI n0) (nI s0) (nI d0) ek ew eo eg ee er ed zz zB zC kept il io ih ct tp bo oF_7 la_7 mS mW xS xW now keeps kM lt tp bo fi fs rd at8 costs ways reach) := hD1
  have hS := hS1
  clear hP1 hD1 hS1 hk1
  refine lv_aload_n hx hb dL_law_420 rfl (lv_at hl 2 rfl) ?_
  refine lv_aload_n hx hb dL_law_421 rfl (lv_at hl 0 rfl) ?_
  refine lv_iload_n hx hb dL_law_422 rfl (lv_at hl 3 rfl) ?_
  refine lv_iconst (v := (1)) hx hb dL_law_423 (by decide) ?_
  refine lv_iadd hx hb dL_law_424 ?_
  refine va_sld hx hb hX hbl hbA hS h1 dL_law_425 ?_
  have hc := c_X8_mean l D ca a8 mS mW xS xW now keeps kM lt tp bo fi fs rd at8 costs ways reach (xs (x + 1).toNatClampNeg) _ (hD.subM [33, 34, 35, 36, 37, 38, 39, 40, 41, 42, 43, 44, 45] (by decide) rfl) hp
  refine wr_calliK (ws1 := fun zu => WL ca a aR aT aH aD aK aI aC aS aY a8 lt_7 rs rc tS tc hk hw ho hg he hr hd (nI n0) (nI s0) (nI d0) ek ew eo eg ee er ed zz zB zC kept il io ih ct tp bo oF_7 la_7 mS mW xS xW now keeps kM (zu.1) tp bo (zu.2.1) (zu.2.2) rd at8 costs ways reach) (wr := ([0, 1, 2, 3, 4, 5, 6, 7, 8, 9, 10, 11, 12, 13, 14, 15, 16, 17, 18, 19, 20, 21, 22, 23, 24, 25, 26, 27, 28, 29, 30, 31, 32] : List Nat).filterMap (fun zi => (WL ca a aR aT aH aD aK aI aC aS aY a8 lt_7 rs rc tS tc hk hw ho hg he hr hd (nI n0) (nI s0) (nI d0) ek ew eo eg ee er ed zz zB zC kept il io ih ct tp bo oF_7 la_7 mS mW xS xW now keeps kM lt tp bo fi fs rd at8 costs ways reach : va_W)[zi]?)) (n := 46) (va_runV (As := [.int ((xs (x + 1).toNatClampNeg))]) (rest := [.int r7]) ⟨hx, hb, hml, hown, hts⟩ hc (cwV 1 hts gL_law_X8_mean rfl rfl rfl (by decide +kernel) ⟨Nat.le_of_ble_eq_true rfl, Nat.le_of_ble_eq_true rfl⟩) (PcX.preV (q := (RX8, TX8, 17)) (ci := 7) (q0 := 33) hK hP rfl rfl (hP.subM [33, 34, 35, 36, 37, 38, 39, 40, 41, 42, 43, 44, 45] rfl)) rfl rfl hl.1 rfl (lv_room (Nat.le_of_ble_eq_true rfl)) dL_law_426 hf0) hP hD hS [33, 34, 35, 36, 37, 38, 39, 40, 41, 42, 43, 44, 45] [0, 1, 2, 3, 4, 5, 6, 7, 8, 9, 10, 11, 12, 13, 14, 15, 16, 17, 18, 19, 20, 21, 22, 23, 24, 25, 26, 27, 28, 29, 30, 31, 32] rfl (fun _ => rfl) rfl (fun _ => rfl) (fun _ => rfl) (fun _ => rfl) (by decide +kernel) (by decide +kernel) (fun r8 zu H1 locs1 hp hP1 hD1 hS1 hk1 => ?_)
  obtain ⟨as__8, fi_8, fs_8⟩ := zu
  dsimp only at hp
  have hKR := hKR.frame hk1
  have hP : va_P D vwCl (WL ca a aR aT aH aD aK aI aC aS aY a8 lt_7 rs rc tS tc hk hw ho hg he hr hd (nI n0) (nI s0) (nI d0) ek ew eo eg ee er ed zz zB zC kept il io ih ct tp bo oF_7 la_7 mS mW xS xW now keeps kM as__8 tp bo fi_8 fs_8 rd at8 costs ways reach) H1 := hP1
  have hD : va_D A (WL ca a aR aT aH aD aK aI aC aS aY a8 lt_7 rs rc tS tc hk hw ho hg he hr hd (nI n0) (nI s0) (nI d0) ek ew eo eg ee er ed zz zB zC kept il io ih ct tp bo oF_7 la_7 mS mW xS xW now keeps kM as__8 tp bo fi_8 fs_8 rd at8 costs ways reach) := hD1
  have hS := hS1
  clear hP1 hD1 hS1 hk1
  obtain ⟨hre, hlt, hT⟩ := hp
  subst hlt
  refine lv_icmp_eq (tgt := 1265) hx hb dL_law_429 (by decide) (fun _ => ?_) (fun hne => absurd hre hne)
  exact W.widen (Nat.le_add_right _ _) (Nat.le_add_right _ _) (kk _ _ ⟨_, _, _, _, _, _, _, _, _, _, _, _, _, _, _, _, _, _, _, _, _, _, _, _, _, _, _, _, _, _, _, _, _, _, _, _, _, _, _, _, _, _, _, _, _, _, _, _, hP, hD, ⟨_, h6⟩, ⟨_, h4s⟩, hT, ⟨n0, s0, d0, h0, rfl, rfl, rfl, hPh⟩, hKR⟩ hS)
set_option maxHeartbeats 4000000 in
set_option maxRecDepth 100000 in
theorem lw_c6 (l : Launch) (C0 : LawC p s m meth c D ca sa sd A b L xs) (hl : lv_has ls 4 [(0, .ref b), (1, .ref (a 0)), (2, .ref (a8 0)), (3, .int x)]) (h1 : vp_in (x + 1) L) (h2 : vp_in (x + 2) L) (h3 : vp_in (x + 3) L) (h4 : vp_in (x + 4) L) (h5 : vp_in (x + 5) L) (hf0 : cn + 0 ≤ room_1.cells ∧ sn + 0 ≤ room_1.slots) (hf8 : cn + 8 ≤ room_1.cells ∧ sn + 122 ≤ room_1.slots) (kk : LwG p l e s m below meth c Q A b ls (Inv D ca A a aR aT aH aD aK aI aC aS aY a8) (cn + 8) (sn + 130) 1265) : LwG p l e s m below meth c Q A b ls (Inv D ca A a aR aT aH aD aK aI aC aS aY a8) cn sn 434 := by
  obtain ⟨hx, hb, hr, hml, hown, hts, hX, hbl, hbA, hA, hK, hSX⟩ := C0
  intro Hh locs hI hS
  obtain ⟨lt, rs, rc, tS, tc, hk, hw, ho, hg, he, hr, hd, sz, sB, dC, ek, ew, eo, eg, ee, er, ed, zz, zB, zC, kept, il, io, ih, ct, tp, bo, oF, la, mS, mW, xS, xW, now, keeps, kM, fi, fs, rd, at8, costs, ways, reach, hP, hD, ⟨m6, h6⟩, ⟨m4, h4s⟩, hT, hQ, hKR⟩ := hI
  obtain ⟨n0, s0, d0, h0, rfl, rfl, rfl, hPh⟩ := hQ
  refine lv_aload_n hx hb dL_law_434 rfl (lv_at hl 1 rfl) ?_
  refine lv_aload_n hx hb dL_law_435 rfl (lv_at hl 0 rfl) ?_
  refine lv_iload_n hx hb dL_law_436 rfl (lv_at hl 3 rfl) ?_
  refine lv_iconst (v := (1)) hx hb dL_law_437 (by decide) ?_
  refine lv_iadd hx hb dL_law_438 ?_
  refine va_sld hx hb hX hbl hbA hS h1 dL_law_439 ?_
  refine lv_aload_n hx hb dL_law_440 rfl (lv_at hl 0 rfl) ?_
  refine lv_iload_n hx hb dL_law_441 rfl (lv_at hl 3 rfl) ?_
  refine lv_iconst (v := (2)) hx hb dL_law_442 (by decide) ?_
  refine lv_iadd hx hb dL_law_443 ?_
  refine va_sld hx hb hX hbl hbA hS h2 dL_law_444 ?_
  have hc := c_X7_text l D ca a aR aT aH aD aK aI aC aS aY lt 4 320 (nI 80) tS tc oF la (xs (x + 1).toNatClampNeg) (xs (x + 2).toNatClampNeg) _ (hD.subM [0, 4, 5, 6, 31, 32] (by decide) rfl) (s_text h4s hT (xs (x + 1).toNatClampNeg) (xs (x + 2).toNatClampNeg))
  refine wr_calliK (ws1 := fun zu => WL ca a aR aT aH aD aK aI aC aS aY a8 lt rs rc (zu.1) (zu.2.1) hk hw ho hg he hr hd (nI n0) (nI s0) (nI d0) ek ew eo eg ee er ed zz zB zC kept il io ih ct tp bo (zu.2.2.1) (zu.2.2.2) mS mW xS xW now keeps kM lt tp bo fi fs rd at8 costs ways reach) (wr := ([1, 2, 3, 7, 8, 9, 10, 11, 12, 13, 14, 15, 16, 17, 18, 19, 20, 21, 22, 23, 24, 25, 26, 27, 28, 29, 30, 33, 34, 35, 36, 37, 38, 39, 40, 41, 42, 43, 44, 45] : List Nat).filterMap (fun zi => (WL ca a aR aT aH aD aK aI aC aS aY a8 lt rs rc tS tc hk hw ho hg he hr hd (nI n0) (nI s0) (nI d0) ek ew eo eg ee er ed zz zB zC kept il io ih ct tp bo oF la mS mW xS xW now keeps kM lt tp bo fi fs rd at8 costs ways reach : va_W)[zi]?)) (n := 46) (va_runV (As := [.int ((xs (x + 1).toNatClampNeg)), .int ((xs (x + 2).toNatClampNeg))]) (rest := []) ⟨hx, hb, hml, hown, hts⟩ hc (cwV 2 hts gL_law_X7_text rfl rfl rfl (by decide +kernel) ⟨Nat.le_of_ble_eq_true rfl, Nat.le_of_ble_eq_true rfl⟩) (PcX.preV (q := (RX7, TX7, 10)) (ci := 6) (q0 := 0) hK hP rfl rfl (hP.subM [0, 4, 5, 6, 31, 32] rfl)) rfl rfl hl.1 rfl (lv_room (Nat.le_of_ble_eq_true rfl)) dL_law_445 hf0) hP hD hS [0, 4, 5, 6, 31, 32] [1, 2, 3, 7, 8, 9, 10, 11, 12, 13, 14, 15, 16, 17, 18, 19, 20, 21, 22, 23, 24, 25, 26, 27, 28, 29, 30, 33, 34, 35, 36, 37, 38, 39, 40, 41, 42, 43, 44, 45] rfl (fun _ => rfl) rfl (fun _ => rfl) (fun _ => rfl) (fun _ => rfl) (by decide +kernel) (by decide +kernel) (fun r7 zu H1 locs1 hp hP1 hD1 hS1 hk1 => ?_)
  obtain ⟨tS_7, tc_7, oF_7, la_7⟩ := zu
  dsimp only at hp
  have hKR := hKR.frame hk1
  have hP : va_P D vwCl (WL ca a aR aT aH aD aK aI aC aS aY a8 lt rs rc tS_7 tc_7 hk hw ho hg he hr hd (nI n0) (nI s0) (nI d0) ek ew eo eg ee er ed zz zB zC kept il io ih ct tp bo oF_7 la_7 mS mW xS xW now keeps kM lt tp bo fi fs rd at8 costs ways reach) H1 := hP1
  have hD : va_D A (WL ca a aR aT aH aD aK aI aC aS aY a8 lt rs rc tS_7 tc_7 hk hw ho hg he hr hd (nI n0) (nI s0) (nI d0) ek ew eo eg ee er ed zz zB zC kept il io ih ct tp bo oF_7 la_7 mS mW xS xW now keeps kM lt tp bo fi fs rd at8 costs ways reach) := hD1
  have hS := hS1
  clear hP1 hD1 hS1 hk1
  refine lv_aload_n hx hb dL_law_448 rfl (lv_at hl 2 rfl) ?_
  refine lv_aload_n hx hb dL_law_449 rfl (lv_at hl 0 rfl) ?_
  refine lv_iload_n hx hb dL_law_450 rfl (lv_at hl 3 rfl) ?_
  refine lv_iconst (v := (1)) hx hb dL_law_451 (by decide) ?_
  refine lv_iadd hx hb dL_law_452 ?_
  refine va_sld hx hb hX hbl hbA hS h1 dL_law_453 ?_
  refine lv_aload_n hx hb dL_law_454 rfl (lv_at hl 0 rfl) ?_
  refine lv_iload_n hx hb dL_law_455 rfl (lv_at hl 3 rfl) ?_
  refine lv_iconst (v := (2)) hx hb dL_law_456 (by decide) ?_
  refine lv_iadd hx hb dL_law_457 ?_
  refine va_sld hx hb hX hbl hbA hS h2 dL_law_458 ?_
  have hc := c_X8_text l D ca a8 mS mW xS xW now keeps kM lt tp bo fi fs rd at8 costs ways reach (xs (x + 1).toNatClampNeg) (xs (x + 2).toNatClampNeg) _ (hD.subM [33, 34, 35, 36, 37, 38, 39, 40, 41, 42, 43, 44, 45] (by decide) rfl) hp
  refine wr_calliK (ws1 := fun zu => WL ca a aR aT aH aD aK aI aC aS aY a8 lt rs rc tS_7 tc_7 hk hw ho hg he hr hd (nI n0) (nI s0) (nI d0) ek ew eo eg ee er ed zz zB zC kept il io ih ct tp bo oF_7 la_7 mS mW (zu.1) (zu.2.1) now keeps kM lt tp bo (zu.2.2.1) (zu.2.2.2) rd at8 costs ways reach) (wr := ([0, 1, 2, 3, 4, 5, 6, 7, 8, 9, 10, 11, 12, 13, 14, 15, 16, 17, 18, 19, 20, 21, 22, 23, 24, 25, 26, 27, 28, 29, 30, 31, 32] : List Nat).filterMap (fun zi => (WL ca a aR aT aH aD aK aI aC aS aY a8 lt rs rc tS_7 tc_7 hk hw ho hg he hr hd (nI n0) (nI s0) (nI d0) ek ew eo eg ee er ed zz zB zC kept il io ih ct tp bo oF_7 la_7 mS mW xS xW now keeps kM lt tp bo fi fs rd at8 costs ways reach : va_W)[zi]?)) (n := 46) (va_runV (As := [.int ((xs (x + 1).toNatClampNeg)), .int ((xs (x + 2).toNatClampNeg))]) (rest := [.int r7]) ⟨hx, hb, hml, hown, hts⟩ hc (cwV 2 hts gL_law_X8_text rfl rfl rfl (by decide +kernel) ⟨Nat.le_of_ble_eq_true rfl, Nat.le_of_ble_eq_true rfl⟩) (PcX.preV (q := (RX8, TX8, 17)) (ci := 7) (q0 := 33) hK hP rfl rfl (hP.subM [33, 34, 35, 36, 37, 38, 39, 40, 41, 42, 43, 44, 45] rfl)) rfl rfl hl.1 rfl (lv_room (Nat.le_of_ble_eq_true rfl)) dL_law_459 hf0) hP hD hS [33, 34, 35, 36, 37, 38, 39, 40, 41, 42, 43, 44, 45] [0, 1, 2, 3, 4, 5, 6, 7, 8, 9, 10, 11, 12, 13, 14, 15, 16, 17, 18, 19, 20, 21, 22, 23, 24, 25, 26, 27, 28, 29, 30, 31, 32] rfl (fun _ => rfl) rfl (fun _ => rfl) (fun _ => rfl) (fun _ => rfl) (by decide +kernel) (by decide +kernel) (fun r8 zu H1 locs1 hp hP1 hD1 hS1 hk1 => ?_)
  obtain ⟨xS_8, xW_8, fi_8, fs_8⟩ := zu
  dsimp only at hp
  have hKR := hKR.frame hk1
  have hP : va_P D vwCl (WL ca a aR aT aH aD aK aI aC aS aY a8 lt rs rc tS_7 tc_7 hk hw ho hg he hr hd (nI n0) (nI s0) (nI d0) ek ew eo eg ee er ed zz zB zC kept il io ih ct tp bo oF_7 la_7 mS mW xS_8 xW_8 now keeps kM lt tp bo fi_8 fs_8 rd at8 costs ways reach) H1 := hP1
  have hD : va_D A (WL ca a aR aT aH aD aK aI aC aS aY a8 lt rs rc tS_7 tc_7 hk hw ho hg he hr hd (nI n0) (nI s0) (nI d0) ek ew eo eg ee er ed zz zB zC kept il io ih ct tp bo oF_7 la_7 mS mW xS_8 xW_8 now keeps kM lt tp bo fi_8 fs_8 rd at8 costs ways reach) := hD1
  have hS := hS1
  clear hP1 hD1 hS1 hk1
  obtain ⟨hre, hE4, hT⟩ := hp
  refine lv_icmp_eq (tgt := 1265) hx hb dL_law_462 (by decide) (fun _ => ?_) (fun hne => absurd hre hne)
  exact W.widen (Nat.le_add_right _ _) (Nat.le_add_right _ _) (kk _ _ ⟨_, _, _, _, _, _, _, _, _, _, _, _, _, _, _, _, _, _, _, _, _, _, _, _, _, _, _, _, _, _, _, _, _, _, _, _, _, _, _, _, _, _, _, _, _, _, _, _, hP, hD, ⟨_, h6⟩, hE4, hT, ⟨n0, s0, d0, h0, rfl, rfl, rfl, hPh⟩, hKR⟩ hS)
end LWC
