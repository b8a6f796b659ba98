/-! the law's cases -/
section LWC
variable {p : Program} {e : Env} {s : State} {m : MethodId} {below : List Frame} {meth : Method} {c : Code} {Q : State → Prop} {D : va_G} {ca : Nat → ClassId} {sa sd : Nat} {A : Nat → Prop} {b L : Nat} {xs : Nat → Int32} {a aR aT aH aD : Nat → Nat} {aK : Nat} {aI aC aS aY a8 : Nat → Nat} {x : Int32} {ls : Array Slot} {cn sn : Nat}
set_option maxHeartbeats 4000000 in
set_option maxRecDepth 100000 in
theorem lw_c7 (l : Launch) (C0 : LawC p s m meth c D ca sa sd A b L xs) (hl : lv_has ls 4 [(0, .ref b), (1, .ref (a 0)), (2, .ref (a8 0)), (3, .int x)]) (h1 : vp_in (x + 1) L) (h2 : vp_in (x + 2) L) (h3 : vp_in (x + 3) L) (h4 : vp_in (x + 4) L) (h5 : vp_in (x + 5) L) (hf0 : cn + 0 ≤ room_1.cells ∧ sn + 0 ≤ room_1.slots) (hf8 : cn + 8 ≤ room_1.cells ∧ sn + 122 ≤ room_1.slots) (kk : LwG p l e s m below meth c Q A b ls (Inv D ca A a aR aT aH aD aK aI aC aS aY a8) (cn + 8) (sn + 130) 1265) : LwG p l e s m below meth c Q A b ls (Inv D ca A a aR aT aH aD aK aI aC aS aY a8) cn sn 467 := by
  obtain ⟨hx, hb, hr, hml, hown, hts, hX, hbl, hbA, hA, hK, hSX⟩ := C0
  intro Hh locs hI hS
  obtain ⟨lt, rs, rc, tS, tc, hk, hw, ho, hg, he, hr, hd, sz, sB, dC, ek, ew, eo, eg, ee, er, ed, zz, zB, zC, kept, il, io, ih, ct, tp, bo, oF, la, mS, mW, xS, xW, now, keeps, kM, fi, fs, rd, at8, costs, ways, reach, hP, hD, ⟨m6, h6⟩, ⟨m4, h4s⟩, hT, hQ, hKR⟩ := hI
  obtain ⟨n0, s0, d0, h0, rfl, rfl, rfl, hPh⟩ := hQ
  refine lv_aload_n hx hb dL_law_467 rfl (lv_at hl 1 rfl) ?_
  refine lv_aload_n hx hb dL_law_468 rfl (lv_at hl 0 rfl) ?_
  refine lv_iload_n hx hb dL_law_469 rfl (lv_at hl 3 rfl) ?_
  refine lv_iconst (v := (1)) hx hb dL_law_470 (by decide) ?_
  refine lv_iadd hx hb dL_law_471 ?_
  refine va_sld hx hb hX hbl hbA hS h1 dL_law_472 ?_
  refine lv_aload_n hx hb dL_law_473 rfl (lv_at hl 0 rfl) ?_
  refine lv_iload_n hx hb dL_law_474 rfl (lv_at hl 3 rfl) ?_
  refine lv_iconst (v := (2)) hx hb dL_law_475 (by decide) ?_
  refine lv_iadd hx hb dL_law_476 ?_
  refine va_sld hx hb hX hbl hbA hS h2 dL_law_477 ?_
  refine lv_aload_n hx hb dL_law_478 rfl (lv_at hl 0 rfl) ?_
  refine lv_iload_n hx hb dL_law_479 rfl (lv_at hl 3 rfl) ?_
  refine lv_iconst (v := (3)) hx hb dL_law_480 (by decide) ?_
  refine lv_iadd hx hb dL_law_481 ?_
  refine va_sld hx hb hX hbl hbA hS h3 dL_law_482 ?_
  have hc := c_X7_put l D ca a aR aT aH aD aK aI aC aS aY lt 4 320 (nI 80) tS tc oF la (xs (x + 1).toNatClampNeg) (xs (x + 2).toNatClampNeg) (xs (x + 3).toNatClampNeg) _ (hD.subM [0, 4, 5, 6, 31, 32] (by decide) rfl) (s_put h4s hT (xs (x + 1).toNatClampNeg) (xs (x + 2).toNatClampNeg) (xs (x + 3).toNatClampNeg))
  refine wr_calliK (ws1 := fun zu => WL ca a aR aT aH aD aK aI aC aS aY a8 lt rs rc tS (zu.1) hk hw ho hg he hr hd (nI n0) (nI s0) (nI d0) ek ew eo eg ee er ed zz zB zC kept il io ih ct tp bo (zu.2.1) (zu.2.2) mS mW xS xW now keeps kM lt tp bo fi fs rd at8 costs ways reach) (wr := ([1, 2, 3, 7, 8, 9, 10, 11, 12, 13, 14, 15, 16, 17, 18, 19, 20, 21, 22, 23, 24, 25, 26, 27, 28, 29, 30, 33, 34, 35, 36, 37, 38, 39, 40, 41, 42, 43, 44, 45] : List Nat).filterMap (fun zi => (WL ca a aR aT aH aD aK aI aC aS aY a8 lt rs rc tS tc hk hw ho hg he hr hd (nI n0) (nI s0) (nI d0) ek ew eo eg ee er ed zz zB zC kept il io ih ct tp bo oF la mS mW xS xW now keeps kM lt tp bo fi fs rd at8 costs ways reach : va_W)[zi]?)) (n := 46) (va_runV (As := [.int ((xs (x + 1).toNatClampNeg)), .int ((xs (x + 2).toNatClampNeg)), .int ((xs (x + 3).toNatClampNeg))]) (rest := []) ⟨hx, hb, hml, hown, hts⟩ hc (cwV 3 hts gL_law_X7_put rfl rfl rfl (by decide +kernel) ⟨Nat.le_of_ble_eq_true rfl, Nat.le_of_ble_eq_true rfl⟩) (PcX.preV (q := (RX7, TX7, 10)) (ci := 6) (q0 := 0) hK hP rfl rfl (hP.subM [0, 4, 5, 6, 31, 32] rfl)) rfl rfl hl.1 rfl (lv_room (Nat.le_of_ble_eq_true rfl)) dL_law_483 hf0) hP hD hS [0, 4, 5, 6, 31, 32] [1, 2, 3, 7, 8, 9, 10, 11, 12, 13, 14, 15, 16, 17, 18, 19, 20, 21, 22, 23, 24, 25, 26, 27, 28, 29, 30, 33, 34, 35, 36, 37, 38, 39, 40, 41, 42, 43, 44, 45] rfl (fun _ => rfl) rfl (fun _ => rfl) (fun _ => rfl) (fun _ => rfl) (by decide +kernel) (by decide +kernel) (fun r7 zu H1 locs1 hp hP1 hD1 hS1 hk1 => ?_)
  obtain ⟨tc_7, oF_7, la_7⟩ := zu
  try dsimp only at hp
  have hKR := hKR.frame hk1
  have hP : va_P D vwCl (WL ca a aR aT aH aD aK aI aC aS aY a8 lt rs rc tS tc_7 hk hw ho hg he hr hd (nI n0) (nI s0) (nI d0) ek ew eo eg ee er ed zz zB zC kept il io ih ct tp bo oF_7 la_7 mS mW xS xW now keeps kM lt tp bo fi fs rd at8 costs ways reach) H1 := hP1
  have hD : va_D A (WL ca a aR aT aH aD aK aI aC aS aY a8 lt rs rc tS tc_7 hk hw ho hg he hr hd (nI n0) (nI s0) (nI d0) ek ew eo eg ee er ed zz zB zC kept il io ih ct tp bo oF_7 la_7 mS mW xS xW now keeps kM lt tp bo fi fs rd at8 costs ways reach) := hD1
  have hS := hS1
  clear hP1 hD1 hS1 hk1
  refine lv_aload_n hx hb dL_law_486 rfl (lv_at hl 2 rfl) ?_
  refine lv_aload_n hx hb dL_law_487 rfl (lv_at hl 0 rfl) ?_
  refine lv_iload_n hx hb dL_law_488 rfl (lv_at hl 3 rfl) ?_
  refine lv_iconst (v := (1)) hx hb dL_law_489 (by decide) ?_
  refine lv_iadd hx hb dL_law_490 ?_
  refine va_sld hx hb hX hbl hbA hS h1 dL_law_491 ?_
  refine lv_aload_n hx hb dL_law_492 rfl (lv_at hl 0 rfl) ?_
  refine lv_iload_n hx hb dL_law_493 rfl (lv_at hl 3 rfl) ?_
  refine lv_iconst (v := (2)) hx hb dL_law_494 (by decide) ?_
  refine lv_iadd hx hb dL_law_495 ?_
  refine va_sld hx hb hX hbl hbA hS h2 dL_law_496 ?_
  refine lv_aload_n hx hb dL_law_497 rfl (lv_at hl 0 rfl) ?_
  refine lv_iload_n hx hb dL_law_498 rfl (lv_at hl 3 rfl) ?_
  refine lv_iconst (v := (3)) hx hb dL_law_499 (by decide) ?_
  refine lv_iadd hx hb dL_law_500 ?_
  refine va_sld hx hb hX hbl hbA hS h3 dL_law_501 ?_
  have hc := c_X8_put l D ca a8 mS mW xS xW now keeps kM lt tp bo fi fs rd at8 costs ways reach (xs (x + 1).toNatClampNeg) (xs (x + 2).toNatClampNeg) (xs (x + 3).toNatClampNeg) _ (hD.subM [33, 34, 35, 36, 37, 38, 39, 40, 41, 42, 43, 44, 45] (by decide) rfl) hp
  refine wr_calliK (ws1 := fun zu => WL ca a aR aT aH aD aK aI aC aS aY a8 lt rs rc tS tc_7 hk hw ho hg he hr hd (nI n0) (nI s0) (nI d0) ek ew eo eg ee er ed zz zB zC kept il io ih ct tp bo oF_7 la_7 mS mW xS (zu.1) now keeps kM lt tp bo (zu.2.1) (zu.2.2) rd at8 costs ways reach) (wr := ([0, 1, 2, 3, 4, 5, 6, 7, 8, 9, 10, 11, 12, 13, 14, 15, 16, 17, 18, 19, 20, 21, 22, 23, 24, 25, 26, 27, 28, 29, 30, 31, 32] : List Nat).filterMap (fun zi => (WL ca a aR aT aH aD aK aI aC aS aY a8 lt rs rc tS tc_7 hk hw ho hg he hr hd (nI n0) (nI s0) (nI d0) ek ew eo eg ee er ed zz zB zC kept il io ih ct tp bo oF_7 la_7 mS mW xS xW now keeps kM lt tp bo fi fs rd at8 costs ways reach : va_W)[zi]?)) (n := 46) (va_runV (As := [.int ((xs (x + 1).toNatClampNeg)), .int ((xs (x + 2).toNatClampNeg)), .int ((xs (x + 3).toNatClampNeg))]) (rest := [.int r7]) ⟨hx, hb, hml, hown, hts⟩ hc (cwV 3 hts gL_law_X8_put rfl rfl rfl (by decide +kernel) ⟨Nat.le_of_ble_eq_true rfl, Nat.le_of_ble_eq_true rfl⟩) (PcX.preV (q := (RX8, TX8, 17)) (ci := 7) (q0 := 33) hK hP rfl rfl (hP.subM [33, 34, 35, 36, 37, 38, 39, 40, 41, 42, 43, 44, 45] rfl)) rfl rfl hl.1 rfl (lv_room (Nat.le_of_ble_eq_true rfl)) dL_law_502 hf0) hP hD hS [33, 34, 35, 36, 37, 38, 39, 40, 41, 42, 43, 44, 45] [0, 1, 2, 3, 4, 5, 6, 7, 8, 9, 10, 11, 12, 13, 14, 15, 16, 17, 18, 19, 20, 21, 22, 23, 24, 25, 26, 27, 28, 29, 30, 31, 32] rfl (fun _ => rfl) rfl (fun _ => rfl) (fun _ => rfl) (fun _ => rfl) (by decide +kernel) (by decide +kernel) (fun r8 zu H1 locs1 hp hP1 hD1 hS1 hk1 => ?_)
  obtain ⟨xW_8, fi_8, fs_8⟩ := zu
  try dsimp only at hp
  have hKR := hKR.frame hk1
  have hP : va_P D vwCl (WL ca a aR aT aH aD aK aI aC aS aY a8 lt rs rc tS tc_7 hk hw ho hg he hr hd (nI n0) (nI s0) (nI d0) ek ew eo eg ee er ed zz zB zC kept il io ih ct tp bo oF_7 la_7 mS mW xS xW_8 now keeps kM lt tp bo fi_8 fs_8 rd at8 costs ways reach) H1 := hP1
  have hD : va_D A (WL ca a aR aT aH aD aK aI aC aS aY a8 lt rs rc tS tc_7 hk hw ho hg he hr hd (nI n0) (nI s0) (nI d0) ek ew eo eg ee er ed zz zB zC kept il io ih ct tp bo oF_7 la_7 mS mW xS xW_8 now keeps kM lt tp bo fi_8 fs_8 rd at8 costs ways reach) := hD1
  have hS := hS1
  clear hP1 hD1 hS1 hk1
  obtain ⟨hre, hE4, hT⟩ := hp
  refine lv_icmp_eq (tgt := 1265) hx hb dL_law_505 (by decide) (fun _ => ?_) (fun hne => absurd hre hne)
  exact W.widen (Nat.le_add_right _ _) (Nat.le_add_right _ _) (kk _ _ ⟨_, _, _, _, _, _, _, _, _, _, _, _, _, _, _, _, _, _, _, _, _, _, _, _, _, _, _, _, _, _, _, _, _, _, _, _, _, _, _, _, _, _, _, _, _, _, _, _, hP, hD, ⟨_, h6⟩, hE4, hT, ⟨n0, s0, d0, h0, rfl, rfl, rfl, hPh⟩, hKR⟩ hS)
set_option maxHeartbeats 4000000 in
set_option maxRecDepth 100000 in
theorem lw_c8 (l : Launch) (C0 : LawC p s m meth c D ca sa sd A b L xs) (hl : lv_has ls 4 [(0, .ref b), (1, .ref (a 0)), (2, .ref (a8 0)), (3, .int x)]) (h1 : vp_in (x + 1) L) (h2 : vp_in (x + 2) L) (h3 : vp_in (x + 3) L) (h4 : vp_in (x + 4) L) (h5 : vp_in (x + 5) L) (hf0 : cn + 0 ≤ room_1.cells ∧ sn + 0 ≤ room_1.slots) (hf8 : cn + 8 ≤ room_1.cells ∧ sn + 122 ≤ room_1.slots) (kk : LwG p l e s m below meth c Q A b ls (Inv D ca A a aR aT aH aD aK aI aC aS aY a8) (cn + 8) (sn + 130) 1265) : LwG p l e s m below meth c Q A b ls (Inv D ca A a aR aT aH aD aK aI aC aS aY a8) cn sn 510 := by
  obtain ⟨hx, hb, hr, hml, hown, hts, hX, hbl, hbA, hA, hK, hSX⟩ := C0
  intro Hh locs hI hS
  obtain ⟨lt, rs, rc, tS, tc, hk, hw, ho, hg, he, hr, hd, sz, sB, dC, ek, ew, eo, eg, ee, er, ed, zz, zB, zC, kept, il, io, ih, ct, tp, bo, oF, la, mS, mW, xS, xW, now, keeps, kM, fi, fs, rd, at8, costs, ways, reach, hP, hD, ⟨m6, h6⟩, ⟨m4, h4s⟩, hT, hQ, hKR⟩ := hI
  obtain ⟨n0, s0, d0, h0, rfl, rfl, rfl, hPh⟩ := hQ
  refine lv_aload_n hx hb dL_law_510 rfl (lv_at hl 1 rfl) ?_
  refine lv_aload_n hx hb dL_law_511 rfl (lv_at hl 0 rfl) ?_
  refine lv_iload_n hx hb dL_law_512 rfl (lv_at hl 3 rfl) ?_
  refine lv_iconst (v := (1)) hx hb dL_law_513 (by decide) ?_
  refine lv_iadd hx hb dL_law_514 ?_
  refine va_sld hx hb hX hbl hbA hS h1 dL_law_515 ?_
  have hc := c_X7_fault l sa sd D ca a aR aT aH aD aK aI aC aS aY lt 4 320 (nI 80) tS tc ek ew eo eg ee er ed zz zB zC oF la (xs (x + 1).toNatClampNeg) _ (hD.subM [0, 4, 5, 6, 15, 16, 17, 18, 19, 20, 21, 22, 31, 32] (by decide) rfl) (s_fault h4s hT ek ew eo eg ee er rd zz zB zC at8 (xs (x + 1).toNatClampNeg))
  refine wr_calliK (ws1 := fun zu => WL ca a aR aT aH aD aK aI aC aS aY a8 lt rs rc tS tc hk hw ho hg he hr hd (nI n0) (nI s0) (nI d0) (zu.1) (zu.2.1) (zu.2.2.1) (zu.2.2.2.1) (zu.2.2.2.2.1) (zu.2.2.2.2.2.1) ed (zu.2.2.2.2.2.2.1) (zu.2.2.2.2.2.2.2.1) (zu.2.2.2.2.2.2.2.2.1) kept il io ih ct tp bo (zu.2.2.2.2.2.2.2.2.2.1) (zu.2.2.2.2.2.2.2.2.2.2) mS mW xS xW now keeps kM lt tp bo fi fs rd at8 costs ways reach) (wr := ([1, 2, 3, 7, 8, 9, 10, 11, 12, 13, 14, 23, 24, 25, 26, 27, 28, 29, 30, 33, 34, 35, 36, 37, 38, 39, 40, 41, 42, 43, 44, 45] : List Nat).filterMap (fun zi => (WL ca a aR aT aH aD aK aI aC aS aY a8 lt rs rc tS tc hk hw ho hg he hr hd (nI n0) (nI s0) (nI d0) ek ew eo eg ee er ed zz zB zC kept il io ih ct tp bo oF la mS mW xS xW now keeps kM lt tp bo fi fs rd at8 costs ways reach : va_W)[zi]?)) (n := 46) (va_runV (As := [.int ((xs (x + 1).toNatClampNeg))]) (rest := []) ⟨hx, hb, hml, hown, hts⟩ hc (cwV 1 hts gL_law_X7_fault rfl rfl rfl (by decide +kernel) ⟨Nat.le_of_ble_eq_true rfl, Nat.le_of_ble_eq_true rfl⟩) (PcS.preV (q := (RX7, TX7, 10)) (ci := 6) (q0 := 0) hK ((hSX.now hS).of hD [0, 4, 5, 6, 15, 16, 17, 18, 19, 20, 21, 22, 31, 32] rfl) hP rfl rfl (hP.subM [0, 4, 5, 6, 15, 16, 17, 18, 19, 20, 21, 22, 31, 32] rfl)) rfl rfl hl.1 rfl (lv_room (Nat.le_of_ble_eq_true rfl)) dL_law_516 hf0) hP hD hS [0, 4, 5, 6, 15, 16, 17, 18, 19, 20, 21, 22, 31, 32] [1, 2, 3, 7, 8, 9, 10, 11, 12, 13, 14, 23, 24, 25, 26, 27, 28, 29, 30, 33, 34, 35, 36, 37, 38, 39, 40, 41, 42, 43, 44, 45] rfl (fun _ => rfl) rfl (fun _ => rfl) (fun _ => rfl) (fun _ => rfl) (by decide +kernel) (by decide +kernel) (fun r7 zu H1 locs1 hp hP1 hD1 hS1 hk1 => ?_)
  obtain ⟨ek_7, ew_7, eo_7, eg_7, ee_7, er_7, zz_7, zB_7, zC_7, oF_7, la_7⟩ := zu
  try dsimp only at hp
  have hKR := hKR.frame hk1
  have hP : va_P D vwCl (WL ca a aR aT aH aD aK aI aC aS aY a8 lt rs rc tS tc hk hw ho hg he hr hd (nI n0) (nI s0) (nI d0) ek_7 ew_7 eo_7 eg_7 ee_7 er_7 ed zz_7 zB_7 zC_7 kept il io ih ct tp bo oF_7 la_7 mS mW xS xW now keeps kM lt tp bo fi fs rd at8 costs ways reach) H1 := hP1
  have hD : va_D A (WL ca a aR aT aH aD aK aI aC aS aY a8 lt rs rc tS tc hk hw ho hg he hr hd (nI n0) (nI s0) (nI d0) ek_7 ew_7 eo_7 eg_7 ee_7 er_7 ed zz_7 zB_7 zC_7 kept il io ih ct tp bo oF_7 la_7 mS mW xS xW now keeps kM lt tp bo fi fs rd at8 costs ways reach) := hD1
  have hS := hS1
  clear hP1 hD1 hS1 hk1
  refine lv_aload_n hx hb dL_law_519 rfl (lv_at hl 2 rfl) ?_
  refine lv_aload_n hx hb dL_law_520 rfl (lv_at hl 0 rfl) ?_
  refine lv_iload_n hx hb dL_law_521 rfl (lv_at hl 3 rfl) ?_
  refine lv_iconst (v := (1)) hx hb dL_law_522 (by decide) ?_
  refine lv_iadd hx hb dL_law_523 ?_
  refine va_sld hx hb hX hbl hbA hS h1 dL_law_524 ?_
  have hc := c_X8_fault l D ca a8 mS mW xS xW now keeps kM lt tp bo fi fs rd at8 costs ways reach (xs (x + 1).toNatClampNeg) _ (hD.subM [33, 34, 35, 36, 37, 38, 39, 40, 41, 42, 43, 44, 45] (by decide) rfl) hp
  refine wr_calliK (ws1 := fun zu => WL ca a aR aT aH aD aK aI aC aS aY a8 lt rs rc tS tc hk hw ho hg he hr hd (nI n0) (nI s0) (nI d0) ek_7 ew_7 eo_7 eg_7 ee_7 er_7 ed zz_7 zB_7 zC_7 kept il io ih ct tp bo oF_7 la_7 mS mW xS xW now keeps kM lt tp bo (zu.1) (zu.2.1) (zu.2.2.1) (zu.2.2.2) costs ways reach) (wr := ([0, 1, 2, 3, 4, 5, 6, 7, 8, 9, 10, 11, 12, 13, 14, 15, 16, 17, 18, 19, 20, 21, 22, 23, 24, 25, 26, 27, 28, 29, 30, 31, 32] : List Nat).filterMap (fun zi => (WL ca a aR aT aH aD aK aI aC aS aY a8 lt rs rc tS tc hk hw ho hg he hr hd (nI n0) (nI s0) (nI d0) ek_7 ew_7 eo_7 eg_7 ee_7 er_7 ed zz_7 zB_7 zC_7 kept il io ih ct tp bo oF_7 la_7 mS mW xS xW now keeps kM lt tp bo fi fs rd at8 costs ways reach : va_W)[zi]?)) (n := 46) (va_runV (As := [.int ((xs (x + 1).toNatClampNeg))]) (rest := [.int r7]) ⟨hx, hb, hml, hown, hts⟩ hc (cwV 1 hts gL_law_X8_fault rfl rfl rfl (by decide +kernel) ⟨Nat.le_of_ble_eq_true rfl, Nat.le_of_ble_eq_true rfl⟩) (PcX.preV (q := (RX8, TX8, 17)) (ci := 7) (q0 := 33) hK hP rfl rfl (hP.subM [33, 34, 35, 36, 37, 38, 39, 40, 41, 42, 43, 44, 45] rfl)) rfl rfl hl.1 rfl (lv_room (Nat.le_of_ble_eq_true rfl)) dL_law_525 hf0) hP hD hS [33, 34, 35, 36, 37, 38, 39, 40, 41, 42, 43, 44, 45] [0, 1, 2, 3, 4, 5, 6, 7, 8, 9, 10, 11, 12, 13, 14, 15, 16, 17, 18, 19, 20, 21, 22, 23, 24, 25, 26, 27, 28, 29, 30, 31, 32] rfl (fun _ => rfl) rfl (fun _ => rfl) (fun _ => rfl) (fun _ => rfl) (by decide +kernel) (by decide +kernel) (fun r8 zu H1 locs1 hp hP1 hD1 hS1 hk1 => ?_)
  obtain ⟨fi_8, fs_8, rd_8, at8_8⟩ := zu
  try dsimp only at hp
  have hKR := hKR.frame hk1
  have hP : va_P D vwCl (WL ca a aR aT aH aD aK aI aC aS aY a8 lt rs rc tS tc hk hw ho hg he hr hd (nI n0) (nI s0) (nI d0) ek_7 ew_7 eo_7 eg_7 ee_7 er_7 ed zz_7 zB_7 zC_7 kept il io ih ct tp bo oF_7 la_7 mS mW xS xW now keeps kM lt tp bo fi_8 fs_8 rd_8 at8_8 costs ways reach) H1 := hP1
  have hD : va_D A (WL ca a aR aT aH aD aK aI aC aS aY a8 lt rs rc tS tc hk hw ho hg he hr hd (nI n0) (nI s0) (nI d0) ek_7 ew_7 eo_7 eg_7 ee_7 er_7 ed zz_7 zB_7 zC_7 kept il io ih ct tp bo oF_7 la_7 mS mW xS xW now keeps kM lt tp bo fi_8 fs_8 rd_8 at8_8 costs ways reach) := hD1
  have hS := hS1
  clear hP1 hD1 hS1 hk1
  obtain ⟨hre, hT⟩ := hp
  refine lv_icmp_eq (tgt := 1265) hx hb dL_law_528 (by decide) (fun _ => ?_) (fun hne => absurd hre hne)
  exact W.widen (Nat.le_add_right _ _) (Nat.le_add_right _ _) (kk _ _ ⟨_, _, _, _, _, _, _, _, _, _, _, _, _, _, _, _, _, _, _, _, _, _, _, _, _, _, _, _, _, _, _, _, _, _, _, _, _, _, _, _, _, _, _, _, _, _, _, _, hP, hD, ⟨_, h6⟩, ⟨_, h4s⟩, hT, ⟨n0, s0, d0, h0, rfl, rfl, rfl, hPh⟩, hKR⟩ hS)
set_option maxHeartbeats 4000000 in
set_option maxRecDepth 100000 in
theorem lw_c9 (l : Launch) (C0 : LawC p s m meth c D ca sa sd A b L xs) (hl : lv_has ls 4 [(0, .ref b), (1, .ref (a 0)), (2, .ref (a8 0)), (3, .int x)]) (h1 : vp_in (x + 1) L) (h2 : vp_in (x + 2) L) (h3 : vp_in (x + 3) L) (h4 : vp_in (x + 4) L) (h5 : vp_in (x + 5) L) (hf0 : cn + 0 ≤ room_1.cells ∧ sn + 0 ≤ room_1.slots) (hf8 : cn + 8 ≤ room_1.cells ∧ sn + 122 ≤ room_1.slots) (kk : LwG p l e s m below meth c Q A b ls (Inv D ca A a aR aT aH aD aK aI aC aS aY a8) (cn + 8) (sn + 130) 1265) : LwG p l e s m below meth c Q A b ls (Inv D ca A a aR aT aH aD aK aI aC aS aY a8) cn sn 533 := by
  obtain ⟨hx, hb, hr, hml, hown, hts, hX, hbl, hbA, hA, hK, hSX⟩ := C0
  intro Hh locs hI hS
  obtain ⟨lt, rs, rc, tS, tc, hk, hw, ho, hg, he, hr, hd, sz, sB, dC, ek, ew, eo, eg, ee, er, ed, zz, zB, zC, kept, il, io, ih, ct, tp, bo, oF, la, mS, mW, xS, xW, now, keeps, kM, fi, fs, rd, at8, costs, ways, reach, hP, hD, ⟨m6, h6⟩, ⟨m4, h4s⟩, hT, hQ, hKR⟩ := hI
  obtain ⟨n0, s0, d0, h0, rfl, rfl, rfl, hPh⟩ := hQ
  refine lv_aload_n hx hb dL_law_533 rfl (lv_at hl 1 rfl) ?_
  refine lv_aload_n hx hb dL_law_534 rfl (lv_at hl 0 rfl) ?_
  refine lv_iload_n hx hb dL_law_535 rfl (lv_at hl 3 rfl) ?_
  refine lv_iconst (v := (1)) hx hb dL_law_536 (by decide) ?_
  refine lv_iadd hx hb dL_law_537 ?_
  refine va_sld hx hb hX hbl hbA hS h1 dL_law_538 ?_
  have hc := c_X7_heap l sa sd D ca a aR aT aH aD aK aI aC aS aY lt 4 320 (nI 80) tS tc hk hw ho hg he hr hd (nI n0) (nI s0) (nI d0) ek ew eo eg ee er ed zz zB zC kept oF la (xs (x + 1).toNatClampNeg) _ (hD.subM [0, 4, 5, 6, 7, 8, 9, 10, 11, 12, 13, 14, 15, 16, 17, 18, 19, 20, 21, 22, 23, 31, 32] (by decide) rfl) (s_heap hPh h4s hT ek ew eo eg ee er ed rd zz zB zC at8 kept kM (xs (x + 1).toNatClampNeg))
  refine wr_calliK (ws1 := fun zu => WL ca a aR aT aH aD aK aI aC aS aY a8 lt rs rc tS tc (zu.1) (zu.2.1) (zu.2.2.1) (zu.2.2.2.1) (zu.2.2.2.2.1) (zu.2.2.2.2.2.1) (zu.2.2.2.2.2.2.1) (zu.2.2.2.2.2.2.2.1) (zu.2.2.2.2.2.2.2.2.1) (zu.2.2.2.2.2.2.2.2.2.1) (zu.2.2.2.2.2.2.2.2.2.2.1) (zu.2.2.2.2.2.2.2.2.2.2.2.1) (zu.2.2.2.2.2.2.2.2.2.2.2.2.1) (zu.2.2.2.2.2.2.2.2.2.2.2.2.2.1) (zu.2.2.2.2.2.2.2.2.2.2.2.2.2.2.1) (zu.2.2.2.2.2.2.2.2.2.2.2.2.2.2.2.1) ed (zu.2.2.2.2.2.2.2.2.2.2.2.2.2.2.2.2.1) (zu.2.2.2.2.2.2.2.2.2.2.2.2.2.2.2.2.2.1) (zu.2.2.2.2.2.2.2.2.2.2.2.2.2.2.2.2.2.2.1) (zu.2.2.2.2.2.2.2.2.2.2.2.2.2.2.2.2.2.2.2.1) il io ih ct tp bo (zu.2.2.2.2.2.2.2.2.2.2.2.2.2.2.2.2.2.2.2.2.1) (zu.2.2.2.2.2.2.2.2.2.2.2.2.2.2.2.2.2.2.2.2.2) mS mW xS xW now keeps kM lt tp bo fi fs rd at8 costs ways reach) (wr := ([1, 2, 3, 24, 25, 26, 27, 28, 29, 30, 33, 34, 35, 36, 37, 38, 39, 40, 41, 42, 43, 44, 45] : List Nat).filterMap (fun zi => (WL ca a aR aT aH aD aK aI aC aS aY a8 lt rs rc tS tc hk hw ho hg he hr hd (nI n0) (nI s0) (nI d0) ek ew eo eg ee er ed zz zB zC kept il io ih ct tp bo oF la mS mW xS xW now keeps kM lt tp bo fi fs rd at8 costs ways reach : va_W)[zi]?)) (n := 46) (va_runV (As := [.int ((xs (x + 1).toNatClampNeg))]) (rest := []) ⟨hx, hb, hml, hown, hts⟩ hc (cwV 1 hts gL_law_X7_heap rfl rfl rfl (by decide +kernel) ⟨Nat.le_of_ble_eq_true rfl, Nat.le_of_ble_eq_true rfl⟩) (PcS.preV (q := (RX7, TX7, 10)) (ci := 6) (q0 := 0) hK ((hSX.now hS).of hD [0, 4, 5, 6, 7, 8, 9, 10, 11, 12, 13, 14, 15, 16, 17, 18, 19, 20, 21, 22, 23, 31, 32] rfl) hP rfl rfl (hP.subM [0, 4, 5, 6, 7, 8, 9, 10, 11, 12, 13, 14, 15, 16, 17, 18, 19, 20, 21, 22, 23, 31, 32] rfl)) rfl rfl hl.1 rfl (lv_room (Nat.le_of_ble_eq_true rfl)) dL_law_539 hf0) hP hD hS [0, 4, 5, 6, 7, 8, 9, 10, 11, 12, 13, 14, 15, 16, 17, 18, 19, 20, 21, 22, 23, 31, 32] [1, 2, 3, 24, 25, 26, 27, 28, 29, 30, 33, 34, 35, 36, 37, 38, 39, 40, 41, 42, 43, 44, 45] rfl (fun _ => rfl) rfl (fun _ => rfl) (fun _ => rfl) (fun _ => rfl) (by decide +kernel) (by decide +kernel) (fun r7 zu H1 locs1 hp hP1 hD1 hS1 hk1 => ?_)
  obtain ⟨hk_7, hw_7, ho_7, hg_7, he_7, hr_7, hd_7, sz_7, sB_7, dC_7, ek_7, ew_7, eo_7, eg_7, ee_7, er_7, zz_7, zB_7, zC_7, kept_7, oF_7, la_7⟩ := zu
  try dsimp only at hp
  have hKR := hKR.frame hk1
  have hP : va_P D vwCl (WL ca a aR aT aH aD aK aI aC aS aY a8 lt rs rc tS tc hk_7 hw_7 ho_7 hg_7 he_7 hr_7 hd_7 sz_7 sB_7 dC_7 ek_7 ew_7 eo_7 eg_7 ee_7 er_7 ed zz_7 zB_7 zC_7 kept_7 il io ih ct tp bo oF_7 la_7 mS mW xS xW now keeps kM lt tp bo fi fs rd at8 costs ways reach) H1 := hP1
  have hD : va_D A (WL ca a aR aT aH aD aK aI aC aS aY a8 lt rs rc tS tc hk_7 hw_7 ho_7 hg_7 he_7 hr_7 hd_7 sz_7 sB_7 dC_7 ek_7 ew_7 eo_7 eg_7 ee_7 er_7 ed zz_7 zB_7 zC_7 kept_7 il io ih ct tp bo oF_7 la_7 mS mW xS xW now keeps kM lt tp bo fi fs rd at8 costs ways reach) := hD1
  have hS := hS1
  clear hP1 hD1 hS1 hk1
  refine lv_aload_n hx hb dL_law_542 rfl (lv_at hl 2 rfl) ?_
  refine lv_aload_n hx hb dL_law_543 rfl (lv_at hl 0 rfl) ?_
  refine lv_iload_n hx hb dL_law_544 rfl (lv_at hl 3 rfl) ?_
  refine lv_iconst (v := (1)) hx hb dL_law_545 (by decide) ?_
  refine lv_iadd hx hb dL_law_546 ?_
  refine va_sld hx hb hX hbl hbA hS h1 dL_law_547 ?_
  have hc := c_X8_heap l D ca a8 mS mW xS xW now keeps kM lt tp bo fi fs rd at8 costs ways reach (xs (x + 1).toNatClampNeg) _ (hD.subM [33, 34, 35, 36, 37, 38, 39, 40, 41, 42, 43, 44, 45] (by decide) rfl) hp
  refine wr_calliK (ws1 := fun zu => WL ca a aR aT aH aD aK aI aC aS aY a8 lt rs rc tS tc hk_7 hw_7 ho_7 hg_7 he_7 hr_7 hd_7 sz_7 sB_7 dC_7 ek_7 ew_7 eo_7 eg_7 ee_7 er_7 ed zz_7 zB_7 zC_7 kept_7 il io ih ct tp bo oF_7 la_7 mS mW xS xW (zu.1) keeps (zu.2.1) lt tp bo (zu.2.2.1) (zu.2.2.2.1) (zu.2.2.2.2.1) (zu.2.2.2.2.2) costs ways reach) (wr := ([0, 1, 2, 3, 4, 5, 6, 7, 8, 9, 10, 11, 12, 13, 14, 15, 16, 17, 18, 19, 20, 21, 22, 23, 24, 25, 26, 27, 28, 29, 30, 31, 32] : List Nat).filterMap (fun zi => (WL ca a aR aT aH aD aK aI aC aS aY a8 lt rs rc tS tc hk_7 hw_7 ho_7 hg_7 he_7 hr_7 hd_7 sz_7 sB_7 dC_7 ek_7 ew_7 eo_7 eg_7 ee_7 er_7 ed zz_7 zB_7 zC_7 kept_7 il io ih ct tp bo oF_7 la_7 mS mW xS xW now keeps kM lt tp bo fi fs rd at8 costs ways reach : va_W)[zi]?)) (n := 46) (va_runV (As := [.int ((xs (x + 1).toNatClampNeg))]) (rest := [.int r7]) ⟨hx, hb, hml, hown, hts⟩ hc (cwV 1 hts gL_law_X8_heap rfl rfl rfl (by decide +kernel) ⟨Nat.le_of_ble_eq_true rfl, Nat.le_of_ble_eq_true rfl⟩) (PcX.preV (q := (RX8, TX8, 17)) (ci := 7) (q0 := 33) hK hP rfl rfl (hP.subM [33, 34, 35, 36, 37, 38, 39, 40, 41, 42, 43, 44, 45] rfl)) rfl rfl hl.1 rfl (lv_room (Nat.le_of_ble_eq_true rfl)) dL_law_548 hf0) hP hD hS [33, 34, 35, 36, 37, 38, 39, 40, 41, 42, 43, 44, 45] [0, 1, 2, 3, 4, 5, 6, 7, 8, 9, 10, 11, 12, 13, 14, 15, 16, 17, 18, 19, 20, 21, 22, 23, 24, 25, 26, 27, 28, 29, 30, 31, 32] rfl (fun _ => rfl) rfl (fun _ => rfl) (fun _ => rfl) (fun _ => rfl) (by decide +kernel) (by decide +kernel) (fun r8 zu H1 locs1 hp hP1 hD1 hS1 hk1 => ?_)
  obtain ⟨now_8, kM_8, fi_8, fs_8, rd_8, at8_8⟩ := zu
  try dsimp only at hp
  have hKR := hKR.frame hk1
  have hP : va_P D vwCl (WL ca a aR aT aH aD aK aI aC aS aY a8 lt rs rc tS tc hk_7 hw_7 ho_7 hg_7 he_7 hr_7 hd_7 sz_7 sB_7 dC_7 ek_7 ew_7 eo_7 eg_7 ee_7 er_7 ed zz_7 zB_7 zC_7 kept_7 il io ih ct tp bo oF_7 la_7 mS mW xS xW now_8 keeps kM_8 lt tp bo fi_8 fs_8 rd_8 at8_8 costs ways reach) H1 := hP1
  have hD : va_D A (WL ca a aR aT aH aD aK aI aC aS aY a8 lt rs rc tS tc hk_7 hw_7 ho_7 hg_7 he_7 hr_7 hd_7 sz_7 sB_7 dC_7 ek_7 ew_7 eo_7 eg_7 ee_7 er_7 ed zz_7 zB_7 zC_7 kept_7 il io ih ct tp bo oF_7 la_7 mS mW xS xW now_8 keeps kM_8 lt tp bo fi_8 fs_8 rd_8 at8_8 costs ways reach) := hD1
  have hS := hS1
  clear hP1 hD1 hS1 hk1
  obtain ⟨hre, hT, hQ, hkn⟩ := hp
  have hKR : KRel D ca A (LL a aR aT aH aD aK aI aC aS aY a8) kept_7 kM_8 keeps H1 := by
      rcases hkn with ⟨ha1, ha2⟩ | hno
      · subst ha1; subst ha2; exact hKR
      · exact KRel.nil hno
  refine lv_icmp_eq (tgt := 1265) hx hb dL_law_551 (by decide) (fun _ => ?_) (fun hne => absurd hre hne)
  exact W.widen (Nat.le_add_right _ _) (Nat.le_add_right _ _) (kk _ _ ⟨_, _, _, _, _, _, _, _, _, _, _, _, _, _, _, _, _, _, _, _, _, _, _, _, _, _, _, _, _, _, _, _, _, _, _, _, _, _, _, _, _, _, _, _, _, _, _, _, hP, hD, ⟨_, h6⟩, ⟨_, h4s⟩, hT, hQ, hKR⟩ hS)
set_option maxHeartbeats 4000000 in
set_option maxRecDepth 100000 in
theorem lw_c10 (l : Launch) (C0 : LawC p s m meth c D ca sa sd A b L xs) (hl : lv_has ls 4 [(0, .ref b), (1, .ref (a 0)), (2, .ref (a8 0)), (3, .int x)]) (h1 : vp_in (x + 1) L) (h2 : vp_in (x + 2) L) (h3 : vp_in (x + 3) L) (h4 : vp_in (x + 4) L) (h5 : vp_in (x + 5) L) (hf0 : cn + 0 ≤ room_1.cells ∧ sn + 0 ≤ room_1.slots) (hf8 : cn + 8 ≤ room_1.cells ∧ sn + 122 ≤ room_1.slots) (kk : LwG p l e s m below meth c Q A b ls (Inv D ca A a aR aT aH aD aK aI aC aS aY a8) (cn + 8) (sn + 130) 1265) : LwG p l e s m below meth c Q A b ls (Inv D ca A a aR aT aH aD aK aI aC aS aY a8) cn sn 556 := by
  obtain ⟨hx, hb, hr, hml, hown, hts, hX, hbl, hbA, hA, hK, hSX⟩ := C0
  intro Hh locs hI hS
  obtain ⟨lt, rs, rc, tS, tc, hk, hw, ho, hg, he, hr, hd, sz, sB, dC, ek, ew, eo, eg, ee, er, ed, zz, zB, zC, kept, il, io, ih, ct, tp, bo, oF, la, mS, mW, xS, xW, now, keeps, kM, fi, fs, rd, at8, costs, ways, reach, hP, hD, ⟨m6, h6⟩, ⟨m4, h4s⟩, hT, hQ, hKR⟩ := hI
  obtain ⟨n0, s0, d0, h0, rfl, rfl, rfl, hPh⟩ := hQ
  refine lv_aload_n hx hb dL_law_556 rfl (lv_at hl 1 rfl) ?_
  refine lv_aload_n hx hb dL_law_557 rfl (lv_at hl 0 rfl) ?_
  refine lv_iload_n hx hb dL_law_558 rfl (lv_at hl 3 rfl) ?_
  refine lv_iconst (v := (1)) hx hb dL_law_559 (by decide) ?_
  refine lv_iadd hx hb dL_law_560 ?_
  refine va_sld hx hb hX hbl hbA hS h1 dL_law_561 ?_
  refine lv_aload_n hx hb dL_law_562 rfl (lv_at hl 0 rfl) ?_
  refine lv_iload_n hx hb dL_law_563 rfl (lv_at hl 3 rfl) ?_
  refine lv_iconst (v := (2)) hx hb dL_law_564 (by decide) ?_
  refine lv_iadd hx hb dL_law_565 ?_
  refine va_sld hx hb hX hbl hbA hS h2 dL_law_566 ?_
  have hc := c_X7_saying l D ca a aR aT aH aD aK aI aC aS aY lt hk hw ho hg he hr hd (nI n0) (nI s0) (nI d0) (xs (x + 1).toNatClampNeg) (xs (x + 2).toNatClampNeg) _ (hD.subM [0, 7, 8, 9, 10, 11, 12, 13, 14] (by decide) rfl) (s_saying hPh.1 hPh.2.1 hPh.2.2.1 hPh.s4 hPh.2.2.2.2.2.2.1 lt (xs (x + 1).toNatClampNeg) (xs (x + 2).toNatClampNeg))
  refine wr_calliK (ws1 := fun zu => WL ca a aR aT aH aD aK aI aC aS aY a8 (zu) rs rc tS tc hk hw ho hg he hr hd (nI n0) (nI s0) (nI d0) ek ew eo eg ee er ed zz zB zC kept il io ih ct tp bo oF la mS mW xS xW now keeps kM lt tp bo fi fs rd at8 costs ways reach) (wr := ([1, 2, 3, 4, 5, 6, 15, 16, 17, 18, 19, 20, 21, 22, 23, 24, 25, 26, 27, 28, 29, 30, 31, 32, 33, 34, 35, 36, 37, 38, 39, 40, 41, 42, 43, 44, 45] : List Nat).filterMap (fun zi => (WL ca a aR aT aH aD aK aI aC aS aY a8 lt rs rc tS tc hk hw ho hg he hr hd (nI n0) (nI s0) (nI d0) ek ew eo eg ee er ed zz zB zC kept il io ih ct tp bo oF la mS mW xS xW now keeps kM lt tp bo fi fs rd at8 costs ways reach : va_W)[zi]?)) (n := 46) (va_runV (As := [.int ((xs (x + 1).toNatClampNeg)), .int ((xs (x + 2).toNatClampNeg))]) (rest := []) ⟨hx, hb, hml, hown, hts⟩ hc (cwV 2 hts gL_law_X7_saying rfl rfl rfl (by decide +kernel) ⟨Nat.le_of_ble_eq_true rfl, Nat.le_of_ble_eq_true rfl⟩) (PcX.preV (q := (RX7, TX7, 10)) (ci := 6) (q0 := 0) hK hP rfl rfl (hP.subM [0, 7, 8, 9, 10, 11, 12, 13, 14] rfl)) rfl rfl hl.1 rfl (lv_room (Nat.le_of_ble_eq_true rfl)) dL_law_567 hf0) hP hD hS [0, 7, 8, 9, 10, 11, 12, 13, 14] [1, 2, 3, 4, 5, 6, 15, 16, 17, 18, 19, 20, 21, 22, 23, 24, 25, 26, 27, 28, 29, 30, 31, 32, 33, 34, 35, 36, 37, 38, 39, 40, 41, 42, 43, 44, 45] rfl (fun _ => rfl) rfl (fun _ => rfl) (fun _ => rfl) (fun _ => rfl) (by decide +kernel) (by decide +kernel) (fun r7 zu H1 locs1 hp hP1 hD1 hS1 hk1 => ?_)
  obtain ⟨lt_7, rfl⟩ : ∃ zz, zz = zu := ⟨zu, rfl⟩
  try dsimp only at hp
  have hKR := hKR.frame hk1
  have hP : va_P D vwCl (WL ca a aR aT aH aD aK aI aC aS aY a8 lt_7 rs rc tS tc hk hw ho hg he hr hd (nI n0) (nI s0) (nI d0) ek ew eo eg ee er ed zz zB zC kept il io ih ct tp bo oF la mS mW xS xW now keeps kM lt tp bo fi fs rd at8 costs ways reach) H1 := hP1
  have hD : va_D A (WL ca a aR aT aH aD aK aI aC aS aY a8 lt_7 rs rc tS tc hk hw ho hg he hr hd (nI n0) (nI s0) (nI d0) ek ew eo eg ee er ed zz zB zC kept il io ih ct tp bo oF la mS mW xS xW now keeps kM lt tp bo fi fs rd at8 costs ways reach) := hD1
  have hS := hS1
  clear hP1 hD1 hS1 hk1
  refine lv_aload_n hx hb dL_law_570 rfl (lv_at hl 2 rfl) ?_
  refine lv_aload_n hx hb dL_law_571 rfl (lv_at hl 0 rfl) ?_
  refine lv_iload_n hx hb dL_law_572 rfl (lv_at hl 3 rfl) ?_
  refine lv_iconst (v := (1)) hx hb dL_law_573 (by decide) ?_
  refine lv_iadd hx hb dL_law_574 ?_
  refine va_sld hx hb hX hbl hbA hS h1 dL_law_575 ?_
  refine lv_aload_n hx hb dL_law_576 rfl (lv_at hl 0 rfl) ?_
  refine lv_iload_n hx hb dL_law_577 rfl (lv_at hl 3 rfl) ?_
  refine lv_iconst (v := (2)) hx hb dL_law_578 (by decide) ?_
  refine lv_iadd hx hb dL_law_579 ?_
  refine va_sld hx hb hX hbl hbA hS h2 dL_law_580 ?_
  have hc := c_X8_saying l D ca a8 mS mW xS xW now keeps kM lt tp bo fi fs rd at8 costs ways reach (xs (x + 1).toNatClampNeg) (xs (x + 2).toNatClampNeg) _ (hD.subM [33, 34, 35, 36, 37, 38, 39, 40, 41, 42, 43, 44, 45] (by decide) rfl) hp
  refine wr_calliK (ws1 := fun zu => WL ca a aR aT aH aD aK aI aC aS aY a8 lt_7 rs rc tS tc hk hw ho hg he hr hd (nI n0) (nI s0) (nI d0) ek ew eo eg ee er ed zz zB zC kept il io ih ct tp bo oF la mS mW xS xW now keeps kM (zu) tp bo fi fs rd at8 costs ways reach) (wr := ([0, 1, 2, 3, 4, 5, 6, 7, 8, 9, 10, 11, 12, 13, 14, 15, 16, 17, 18, 19, 20, 21, 22, 23, 24, 25, 26, 27, 28, 29, 30, 31, 32] : List Nat).filterMap (fun zi => (WL ca a aR aT aH aD aK aI aC aS aY a8 lt_7 rs rc tS tc hk hw ho hg he hr hd (nI n0) (nI s0) (nI d0) ek ew eo eg ee er ed zz zB zC kept il io ih ct tp bo oF la mS mW xS xW now keeps kM lt tp bo fi fs rd at8 costs ways reach : va_W)[zi]?)) (n := 46) (va_runV (As := [.int ((xs (x + 1).toNatClampNeg)), .int ((xs (x + 2).toNatClampNeg))]) (rest := [.int r7]) ⟨hx, hb, hml, hown, hts⟩ hc (cwV 2 hts gL_law_X8_saying rfl rfl rfl (by decide +kernel) ⟨Nat.le_of_ble_eq_true rfl, Nat.le_of_ble_eq_true rfl⟩) (PcX.preV (q := (RX8, TX8, 17)) (ci := 7) (q0 := 33) hK hP rfl rfl (hP.subM [33, 34, 35, 36, 37, 38, 39, 40, 41, 42, 43, 44, 45] rfl)) rfl rfl hl.1 rfl (lv_room (Nat.le_of_ble_eq_true rfl)) dL_law_581 hf0) hP hD hS [33, 34, 35, 36, 37, 38, 39, 40, 41, 42, 43, 44, 45] [0, 1, 2, 3, 4, 5, 6, 7, 8, 9, 10, 11, 12, 13, 14, 15, 16, 17, 18, 19, 20, 21, 22, 23, 24, 25, 26, 27, 28, 29, 30, 31, 32] rfl (fun _ => rfl) rfl (fun _ => rfl) (fun _ => rfl) (fun _ => rfl) (by decide +kernel) (by decide +kernel) (fun r8 zu H1 locs1 hp hP1 hD1 hS1 hk1 => ?_)
  obtain ⟨as__8, rfl⟩ : ∃ zz, zz = zu := ⟨zu, rfl⟩
  try dsimp only at hp
  have hKR := hKR.frame hk1
  have hP : va_P D vwCl (WL ca a aR aT aH aD aK aI aC aS aY a8 lt_7 rs rc tS tc hk hw ho hg he hr hd (nI n0) (nI s0) (nI d0) ek ew eo eg ee er ed zz zB zC kept il io ih ct tp bo oF la mS mW xS xW now keeps kM as__8 tp bo fi fs rd at8 costs ways reach) H1 := hP1
  have hD : va_D A (WL ca a aR aT aH aD aK aI aC aS aY a8 lt_7 rs rc tS tc hk hw ho hg he hr hd (nI n0) (nI s0) (nI d0) ek ew eo eg ee er ed zz zB zC kept il io ih ct tp bo oF la mS mW xS xW now keeps kM as__8 tp bo fi fs rd at8 costs ways reach) := hD1
  have hS := hS1
  clear hP1 hD1 hS1 hk1
  obtain ⟨hre, hlt⟩ := hp
  subst hlt
  refine lv_icmp_eq (tgt := 1265) hx hb dL_law_584 (by decide) (fun _ => ?_) (fun hne => absurd hre hne)
  exact W.widen (Nat.le_add_right _ _) (Nat.le_add_right _ _) (kk _ _ ⟨_, _, _, _, _, _, _, _, _, _, _, _, _, _, _, _, _, _, _, _, _, _, _, _, _, _, _, _, _, _, _, _, _, _, _, _, _, _, _, _, _, _, _, _, _, _, _, _, hP, hD, ⟨_, h6⟩, ⟨_, h4s⟩, hT, ⟨n0, s0, d0, h0, rfl, rfl, rfl, hPh⟩, hKR⟩ hS)
set_option maxHeartbeats 4000000 in
set_option maxRecDepth 100000 in
theorem lw_c11 (l : Launch) (C0 : LawC p s m meth c D ca sa sd A b L xs) (hl : lv_has ls 4 [(0, .ref b), (1, .ref (a 0)), (2, .ref (a8 0)), (3, .int x)]) (h1 : vp_in (x + 1) L) (h2 : vp_in (x + 2) L) (h3 : vp_in (x + 3) L) (h4 : vp_in (x + 4) L) (h5 : vp_in (x + 5) L) (hf0 : cn + 0 ≤ room_1.cells ∧ sn + 0 ≤ room_1.slots) (hf8 : cn + 8 ≤ room_1.cells ∧ sn + 122 ≤ room_1.slots) (kk : LwG p l e s m below meth c Q A b ls (Inv D ca A a aR aT aH aD aK aI aC aS aY a8) (cn + 8) (sn + 130) 1265) : LwG p l e s m below meth c Q A b ls (Inv D ca A a aR aT aH aD aK aI aC aS aY a8) cn sn 589 := by
  obtain ⟨hx, hb, hr, hml, hown, hts, hX, hbl, hbA, hA, hK, hSX⟩ := C0
  intro Hh locs hI hS
  obtain ⟨lt, rs, rc, tS, tc, hk, hw, ho, hg, he, hr, hd, sz, sB, dC, ek, ew, eo, eg, ee, er, ed, zz, zB, zC, kept, il, io, ih, ct, tp, bo, oF, la, mS, mW, xS, xW, now, keeps, kM, fi, fs, rd, at8, costs, ways, reach, hP, hD, ⟨m6, h6⟩, ⟨m4, h4s⟩, hT, hQ, hKR⟩ := hI
  obtain ⟨n0, s0, d0, h0, rfl, rfl, rfl, hPh⟩ := hQ
  refine lv_aload_n hx hb dL_law_589 rfl (lv_at hl 1 rfl) ?_
  refine lv_aload_n hx hb dL_law_590 rfl (lv_at hl 0 rfl) ?_
  refine lv_iload_n hx hb dL_law_591 rfl (lv_at hl 3 rfl) ?_
  refine lv_iconst (v := (1)) hx hb dL_law_592 (by decide) ?_
  refine lv_iadd hx hb dL_law_593 ?_
  refine va_sld hx hb hX hbl hbA hS h1 dL_law_594 ?_
  refine lv_aload_n hx hb dL_law_595 rfl (lv_at hl 0 rfl) ?_
  refine lv_iload_n hx hb dL_law_596 rfl (lv_at hl 3 rfl) ?_
  refine lv_iconst (v := (2)) hx hb dL_law_597 (by decide) ?_
  refine lv_iadd hx hb dL_law_598 ?_
  refine va_sld hx hb hX hbl hbA hS h2 dL_law_599 ?_
  have hc := c_X7_mark l D ca a aR aT aH aD aK aI aC aS aY lt hk hw ho hg he hr hd (nI n0) (nI s0) (nI d0) ct oF la (xs (x + 1).toNatClampNeg) (xs (x + 2).toNatClampNeg) _ (hD.subM [0, 7, 8, 9, 10, 11, 12, 13, 14, 28, 29, 31, 32] (by decide) rfl) (s_mark hPh.1 hPh.2.1 hPh.2.2.1 hPh.s4 hPh.2.2.2.2.2.2.1 hT (xs (x + 1).toNatClampNeg) (xs (x + 2).toNatClampNeg))
  refine wr_calliK (ws1 := fun zu => WL ca a aR aT aH aD aK aI aC aS aY a8 lt rs rc tS tc hk hw ho hg he hr hd (nI n0) (nI s0) (nI d0) ek ew eo eg ee er ed zz zB zC kept il io ih ct tp bo (zu.1) (zu.2) mS mW xS xW now keeps kM lt tp bo fi fs rd at8 costs ways reach) (wr := ([1, 2, 3, 4, 5, 6, 15, 16, 17, 18, 19, 20, 21, 22, 23, 24, 25, 26, 27, 30, 33, 34, 35, 36, 37, 38, 39, 40, 41, 42, 43, 44, 45] : List Nat).filterMap (fun zi => (WL ca a aR aT aH aD aK aI aC aS aY a8 lt rs rc tS tc hk hw ho hg he hr hd (nI n0) (nI s0) (nI d0) ek ew eo eg ee er ed zz zB zC kept il io ih ct tp bo oF la mS mW xS xW now keeps kM lt tp bo fi fs rd at8 costs ways reach : va_W)[zi]?)) (n := 46) (va_runV (As := [.int ((xs (x + 1).toNatClampNeg)), .int ((xs (x + 2).toNatClampNeg))]) (rest := []) ⟨hx, hb, hml, hown, hts⟩ hc (cwV 2 hts gL_law_X7_mark rfl rfl rfl (by decide +kernel) ⟨Nat.le_of_ble_eq_true rfl, Nat.le_of_ble_eq_true rfl⟩) (PcX.preV (q := (RX7, TX7, 10)) (ci := 6) (q0 := 0) hK hP rfl rfl (hP.subM [0, 7, 8, 9, 10, 11, 12, 13, 14, 28, 29, 31, 32] rfl)) rfl rfl hl.1 rfl (lv_room (Nat.le_of_ble_eq_true rfl)) dL_law_600 hf0) hP hD hS [0, 7, 8, 9, 10, 11, 12, 13, 14, 28, 29, 31, 32] [1, 2, 3, 4, 5, 6, 15, 16, 17, 18, 19, 20, 21, 22, 23, 24, 25, 26, 27, 30, 33, 34, 35, 36, 37, 38, 39, 40, 41, 42, 43, 44, 45] rfl (fun _ => rfl) rfl (fun _ => rfl) (fun _ => rfl) (fun _ => rfl) (by decide +kernel) (by decide +kernel) (fun r7 zu H1 locs1 hp hP1 hD1 hS1 hk1 => ?_)
  obtain ⟨oF_7, la_7⟩ := zu
  try dsimp only at hp
  have hKR := hKR.frame hk1
  have hP : va_P D vwCl (WL ca a aR aT aH aD aK aI aC aS aY a8 lt rs rc tS tc hk hw ho hg he hr hd (nI n0) (nI s0) (nI d0) ek ew eo eg ee er ed zz zB zC kept il io ih ct tp bo oF_7 la_7 mS mW xS xW now keeps kM lt tp bo fi fs rd at8 costs ways reach) H1 := hP1
  have hD : va_D A (WL ca a aR aT aH aD aK aI aC aS aY a8 lt rs rc tS tc hk hw ho hg he hr hd (nI n0) (nI s0) (nI d0) ek ew eo eg ee er ed zz zB zC kept il io ih ct tp bo oF_7 la_7 mS mW xS xW now keeps kM lt tp bo fi fs rd at8 costs ways reach) := hD1
  have hS := hS1
  clear hP1 hD1 hS1 hk1
  refine lv_aload_n hx hb dL_law_603 rfl (lv_at hl 2 rfl) ?_
  refine lv_aload_n hx hb dL_law_604 rfl (lv_at hl 0 rfl) ?_
  refine lv_iload_n hx hb dL_law_605 rfl (lv_at hl 3 rfl) ?_
  refine lv_iconst (v := (1)) hx hb dL_law_606 (by decide) ?_
  refine lv_iadd hx hb dL_law_607 ?_
  refine va_sld hx hb hX hbl hbA hS h1 dL_law_608 ?_
  refine lv_aload_n hx hb dL_law_609 rfl (lv_at hl 0 rfl) ?_
  refine lv_iload_n hx hb dL_law_610 rfl (lv_at hl 3 rfl) ?_
  refine lv_iconst (v := (2)) hx hb dL_law_611 (by decide) ?_
  refine lv_iadd hx hb dL_law_612 ?_
  refine va_sld hx hb hX hbl hbA hS h2 dL_law_613 ?_
  have hc := c_X8_mark l D ca a8 mS mW xS xW now keeps kM lt tp bo fi fs rd at8 costs ways reach (xs (x + 1).toNatClampNeg) (xs (x + 2).toNatClampNeg) _ (hD.subM [33, 34, 35, 36, 37, 38, 39, 40, 41, 42, 43, 44, 45] (by decide) rfl) hp
  refine wr_calliK (ws1 := fun zu => WL ca a aR aT aH aD aK aI aC aS aY a8 lt rs rc tS tc hk hw ho hg he hr hd (nI n0) (nI s0) (nI d0) ek ew eo eg ee er ed zz zB zC kept il io ih ct tp bo oF_7 la_7 mS mW xS xW now keeps kM lt tp bo (zu.1) (zu.2) rd at8 costs ways reach) (wr := ([0, 1, 2, 3, 4, 5, 6, 7, 8, 9, 10, 11, 12, 13, 14, 15, 16, 17, 18, 19, 20, 21, 22, 23, 24, 25, 26, 27, 28, 29, 30, 31, 32] : List Nat).filterMap (fun zi => (WL ca a aR aT aH aD aK aI aC aS aY a8 lt rs rc tS tc hk hw ho hg he hr hd (nI n0) (nI s0) (nI d0) ek ew eo eg ee er ed zz zB zC kept il io ih ct tp bo oF_7 la_7 mS mW xS xW now keeps kM lt tp bo fi fs rd at8 costs ways reach : va_W)[zi]?)) (n := 46) (va_runV (As := [.int ((xs (x + 1).toNatClampNeg)), .int ((xs (x + 2).toNatClampNeg))]) (rest := [.int r7]) ⟨hx, hb, hml, hown, hts⟩ hc (cwV 2 hts gL_law_X8_mark rfl rfl rfl (by decide +kernel) ⟨Nat.le_of_ble_eq_true rfl, Nat.le_of_ble_eq_true rfl⟩) (PcX.preV (q := (RX8, TX8, 17)) (ci := 7) (q0 := 33) hK hP rfl rfl (hP.subM [33, 34, 35, 36, 37, 38, 39, 40, 41, 42, 43, 44, 45] rfl)) rfl rfl hl.1 rfl (lv_room (Nat.le_of_ble_eq_true rfl)) dL_law_614 hf0) hP hD hS [33, 34, 35, 36, 37, 38, 39, 40, 41, 42, 43, 44, 45] [0, 1, 2, 3, 4, 5, 6, 7, 8, 9, 10, 11, 12, 13, 14, 15, 16, 17, 18, 19, 20, 21, 22, 23, 24, 25, 26, 27, 28, 29, 30, 31, 32] rfl (fun _ => rfl) rfl (fun _ => rfl) (fun _ => rfl) (fun _ => rfl) (by decide +kernel) (by decide +kernel) (fun r8 zu H1 locs1 hp hP1 hD1 hS1 hk1 => ?_)
  obtain ⟨fi_8, fs_8⟩ := zu
  try dsimp only at hp
  have hKR := hKR.frame hk1
  have hP : va_P D vwCl (WL ca a aR aT aH aD aK aI aC aS aY a8 lt rs rc tS tc hk hw ho hg he hr hd (nI n0) (nI s0) (nI d0) ek ew eo eg ee er ed zz zB zC kept il io ih ct tp bo oF_7 la_7 mS mW xS xW now keeps kM lt tp bo fi_8 fs_8 rd at8 costs ways reach) H1 := hP1
  have hD : va_D A (WL ca a aR aT aH aD aK aI aC aS aY a8 lt rs rc tS tc hk hw ho hg he hr hd (nI n0) (nI s0) (nI d0) ek ew eo eg ee er ed zz zB zC kept il io ih ct tp bo oF_7 la_7 mS mW xS xW now keeps kM lt tp bo fi_8 fs_8 rd at8 costs ways reach) := hD1
  have hS := hS1
  clear hP1 hD1 hS1 hk1
  obtain ⟨hre, hT⟩ := hp
  refine lv_icmp_eq (tgt := 1265) hx hb dL_law_617 (by decide) (fun _ => ?_) (fun hne => absurd hre hne)
  exact W.widen (Nat.le_add_right _ _) (Nat.le_add_right _ _) (kk _ _ ⟨_, _, _, _, _, _, _, _, _, _, _, _, _, _, _, _, _, _, _, _, _, _, _, _, _, _, _, _, _, _, _, _, _, _, _, _, _, _, _, _, _, _, _, _, _, _, _, _, hP, hD, ⟨_, h6⟩, ⟨_, h4s⟩, hT, ⟨n0, s0, d0, h0, rfl, rfl, rfl, hPh⟩, hKR⟩ hS)
set_option maxHeartbeats 4000000 in
set_option maxRecDepth 100000 in
theorem lw_c12 (l : Launch) (C0 : LawC p s m meth c D ca sa sd A b L xs) (hl : lv_has ls 4 [(0, .ref b), (1, .ref (a 0)), (2, .ref (a8 0)), (3, .int x)]) (h1 : vp_in (x + 1) L) (h2 : vp_in (x + 2) L) (h3 : vp_in (x + 3) L) (h4 : vp_in (x + 4) L) (h5 : vp_in (x + 5) L) (hf0 : cn + 0 ≤ room_1.cells ∧ sn + 0 ≤ room_1.slots) (hf8 : cn + 8 ≤ room_1.cells ∧ sn + 122 ≤ room_1.slots) (kk : LwG p l e s m below meth c Q A b ls (Inv D ca A a aR aT aH aD aK aI aC aS aY a8) (cn + 8) (sn + 130) 1265) : LwG p l e s m below meth c Q A b ls (Inv D ca A a aR aT aH aD aK aI aC aS aY a8) cn sn 622 := by
  obtain ⟨hx, hb, hr, hml, hown, hts, hX, hbl, hbA, hA, hK, hSX⟩ := C0
  intro Hh locs hI hS
  obtain ⟨lt, rs, rc, tS, tc, hk, hw, ho, hg, he, hr, hd, sz, sB, dC, ek, ew, eo, eg, ee, er, ed, zz, zB, zC, kept, il, io, ih, ct, tp, bo, oF, la, mS, mW, xS, xW, now, keeps, kM, fi, fs, rd, at8, costs, ways, reach, hP, hD, ⟨m6, h6⟩, ⟨m4, h4s⟩, hT, hQ, hKR⟩ := hI
  obtain ⟨n0, s0, d0, h0, rfl, rfl, rfl, hPh⟩ := hQ
  refine lv_aload_n hx hb dL_law_622 rfl (lv_at hl 1 rfl) ?_
  refine lv_aload_n hx hb dL_law_623 rfl (lv_at hl 0 rfl) ?_
  refine lv_iload_n hx hb dL_law_624 rfl (lv_at hl 3 rfl) ?_
  refine lv_iconst (v := (1)) hx hb dL_law_625 (by decide) ?_
  refine lv_iadd hx hb dL_law_626 ?_
  refine va_sld hx hb hX hbl hbA hS h1 dL_law_627 ?_
  refine lv_aload_n hx hb dL_law_628 rfl (lv_at hl 0 rfl) ?_
  refine lv_iload_n hx hb dL_law_629 rfl (lv_at hl 3 rfl) ?_
  refine lv_iconst (v := (2)) hx hb dL_law_630 (by decide) ?_
  refine lv_iadd hx hb dL_law_631 ?_
  refine va_sld hx hb hX hbl hbA hS h2 dL_law_632 ?_
  refine lv_aload_n hx hb dL_law_633 rfl (lv_at hl 0 rfl) ?_
  refine lv_iload_n hx hb dL_law_634 rfl (lv_at hl 3 rfl) ?_
  refine lv_iconst (v := (3)) hx hb dL_law_635 (by decide) ?_
  refine lv_iadd hx hb dL_law_636 ?_
  refine va_sld hx hb hX hbl hbA hS h3 dL_law_637 ?_
  refine lv_aload_n hx hb dL_law_638 rfl (lv_at hl 0 rfl) ?_
  refine lv_iload_n hx hb dL_law_639 rfl (lv_at hl 3 rfl) ?_
  refine lv_iconst (v := (4)) hx hb dL_law_640 (by decide) ?_
  refine lv_iadd hx hb dL_law_641 ?_
  refine va_sld hx hb hX hbl hbA hS h4 dL_law_642 ?_
  have hc := c_X7_say l D ca a aR aT aH aD aK aI aC aS aY lt hk hw ho hg he hr hd (nI n0) (nI s0) (nI d0) (xs (x + 1).toNatClampNeg) (xs (x + 2).toNatClampNeg) (xs (x + 3).toNatClampNeg) (xs (x + 4).toNatClampNeg) _ (hD.subM [0, 7, 8, 9, 10, 11, 12, 13, 14] (by decide) rfl) (s_say hPh (xs (x + 1).toNatClampNeg) (xs (x + 2).toNatClampNeg) (xs (x + 3).toNatClampNeg) (xs (x + 4).toNatClampNeg))
  refine wr_calliK (ws1 := fun zu => WL ca a aR aT aH aD aK aI aC aS aY a8 lt rs rc tS tc (zu.1) (zu.2.1) (zu.2.2.1) (zu.2.2.2.1) (zu.2.2.2.2.1) (zu.2.2.2.2.2.1) (zu.2.2.2.2.2.2.1) (zu.2.2.2.2.2.2.2.1) (zu.2.2.2.2.2.2.2.2.1) (zu.2.2.2.2.2.2.2.2.2) ek ew eo eg ee er ed zz zB zC kept il io ih ct tp bo oF la mS mW xS xW now keeps kM lt tp bo fi fs rd at8 costs ways reach) (wr := ([1, 2, 3, 4, 5, 6, 15, 16, 17, 18, 19, 20, 21, 22, 23, 24, 25, 26, 27, 28, 29, 30, 31, 32, 33, 34, 35, 36, 37, 38, 39, 40, 41, 42, 43, 44, 45] : List Nat).filterMap (fun zi => (WL ca a aR aT aH aD aK aI aC aS aY a8 lt rs rc tS tc hk hw ho hg he hr hd (nI n0) (nI s0) (nI d0) ek ew eo eg ee er ed zz zB zC kept il io ih ct tp bo oF la mS mW xS xW now keeps kM lt tp bo fi fs rd at8 costs ways reach : va_W)[zi]?)) (n := 46) (va_runV (As := [.int ((xs (x + 1).toNatClampNeg)), .int ((xs (x + 2).toNatClampNeg)), .int ((xs (x + 3).toNatClampNeg)), .int ((xs (x + 4).toNatClampNeg))]) (rest := []) ⟨hx, hb, hml, hown, hts⟩ hc (cwV 4 hts gL_law_X7_say rfl rfl rfl (by decide +kernel) ⟨Nat.le_of_ble_eq_true rfl, Nat.le_of_ble_eq_true rfl⟩) (PcX.preV (q := (RX7, TX7, 10)) (ci := 6) (q0 := 0) hK hP rfl rfl (hP.subM [0, 7, 8, 9, 10, 11, 12, 13, 14] rfl)) rfl rfl hl.1 rfl (lv_room (Nat.le_of_ble_eq_true rfl)) dL_law_643 hf0) hP hD hS [0, 7, 8, 9, 10, 11, 12, 13, 14] [1, 2, 3, 4, 5, 6, 15, 16, 17, 18, 19, 20, 21, 22, 23, 24, 25, 26, 27, 28, 29, 30, 31, 32, 33, 34, 35, 36, 37, 38, 39, 40, 41, 42, 43, 44, 45] rfl (fun _ => rfl) rfl (fun _ => rfl) (fun _ => rfl) (fun _ => rfl) (by decide +kernel) (by decide +kernel) (fun r7 zu H1 locs1 hp hP1 hD1 hS1 hk1 => ?_)
  obtain ⟨hk_7, hw_7, ho_7, hg_7, he_7, hr_7, hd_7, sz_7, sB_7, dC_7⟩ := zu
  try dsimp only at hp
  have hKR := hKR.frame hk1
  have hP : va_P D vwCl (WL ca a aR aT aH aD aK aI aC aS aY a8 lt rs rc tS tc hk_7 hw_7 ho_7 hg_7 he_7 hr_7 hd_7 sz_7 sB_7 dC_7 ek ew eo eg ee er ed zz zB zC kept il io ih ct tp bo oF la mS mW xS xW now keeps kM lt tp bo fi fs rd at8 costs ways reach) H1 := hP1
  have hD : va_D A (WL ca a aR aT aH aD aK aI aC aS aY a8 lt rs rc tS tc hk_7 hw_7 ho_7 hg_7 he_7 hr_7 hd_7 sz_7 sB_7 dC_7 ek ew eo eg ee er ed zz zB zC kept il io ih ct tp bo oF la mS mW xS xW now keeps kM lt tp bo fi fs rd at8 costs ways reach) := hD1
  have hS := hS1
  clear hP1 hD1 hS1 hk1
  refine lv_aload_n hx hb dL_law_646 rfl (lv_at hl 2 rfl) ?_
  refine lv_aload_n hx hb dL_law_647 rfl (lv_at hl 0 rfl) ?_
  refine lv_iload_n hx hb dL_law_648 rfl (lv_at hl 3 rfl) ?_
  refine lv_iconst (v := (1)) hx hb dL_law_649 (by decide) ?_
  refine lv_iadd hx hb dL_law_650 ?_
  refine va_sld hx hb hX hbl hbA hS h1 dL_law_651 ?_
  refine lv_aload_n hx hb dL_law_652 rfl (lv_at hl 0 rfl) ?_
  refine lv_iload_n hx hb dL_law_653 rfl (lv_at hl 3 rfl) ?_
  refine lv_iconst (v := (2)) hx hb dL_law_654 (by decide) ?_
  refine lv_iadd hx hb dL_law_655 ?_
  refine va_sld hx hb hX hbl hbA hS h2 dL_law_656 ?_
  refine lv_aload_n hx hb dL_law_657 rfl (lv_at hl 0 rfl) ?_
  refine lv_iload_n hx hb dL_law_658 rfl (lv_at hl 3 rfl) ?_
  refine lv_iconst (v := (3)) hx hb dL_law_659 (by decide) ?_
  refine lv_iadd hx hb dL_law_660 ?_
  refine va_sld hx hb hX hbl hbA hS h3 dL_law_661 ?_
  refine lv_aload_n hx hb dL_law_662 rfl (lv_at hl 0 rfl) ?_
  refine lv_iload_n hx hb dL_law_663 rfl (lv_at hl 3 rfl) ?_
  refine lv_iconst (v := (4)) hx hb dL_law_664 (by decide) ?_
  refine lv_iadd hx hb dL_law_665 ?_
  refine va_sld hx hb hX hbl hbA hS h4 dL_law_666 ?_
  have hc := c_X8_say l D ca a8 mS mW xS xW now keeps kM lt tp bo fi fs rd at8 costs ways reach (xs (x + 1).toNatClampNeg) (xs (x + 2).toNatClampNeg) (xs (x + 3).toNatClampNeg) (xs (x + 4).toNatClampNeg) _ (hD.subM [33, 34, 35, 36, 37, 38, 39, 40, 41, 42, 43, 44, 45] (by decide) rfl) hp
  refine wr_calliK (ws1 := fun zu => WL ca a aR aT aH aD aK aI aC aS aY a8 lt rs rc tS tc hk_7 hw_7 ho_7 hg_7 he_7 hr_7 hd_7 sz_7 sB_7 dC_7 ek ew eo eg ee er ed zz zB zC kept il io ih ct tp bo oF la mS mW xS xW (zu) keeps kM lt tp bo fi fs rd at8 costs ways reach) (wr := ([0, 1, 2, 3, 4, 5, 6, 7, 8, 9, 10, 11, 12, 13, 14, 15, 16, 17, 18, 19, 20, 21, 22, 23, 24, 25, 26, 27, 28, 29, 30, 31, 32] : List Nat).filterMap (fun zi => (WL ca a aR aT aH aD aK aI aC aS aY a8 lt rs rc tS tc hk_7 hw_7 ho_7 hg_7 he_7 hr_7 hd_7 sz_7 sB_7 dC_7 ek ew eo eg ee er ed zz zB zC kept il io ih ct tp bo oF la mS mW xS xW now keeps kM lt tp bo fi fs rd at8 costs ways reach : va_W)[zi]?)) (n := 46) (va_runV (As := [.int ((xs (x + 1).toNatClampNeg)), .int ((xs (x + 2).toNatClampNeg)), .int ((xs (x + 3).toNatClampNeg)), .int ((xs (x + 4).toNatClampNeg))]) (rest := [.int r7]) ⟨hx, hb, hml, hown, hts⟩ hc (cwV 4 hts gL_law_X8_say rfl rfl rfl (by decide +kernel) ⟨Nat.le_of_ble_eq_true rfl, Nat.le_of_ble_eq_true rfl⟩) (PcX.preV (q := (RX8, TX8, 17)) (ci := 7) (q0 := 33) hK hP rfl rfl (hP.subM [33, 34, 35, 36, 37, 38, 39, 40, 41, 42, 43, 44, 45] rfl)) rfl rfl hl.1 rfl (lv_room (Nat.le_of_ble_eq_true rfl)) dL_law_667 hf0) hP hD hS [33, 34, 35, 36, 37, 38, 39, 40, 41, 42, 43, 44, 45] [0, 1, 2, 3, 4, 5, 6, 7, 8, 9, 10, 11, 12, 13, 14, 15, 16, 17, 18, 19, 20, 21, 22, 23, 24, 25, 26, 27, 28, 29, 30, 31, 32] rfl (fun _ => rfl) rfl (fun _ => rfl) (fun _ => rfl) (fun _ => rfl) (by decide +kernel) (by decide +kernel) (fun r8 zu H1 locs1 hp hP1 hD1 hS1 hk1 => ?_)
  obtain ⟨now_8, rfl⟩ : ∃ zz, zz = zu := ⟨zu, rfl⟩
  try dsimp only at hp
  have hKR := hKR.frame hk1
  have hP : va_P D vwCl (WL ca a aR aT aH aD aK aI aC aS aY a8 lt rs rc tS tc hk_7 hw_7 ho_7 hg_7 he_7 hr_7 hd_7 sz_7 sB_7 dC_7 ek ew eo eg ee er ed zz zB zC kept il io ih ct tp bo oF la mS mW xS xW now_8 keeps kM lt tp bo fi fs rd at8 costs ways reach) H1 := hP1
  have hD : va_D A (WL ca a aR aT aH aD aK aI aC aS aY a8 lt rs rc tS tc hk_7 hw_7 ho_7 hg_7 he_7 hr_7 hd_7 sz_7 sB_7 dC_7 ek ew eo eg ee er ed zz zB zC kept il io ih ct tp bo oF la mS mW xS xW now_8 keeps kM lt tp bo fi fs rd at8 costs ways reach) := hD1
  have hS := hS1
  clear hP1 hD1 hS1 hk1
  obtain ⟨hre, hQ⟩ := hp
  refine lv_icmp_eq (tgt := 1265) hx hb dL_law_670 (by decide) (fun _ => ?_) (fun hne => absurd hre hne)
  exact W.widen (Nat.le_add_right _ _) (Nat.le_add_right _ _) (kk _ _ ⟨_, _, _, _, _, _, _, _, _, _, _, _, _, _, _, _, _, _, _, _, _, _, _, _, _, _, _, _, _, _, _, _, _, _, _, _, _, _, _, _, _, _, _, _, _, _, _, _, hP, hD, ⟨_, h6⟩, ⟨_, h4s⟩, hT, hQ, hKR⟩ hS)
set_option maxHeartbeats 4000000 in
set_option maxRecDepth 100000 in
theorem lw_c13 (l : Launch) (C0 : LawC p s m meth c D ca sa sd A b L xs) (hl : lv_has ls 4 [(0, .ref b), (1, .ref (a 0)), (2, .ref (a8 0)), (3, .int x)]) (h1 : vp_in (x + 1) L) (h2 : vp_in (x + 2) L) (h3 : vp_in (x + 3) L) (h4 : vp_in (x + 4) L) (h5 : vp_in (x + 5) L) (hf0 : cn + 0 ≤ room_1.cells ∧ sn + 0 ≤ room_1.slots) (hf8 : cn + 8 ≤ room_1.cells ∧ sn + 122 ≤ room_1.slots) (kk : LwG p l e s m below meth c Q A b ls (Inv D ca A a aR aT aH aD aK aI aC aS aY a8) (cn + 8) (sn + 130) 1265) : LwG p l e s m below meth c Q A b ls (Inv D ca A a aR aT aH aD aK aI aC aS aY a8) cn sn 675 := by
  obtain ⟨hx, hb, hr, hml, hown, hts, hX, hbl, hbA, hA, hK, hSX⟩ := C0
  intro Hh locs hI hS
  obtain ⟨lt, rs, rc, tS, tc, hk, hw, ho, hg, he, hr, hd, sz, sB, dC, ek, ew, eo, eg, ee, er, ed, zz, zB, zC, kept, il, io, ih, ct, tp, bo, oF, la, mS, mW, xS, xW, now, keeps, kM, fi, fs, rd, at8, costs, ways, reach, hP, hD, ⟨m6, h6⟩, ⟨m4, h4s⟩, hT, hQ, hKR⟩ := hI
  obtain ⟨n0, s0, d0, h0, rfl, rfl, rfl, hPh⟩ := hQ
  refine lv_aload_n hx hb dL_law_675 rfl (lv_at hl 1 rfl) ?_
  refine lv_aload_n hx hb dL_law_676 rfl (lv_at hl 0 rfl) ?_
  refine lv_iload_n hx hb dL_law_677 rfl (lv_at hl 3 rfl) ?_
  refine lv_iconst (v := (1)) hx hb dL_law_678 (by decide) ?_
  refine lv_iadd hx hb dL_law_679 ?_
  refine va_sld hx hb hX hbl hbA hS h1 dL_law_680 ?_
  have hc := c_X7_unsay l D ca a aR aT aH aD aK aI aC aS aY lt hk hw ho hg he hr hd (nI n0) (nI s0) (nI d0) (xs (x + 1).toNatClampNeg) _ (hD.subM [0, 7, 8, 9, 10, 11, 12, 13, 14] (by decide) rfl) (s_unsay hPh (xs (x + 1).toNatClampNeg))
  refine wr_calliK (ws1 := fun zu => WL ca a aR aT aH aD aK aI aC aS aY a8 lt rs rc tS tc hk hw ho hg he hr (zu.1) (nI n0) (zu.2.1) (zu.2.2) ek ew eo eg ee er ed zz zB zC kept il io ih ct tp bo oF la mS mW xS xW now keeps kM lt tp bo fi fs rd at8 costs ways reach) (wr := ([1, 2, 3, 4, 5, 6, 15, 16, 17, 18, 19, 20, 21, 22, 23, 24, 25, 26, 27, 28, 29, 30, 31, 32, 33, 34, 35, 36, 37, 38, 39, 40, 41, 42, 43, 44, 45] : List Nat).filterMap (fun zi => (WL ca a aR aT aH aD aK aI aC aS aY a8 lt rs rc tS tc hk hw ho hg he hr hd (nI n0) (nI s0) (nI d0) ek ew eo eg ee er ed zz zB zC kept il io ih ct tp bo oF la mS mW xS xW now keeps kM lt tp bo fi fs rd at8 costs ways reach : va_W)[zi]?)) (n := 46) (va_runV (As := [.int ((xs (x + 1).toNatClampNeg))]) (rest := []) ⟨hx, hb, hml, hown, hts⟩ hc (cwV 1 hts gL_law_X7_unsay rfl rfl rfl (by decide +kernel) ⟨Nat.le_of_ble_eq_true rfl, Nat.le_of_ble_eq_true rfl⟩) (PcX.preV (q := (RX7, TX7, 10)) (ci := 6) (q0 := 0) hK hP rfl rfl (hP.subM [0, 7, 8, 9, 10, 11, 12, 13, 14] rfl)) rfl rfl hl.1 rfl (lv_room (Nat.le_of_ble_eq_true rfl)) dL_law_681 hf0) hP hD hS [0, 7, 8, 9, 10, 11, 12, 13, 14] [1, 2, 3, 4, 5, 6, 15, 16, 17, 18, 19, 20, 21, 22, 23, 24, 25, 26, 27, 28, 29, 30, 31, 32, 33, 34, 35, 36, 37, 38, 39, 40, 41, 42, 43, 44, 45] rfl (fun _ => rfl) rfl (fun _ => rfl) (fun _ => rfl) (fun _ => rfl) (by decide +kernel) (by decide +kernel) (fun r7 zu H1 locs1 hp hP1 hD1 hS1 hk1 => ?_)
  obtain ⟨hd_7, sB_7, dC_7⟩ := zu
  try dsimp only at hp
  have hKR := hKR.frame hk1
  have hP : va_P D vwCl (WL ca a aR aT aH aD aK aI aC aS aY a8 lt rs rc tS tc hk hw ho hg he hr hd_7 (nI n0) sB_7 dC_7 ek ew eo eg ee er ed zz zB zC kept il io ih ct tp bo oF la mS mW xS xW now keeps kM lt tp bo fi fs rd at8 costs ways reach) H1 := hP1
  have hD : va_D A (WL ca a aR aT aH aD aK aI aC aS aY a8 lt rs rc tS tc hk hw ho hg he hr hd_7 (nI n0) sB_7 dC_7 ek ew eo eg ee er ed zz zB zC kept il io ih ct tp bo oF la mS mW xS xW now keeps kM lt tp bo fi fs rd at8 costs ways reach) := hD1
  have hS := hS1
  clear hP1 hD1 hS1 hk1
  refine lv_aload_n hx hb dL_law_684 rfl (lv_at hl 2 rfl) ?_
  refine lv_aload_n hx hb dL_law_685 rfl (lv_at hl 0 rfl) ?_
  refine lv_iload_n hx hb dL_law_686 rfl (lv_at hl 3 rfl) ?_
  refine lv_iconst (v := (1)) hx hb dL_law_687 (by decide) ?_
  refine lv_iadd hx hb dL_law_688 ?_
  refine va_sld hx hb hX hbl hbA hS h1 dL_law_689 ?_
  have hc := c_X8_unsay l D ca a8 mS mW xS xW now keeps kM lt tp bo fi fs rd at8 costs ways reach (xs (x + 1).toNatClampNeg) _ (hD.subM [33, 34, 35, 36, 37, 38, 39, 40, 41, 42, 43, 44, 45] (by decide) rfl) hp
  refine wr_calliK (ws1 := fun zu => WL ca a aR aT aH aD aK aI aC aS aY a8 lt rs rc tS tc hk hw ho hg he hr hd_7 (nI n0) sB_7 dC_7 ek ew eo eg ee er ed zz zB zC kept il io ih ct tp bo oF la mS mW xS xW (zu) keeps kM lt tp bo fi fs rd at8 costs ways reach) (wr := ([0, 1, 2, 3, 4, 5, 6, 7, 8, 9, 10, 11, 12, 13, 14, 15, 16, 17, 18, 19, 20, 21, 22, 23, 24, 25, 26, 27, 28, 29, 30, 31, 32] : List Nat).filterMap (fun zi => (WL ca a aR aT aH aD aK aI aC aS aY a8 lt rs rc tS tc hk hw ho hg he hr hd_7 (nI n0) sB_7 dC_7 ek ew eo eg ee er ed zz zB zC kept il io ih ct tp bo oF la mS mW xS xW now keeps kM lt tp bo fi fs rd at8 costs ways reach : va_W)[zi]?)) (n := 46) (va_runV (As := [.int ((xs (x + 1).toNatClampNeg))]) (rest := [.int r7]) ⟨hx, hb, hml, hown, hts⟩ hc (cwV 1 hts gL_law_X8_unsay rfl rfl rfl (by decide +kernel) ⟨Nat.le_of_ble_eq_true rfl, Nat.le_of_ble_eq_true rfl⟩) (PcX.preV (q := (RX8, TX8, 17)) (ci := 7) (q0 := 33) hK hP rfl rfl (hP.subM [33, 34, 35, 36, 37, 38, 39, 40, 41, 42, 43, 44, 45] rfl)) rfl rfl hl.1 rfl (lv_room (Nat.le_of_ble_eq_true rfl)) dL_law_690 hf0) hP hD hS [33, 34, 35, 36, 37, 38, 39, 40, 41, 42, 43, 44, 45] [0, 1, 2, 3, 4, 5, 6, 7, 8, 9, 10, 11, 12, 13, 14, 15, 16, 17, 18, 19, 20, 21, 22, 23, 24, 25, 26, 27, 28, 29, 30, 31, 32] rfl (fun _ => rfl) rfl (fun _ => rfl) (fun _ => rfl) (fun _ => rfl) (by decide +kernel) (by decide +kernel) (fun r8 zu H1 locs1 hp hP1 hD1 hS1 hk1 => ?_)
  obtain ⟨now_8, rfl⟩ : ∃ zz, zz = zu := ⟨zu, rfl⟩
  try dsimp only at hp
  have hKR := hKR.frame hk1
  have hP : va_P D vwCl (WL ca a aR aT aH aD aK aI aC aS aY a8 lt rs rc tS tc hk hw ho hg he hr hd_7 (nI n0) sB_7 dC_7 ek ew eo eg ee er ed zz zB zC kept il io ih ct tp bo oF la mS mW xS xW now_8 keeps kM lt tp bo fi fs rd at8 costs ways reach) H1 := hP1
  have hD : va_D A (WL ca a aR aT aH aD aK aI aC aS aY a8 lt rs rc tS tc hk hw ho hg he hr hd_7 (nI n0) sB_7 dC_7 ek ew eo eg ee er ed zz zB zC kept il io ih ct tp bo oF la mS mW xS xW now_8 keeps kM lt tp bo fi fs rd at8 costs ways reach) := hD1
  have hS := hS1
  clear hP1 hD1 hS1 hk1
  obtain ⟨hre, ⟨s1, d1, he1, he2, hPh⟩⟩ := hp
  refine lv_icmp_eq (tgt := 1265) hx hb dL_law_693 (by decide) (fun _ => ?_) (fun hne => absurd hre hne)
  exact W.widen (Nat.le_add_right _ _) (Nat.le_add_right _ _) (kk _ _ ⟨_, _, _, _, _, _, _, _, _, _, _, _, _, _, _, _, _, _, _, _, _, _, _, _, _, _, _, _, _, _, _, _, _, _, _, _, _, _, _, _, _, _, _, _, _, _, _, _, hP, hD, ⟨_, h6⟩, ⟨_, h4s⟩, hT, ⟨_, _, _, _, rfl, he1, he2, hPh⟩, hKR⟩ hS)
end LWC
