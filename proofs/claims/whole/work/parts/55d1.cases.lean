/-! the law's cases -/
section LWC
variable {p : Program} {e : Env} {s : State} {m : MethodId} {below : List Frame} {meth : Method} {c : Code} {Q : State → Prop} {D : va_G} {ca : Nat → ClassId} {sa sd : Nat} {A : Nat → Prop} {b L : Nat} {xs : Nat → Int32} {a aR aT aH aD : Nat → Nat} {aK : Nat} {aI aC aS aY a8 : Nat → Nat} {x : Int32} {ls : Array Slot} {cn sn : Nat}
set_option maxHeartbeats 4000000 in
set_option maxRecDepth 100000 in
theorem lw_c23 (l : Launch) (C0 : LawC p s m meth c D ca sa sd A b L xs) (hl : lv_has ls 4 [(0, .ref b), (1, .ref (a 0)), (2, .ref (a8 0)), (3, .int x)]) (h1 : vp_in (x + 1) L) (h2 : vp_in (x + 2) L) (h3 : vp_in (x + 3) L) (h4 : vp_in (x + 4) L) (h5 : vp_in (x + 5) L) (hf0 : cn + 0 ≤ room_1.cells ∧ sn + 0 ≤ room_1.slots) (hf8 : cn + 8 ≤ room_1.cells ∧ sn + 122 ≤ room_1.slots) (kk : LwG p l e s m below meth c Q A b ls (Inv D ca A a aR aT aH aD aK aI aC aS aY a8) (cn + 8) (sn + 130) 1265) : LwG p l e s m below meth c Q A b ls (Inv D ca A a aR aT aH aD aK aI aC aS aY a8) cn sn 885 := by
  obtain ⟨hx, hb, hr, hml, hown, hts, hX, hbl, hbA, hA, hK, hSX⟩ := C0
  intro Hh locs hI hS
  obtain ⟨lt, rs, rc, tS, tc, hk, hw, ho, hg, he, hr, hd, sz, sB, dC, ek, ew, eo, eg, ee, er, ed, zz, zB, zC, kept, il, io, ih, ct, tp, bo, oF, la, mS, mW, xS, xW, now, keeps, kM, fi, fs, rd, at8, costs, ways, reach, hP, hD, ⟨m6, h6⟩, ⟨m4, h4s⟩, hT, hQ, hKR⟩ := hI
  obtain ⟨n0, s0, d0, h0, rfl, rfl, rfl, hPh⟩ := hQ
  refine lv_aload_n hx hb dL_law_885 rfl (lv_at hl 1 rfl) ?_
  refine lv_aload_n hx hb dL_law_886 rfl (lv_at hl 0 rfl) ?_
  refine lv_iload_n hx hb dL_law_887 rfl (lv_at hl 3 rfl) ?_
  refine lv_iconst (v := (1)) hx hb dL_law_888 (by decide) ?_
  refine lv_iadd hx hb dL_law_889 ?_
  refine va_sld hx hb hX hbl hbA hS h1 dL_law_890 ?_
  have hc := c_X7_cheapest l D ca a aR aT aH aD aK aI aC aS aY lt 6 240 (nI 40) rs rc hk hw ho hg he hr hd (nI n0) (nI s0) (nI d0) il io ih (xs (x + 1).toNatClampNeg) _ (hD.subM [0, 1, 2, 3, 7, 8, 9, 10, 11, 12, 13, 14, 24, 25, 26, 27] (by decide) rfl) (s_cheapest hPh.1 hPh.2.1 hPh.2.2.1 hPh.2.2.2.1 hPh.2.2.2.2.2.2.1 h6 fi fs il io ih costs ways (xs (x + 1).toNatClampNeg))
  refine wr_calliK (ws1 := fun zu => WL ca a aR aT aH aD aK aI aC aS aY a8 lt (zu.1) (zu.2.1) tS tc hk hw ho hg he hr hd (nI n0) (nI s0) (nI d0) ek ew eo eg ee er ed zz zB zC kept (zu.2.2.1) (zu.2.2.2.1) (zu.2.2.2.2) ct tp bo oF la mS mW xS xW now keeps kM lt tp bo fi fs rd at8 costs ways reach) (wr := ([4, 5, 6, 15, 16, 17, 18, 19, 20, 21, 22, 23, 28, 29, 30, 31, 32, 33, 34, 35, 36, 37, 38, 39, 40, 41, 42, 43, 44, 45] : List Nat).filterMap (fun zi => (WL ca a aR aT aH aD aK aI aC aS aY a8 lt rs rc tS tc hk hw ho hg he hr hd (nI n0) (nI s0) (nI d0) ek ew eo eg ee er ed zz zB zC kept il io ih ct tp bo oF la mS mW xS xW now keeps kM lt tp bo fi fs rd at8 costs ways reach : va_W)[zi]?)) (n := 46) (va_runV (As := [.int ((xs (x + 1).toNatClampNeg))]) (rest := []) ⟨hx, hb, hml, hown, hts⟩ hc (cwV 1 hts gL_law_X7_cheapest rfl rfl rfl (by decide +kernel) ⟨Nat.le_of_ble_eq_true rfl, Nat.le_of_ble_eq_true rfl⟩) (PcX.preV (q := (RX7, TX7, 10)) (ci := 6) (q0 := 0) hK hP rfl rfl (hP.subM [0, 1, 2, 3, 7, 8, 9, 10, 11, 12, 13, 14, 24, 25, 26, 27] rfl)) rfl rfl hl.1 rfl (lv_room (Nat.le_of_ble_eq_true rfl)) dL_law_891 hf0) hP hD hS [0, 1, 2, 3, 7, 8, 9, 10, 11, 12, 13, 14, 24, 25, 26, 27] [4, 5, 6, 15, 16, 17, 18, 19, 20, 21, 22, 23, 28, 29, 30, 31, 32, 33, 34, 35, 36, 37, 38, 39, 40, 41, 42, 43, 44, 45] rfl (fun _ => rfl) rfl (fun _ => rfl) (fun _ => rfl) (fun _ => rfl) (by decide +kernel) (by decide +kernel) (fun r7 zu H1 locs1 hp hP1 hD1 hS1 hk1 => ?_)
  obtain ⟨rs_7, rc_7, il_7, io_7, ih_7⟩ := zu
  try dsimp only at hp
  have hKR := hKR.frame hk1
  have hP : va_P D vwCl (WL ca a aR aT aH aD aK aI aC aS aY a8 lt rs_7 rc_7 tS tc hk hw ho hg he hr hd (nI n0) (nI s0) (nI d0) ek ew eo eg ee er ed zz zB zC kept il_7 io_7 ih_7 ct tp bo oF la mS mW xS xW now keeps kM lt tp bo fi fs rd at8 costs ways reach) H1 := hP1
  have hD : va_D A (WL ca a aR aT aH aD aK aI aC aS aY a8 lt rs_7 rc_7 tS tc hk hw ho hg he hr hd (nI n0) (nI s0) (nI d0) ek ew eo eg ee er ed zz zB zC kept il_7 io_7 ih_7 ct tp bo oF la mS mW xS xW now keeps kM lt tp bo fi fs rd at8 costs ways reach) := hD1
  have hS := hS1
  clear hP1 hD1 hS1 hk1
  refine lv_aload_n hx hb dL_law_894 rfl (lv_at hl 2 rfl) ?_
  refine lv_aload_n hx hb dL_law_895 rfl (lv_at hl 0 rfl) ?_
  refine lv_iload_n hx hb dL_law_896 rfl (lv_at hl 3 rfl) ?_
  refine lv_iconst (v := (1)) hx hb dL_law_897 (by decide) ?_
  refine lv_iadd hx hb dL_law_898 ?_
  refine va_sld hx hb hX hbl hbA hS h1 dL_law_899 ?_
  have hc := c_X8_cheapest l D ca a8 mS mW xS xW now keeps kM lt tp bo fi fs rd at8 costs ways reach (xs (x + 1).toNatClampNeg) _ (hD.subM [33, 34, 35, 36, 37, 38, 39, 40, 41, 42, 43, 44, 45] (by decide) rfl) hp
  refine wr_calliK (ws1 := fun zu => WL ca a aR aT aH aD aK aI aC aS aY a8 lt rs_7 rc_7 tS tc hk hw ho hg he hr hd (nI n0) (nI s0) (nI d0) ek ew eo eg ee er ed zz zB zC kept il_7 io_7 ih_7 ct tp bo oF la (zu.1) (zu.2.1) xS xW now keeps kM lt tp bo (zu.2.2.1) (zu.2.2.2.1) rd at8 (zu.2.2.2.2.1) (zu.2.2.2.2.2) reach) (wr := ([0, 1, 2, 3, 4, 5, 6, 7, 8, 9, 10, 11, 12, 13, 14, 15, 16, 17, 18, 19, 20, 21, 22, 23, 24, 25, 26, 27, 28, 29, 30, 31, 32] : List Nat).filterMap (fun zi => (WL ca a aR aT aH aD aK aI aC aS aY a8 lt rs_7 rc_7 tS tc hk hw ho hg he hr hd (nI n0) (nI s0) (nI d0) ek ew eo eg ee er ed zz zB zC kept il_7 io_7 ih_7 ct tp bo oF la mS mW xS xW now keeps kM lt tp bo fi fs rd at8 costs ways reach : va_W)[zi]?)) (n := 46) (va_runV (As := [.int ((xs (x + 1).toNatClampNeg))]) (rest := [.int r7]) ⟨hx, hb, hml, hown, hts⟩ hc (cwV 1 hts gL_law_X8_cheapest rfl rfl rfl (by decide +kernel) ⟨Nat.le_of_ble_eq_true rfl, Nat.le_of_ble_eq_true rfl⟩) (PcX.preV (q := (RX8, TX8, 17)) (ci := 7) (q0 := 33) hK hP rfl rfl (hP.subM [33, 34, 35, 36, 37, 38, 39, 40, 41, 42, 43, 44, 45] rfl)) rfl rfl hl.1 rfl (lv_room (Nat.le_of_ble_eq_true rfl)) dL_law_900 hf0) hP hD hS [33, 34, 35, 36, 37, 38, 39, 40, 41, 42, 43, 44, 45] [0, 1, 2, 3, 4, 5, 6, 7, 8, 9, 10, 11, 12, 13, 14, 15, 16, 17, 18, 19, 20, 21, 22, 23, 24, 25, 26, 27, 28, 29, 30, 31, 32] rfl (fun _ => rfl) rfl (fun _ => rfl) (fun _ => rfl) (fun _ => rfl) (by decide +kernel) (by decide +kernel) (fun r8 zu H1 locs1 hp hP1 hD1 hS1 hk1 => ?_)
  obtain ⟨mS_8, mW_8, fi_8, fs_8, costs_8, ways_8⟩ := zu
  try dsimp only at hp
  have hKR := hKR.frame hk1
  have hP : va_P D vwCl (WL ca a aR aT aH aD aK aI aC aS aY a8 lt rs_7 rc_7 tS tc hk hw ho hg he hr hd (nI n0) (nI s0) (nI d0) ek ew eo eg ee er ed zz zB zC kept il_7 io_7 ih_7 ct tp bo oF la mS_8 mW_8 xS xW now keeps kM lt tp bo fi_8 fs_8 rd at8 costs_8 ways_8 reach) H1 := hP1
  have hD : va_D A (WL ca a aR aT aH aD aK aI aC aS aY a8 lt rs_7 rc_7 tS tc hk hw ho hg he hr hd (nI n0) (nI s0) (nI d0) ek ew eo eg ee er ed zz zB zC kept il_7 io_7 ih_7 ct tp bo oF la mS_8 mW_8 xS xW now keeps kM lt tp bo fi_8 fs_8 rd at8 costs_8 ways_8 reach) := hD1
  have hS := hS1
  clear hP1 hD1 hS1 hk1
  obtain ⟨hre, hE6, hf1, hf2⟩ := hp
  have hT : TL oF la fs_8 fi_8 := by rw [hf1, hf2]; exact hT
  refine lv_icmp_eq (tgt := 1265) hx hb dL_law_903 (by decide) (fun _ => ?_) (fun hne => absurd hre hne)
  exact W.widen (Nat.le_add_right _ _) (Nat.le_add_right _ _) (kk _ _ ⟨_, _, _, _, _, _, _, _, _, _, _, _, _, _, _, _, _, _, _, _, _, _, _, _, _, _, _, _, _, _, _, _, _, _, _, _, _, _, _, _, _, _, _, _, _, _, _, _, hP, hD, hE6, ⟨_, h4s⟩, hT, ⟨n0, s0, d0, h0, rfl, rfl, rfl, hPh⟩, hKR⟩ hS)
set_option maxHeartbeats 4000000 in
set_option maxRecDepth 100000 in
theorem lw_c24 (l : Launch) (C0 : LawC p s m meth c D ca sa sd A b L xs) (hl : lv_has ls 4 [(0, .ref b), (1, .ref (a 0)), (2, .ref (a8 0)), (3, .int x)]) (h1 : vp_in (x + 1) L) (h2 : vp_in (x + 2) L) (h3 : vp_in (x + 3) L) (h4 : vp_in (x + 4) L) (h5 : vp_in (x + 5) L) (hf0 : cn + 0 ≤ room_1.cells ∧ sn + 0 ≤ room_1.slots) (hf8 : cn + 8 ≤ room_1.cells ∧ sn + 122 ≤ room_1.slots) (kk : LwG p l e s m below meth c Q A b ls (Inv D ca A a aR aT aH aD aK aI aC aS aY a8) (cn + 8) (sn + 130) 1265) : LwG p l e s m below meth c Q A b ls (Inv D ca A a aR aT aH aD aK aI aC aS aY a8) cn sn 908 := by
  obtain ⟨hx, hb, hr, hml, hown, hts, hX, hbl, hbA, hA, hK, hSX⟩ := C0
  intro Hh locs hI hS
  obtain ⟨lt, rs, rc, tS, tc, hk, hw, ho, hg, he, hr, hd, sz, sB, dC, ek, ew, eo, eg, ee, er, ed, zz, zB, zC, kept, il, io, ih, ct, tp, bo, oF, la, mS, mW, xS, xW, now, keeps, kM, fi, fs, rd, at8, costs, ways, reach, hP, hD, ⟨m6, h6⟩, ⟨m4, h4s⟩, hT, hQ, hKR⟩ := hI
  obtain ⟨n0, s0, d0, h0, rfl, rfl, rfl, hPh⟩ := hQ
  refine lv_aload_n hx hb dL_law_908 rfl (lv_at hl 1 rfl) ?_
  have hc := c_X7_orders l D ca a aR aT aH aD aK aI aC aS aY lt hk hw ho hg he hr hd (nI n0) (nI s0) (nI d0) il io ih tp bo  _ (hD.subM [0, 7, 8, 9, 10, 11, 12, 13, 14, 24, 25, 26, 27, 30] (by decide) rfl) (s_orders hPh.1 hPh.2.1 hPh.2.2.1 hPh.2.2.2.1 hPh.2.2.2.2.2.2.1 tp bo costs ways)
  refine wr_calliK (ws1 := fun zu => WL ca a aR aT aH aD aK aI aC aS aY a8 lt rs rc tS tc hk hw ho hg he hr hd (nI n0) (nI s0) (nI d0) ek ew eo eg ee er ed zz zB zC kept il io ih ct (zu.1) (zu.2) oF la mS mW xS xW now keeps kM lt tp bo fi fs rd at8 costs ways reach) (wr := ([1, 2, 3, 4, 5, 6, 15, 16, 17, 18, 19, 20, 21, 22, 23, 28, 29, 31, 32, 33, 34, 35, 36, 37, 38, 39, 40, 41, 42, 43, 44, 45] : List Nat).filterMap (fun zi => (WL ca a aR aT aH aD aK aI aC aS aY a8 lt rs rc tS tc hk hw ho hg he hr hd (nI n0) (nI s0) (nI d0) ek ew eo eg ee er ed zz zB zC kept il io ih ct tp bo oF la mS mW xS xW now keeps kM lt tp bo fi fs rd at8 costs ways reach : va_W)[zi]?)) (n := 46) (va_runV (As := []) (rest := []) ⟨hx, hb, hml, hown, hts⟩ hc (cwV 0 hts gL_law_X7_orders rfl rfl rfl (by decide +kernel) ⟨Nat.le_of_ble_eq_true rfl, Nat.le_of_ble_eq_true rfl⟩) (PcX.preV (q := (RX7, TX7, 10)) (ci := 6) (q0 := 0) hK hP rfl rfl (hP.subM [0, 7, 8, 9, 10, 11, 12, 13, 14, 24, 25, 26, 27, 30] rfl)) rfl rfl hl.1 rfl (lv_room (Nat.le_of_ble_eq_true rfl)) dL_law_909 hf0) hP hD hS [0, 7, 8, 9, 10, 11, 12, 13, 14, 24, 25, 26, 27, 30] [1, 2, 3, 4, 5, 6, 15, 16, 17, 18, 19, 20, 21, 22, 23, 28, 29, 31, 32, 33, 34, 35, 36, 37, 38, 39, 40, 41, 42, 43, 44, 45] rfl (fun _ => rfl) rfl (fun _ => rfl) (fun _ => rfl) (fun _ => rfl) (by decide +kernel) (by decide +kernel) (fun r7 zu H1 locs1 hp hP1 hD1 hS1 hk1 => ?_)
  obtain ⟨tp_7, bo_7⟩ := zu
  try dsimp only at hp
  have hKR := hKR.frame hk1
  have hP : va_P D vwCl (WL ca a aR aT aH aD aK aI aC aS aY a8 lt rs rc tS tc hk hw ho hg he hr hd (nI n0) (nI s0) (nI d0) ek ew eo eg ee er ed zz zB zC kept il io ih ct tp_7 bo_7 oF la mS mW xS xW now keeps kM lt tp bo fi fs rd at8 costs ways reach) H1 := hP1
  have hD : va_D A (WL ca a aR aT aH aD aK aI aC aS aY a8 lt rs rc tS tc hk hw ho hg he hr hd (nI n0) (nI s0) (nI d0) ek ew eo eg ee er ed zz zB zC kept il io ih ct tp_7 bo_7 oF la mS mW xS xW now keeps kM lt tp bo fi fs rd at8 costs ways reach) := hD1
  have hS := hS1
  clear hP1 hD1 hS1 hk1
  refine lv_aload_n hx hb dL_law_912 rfl (lv_at hl 2 rfl) ?_
  have hc := c_X8_orders l D ca a8 mS mW xS xW now keeps kM lt tp bo fi fs rd at8 costs ways reach  _ (hD.subM [33, 34, 35, 36, 37, 38, 39, 40, 41, 42, 43, 44, 45] (by decide) rfl) hp
  refine wr_calliK (ws1 := fun zu => WL ca a aR aT aH aD aK aI aC aS aY a8 lt rs rc tS tc hk hw ho hg he hr hd (nI n0) (nI s0) (nI d0) ek ew eo eg ee er ed zz zB zC kept il io ih ct tp_7 bo_7 oF la mS mW xS xW now keeps kM lt (zu.1) (zu.2.1) fi fs rd at8 (zu.2.2.1) (zu.2.2.2) reach) (wr := ([0, 1, 2, 3, 4, 5, 6, 7, 8, 9, 10, 11, 12, 13, 14, 15, 16, 17, 18, 19, 20, 21, 22, 23, 24, 25, 26, 27, 28, 29, 30, 31, 32] : List Nat).filterMap (fun zi => (WL ca a aR aT aH aD aK aI aC aS aY a8 lt rs rc tS tc hk hw ho hg he hr hd (nI n0) (nI s0) (nI d0) ek ew eo eg ee er ed zz zB zC kept il io ih ct tp_7 bo_7 oF la mS mW xS xW now keeps kM lt tp bo fi fs rd at8 costs ways reach : va_W)[zi]?)) (n := 46) (va_runV (As := []) (rest := [.int r7]) ⟨hx, hb, hml, hown, hts⟩ hc (cwV 0 hts gL_law_X8_orders rfl rfl rfl (by decide +kernel) ⟨Nat.le_of_ble_eq_true rfl, Nat.le_of_ble_eq_true rfl⟩) (PcX.preV (q := (RX8, TX8, 17)) (ci := 7) (q0 := 33) hK hP rfl rfl (hP.subM [33, 34, 35, 36, 37, 38, 39, 40, 41, 42, 43, 44, 45] rfl)) rfl rfl hl.1 rfl (lv_room (Nat.le_of_ble_eq_true rfl)) dL_law_913 hf0) hP hD hS [33, 34, 35, 36, 37, 38, 39, 40, 41, 42, 43, 44, 45] [0, 1, 2, 3, 4, 5, 6, 7, 8, 9, 10, 11, 12, 13, 14, 15, 16, 17, 18, 19, 20, 21, 22, 23, 24, 25, 26, 27, 28, 29, 30, 31, 32] rfl (fun _ => rfl) rfl (fun _ => rfl) (fun _ => rfl) (fun _ => rfl) (by decide +kernel) (by decide +kernel) (fun r8 zu H1 locs1 hp hP1 hD1 hS1 hk1 => ?_)
  obtain ⟨up_8, lo_8, costs_8, ways_8⟩ := zu
  try dsimp only at hp
  have hKR := hKR.frame hk1
  have hP : va_P D vwCl (WL ca a aR aT aH aD aK aI aC aS aY a8 lt rs rc tS tc hk hw ho hg he hr hd (nI n0) (nI s0) (nI d0) ek ew eo eg ee er ed zz zB zC kept il io ih ct tp_7 bo_7 oF la mS mW xS xW now keeps kM lt up_8 lo_8 fi fs rd at8 costs_8 ways_8 reach) H1 := hP1
  have hD : va_D A (WL ca a aR aT aH aD aK aI aC aS aY a8 lt rs rc tS tc hk hw ho hg he hr hd (nI n0) (nI s0) (nI d0) ek ew eo eg ee er ed zz zB zC kept il io ih ct tp_7 bo_7 oF la mS mW xS xW now keeps kM lt up_8 lo_8 fi fs rd at8 costs_8 ways_8 reach) := hD1
  have hS := hS1
  clear hP1 hD1 hS1 hk1
  obtain ⟨hre, ht1, ht2⟩ := hp
  subst ht1
  subst ht2
  refine lv_icmp_eq (tgt := 1265) hx hb dL_law_916 (by decide) (fun _ => ?_) (fun hne => absurd hre hne)
  exact W.widen (Nat.le_add_right _ _) (Nat.le_add_right _ _) (kk _ _ ⟨_, _, _, _, _, _, _, _, _, _, _, _, _, _, _, _, _, _, _, _, _, _, _, _, _, _, _, _, _, _, _, _, _, _, _, _, _, _, _, _, _, _, _, _, _, _, _, _, hP, hD, ⟨_, h6⟩, ⟨_, h4s⟩, hT, ⟨n0, s0, d0, h0, rfl, rfl, rfl, hPh⟩, hKR⟩ hS)
set_option maxHeartbeats 4000000 in
set_option maxRecDepth 100000 in
theorem lw_c25 (l : Launch) (C0 : LawC p s m meth c D ca sa sd A b L xs) (hl : lv_has ls 4 [(0, .ref b), (1, .ref (a 0)), (2, .ref (a8 0)), (3, .int x)]) (h1 : vp_in (x + 1) L) (h2 : vp_in (x + 2) L) (h3 : vp_in (x + 3) L) (h4 : vp_in (x + 4) L) (h5 : vp_in (x + 5) L) (hf0 : cn + 0 ≤ room_1.cells ∧ sn + 0 ≤ room_1.slots) (hf8 : cn + 8 ≤ room_1.cells ∧ sn + 122 ≤ room_1.slots) (kk : LwG p l e s m below meth c Q A b ls (Inv D ca A a aR aT aH aD aK aI aC aS aY a8) (cn + 8) (sn + 130) 1265) : LwG p l e s m below meth c Q A b ls (Inv D ca A a aR aT aH aD aK aI aC aS aY a8) cn sn 921 := by
  obtain ⟨hx, hb, hr, hml, hown, hts, hX, hbl, hbA, hA, hK, hSX⟩ := C0
  intro Hh locs hI hS
  obtain ⟨lt, rs, rc, tS, tc, hk, hw, ho, hg, he, hr, hd, sz, sB, dC, ek, ew, eo, eg, ee, er, ed, zz, zB, zC, kept, il, io, ih, ct, tp, bo, oF, la, mS, mW, xS, xW, now, keeps, kM, fi, fs, rd, at8, costs, ways, reach, hP, hD, ⟨m6, h6⟩, ⟨m4, h4s⟩, hT, hQ, hKR⟩ := hI
  obtain ⟨n0, s0, d0, h0, rfl, rfl, rfl, hPh⟩ := hQ
  refine lv_aload_n hx hb dL_law_921 rfl (lv_at hl 1 rfl) ?_
  refine lv_aload_n hx hb dL_law_922 rfl (lv_at hl 0 rfl) ?_
  refine lv_iload_n hx hb dL_law_923 rfl (lv_at hl 3 rfl) ?_
  refine lv_iconst (v := (1)) hx hb dL_law_924 (by decide) ?_
  refine lv_iadd hx hb dL_law_925 ?_
  refine va_sld hx hb hX hbl hbA hS h1 dL_law_926 ?_
  have hc := c_X7_judge l D ca a aR aT aH aD aK aI aC aS aY lt 6 240 (nI 40) rs rc hk hw ho hg he hr hd (nI n0) (nI s0) (nI d0) oF la (xs (x + 1).toNatClampNeg) _ (hD.subM [0, 1, 2, 3, 7, 8, 9, 10, 11, 12, 13, 14, 31, 32] (by decide) rfl) (s_judge hPh.1 hPh.2.1 hPh.2.2.1 hPh.s4 hPh.2.2.2.2.2.2.1 h6 hT lt (xs (x + 1).toNatClampNeg))
  refine wr_calliK (ws1 := fun zu => WL ca a aR aT aH aD aK aI aC aS aY a8 (zu.1) rs rc tS tc hk hw ho hg he hr hd (nI n0) (nI s0) (nI d0) ek ew eo eg ee er ed zz zB zC kept il io ih ct tp bo (zu.2.1) (zu.2.2) mS mW xS xW now keeps kM lt tp bo fi fs rd at8 costs ways reach) (wr := ([4, 5, 6, 15, 16, 17, 18, 19, 20, 21, 22, 23, 24, 25, 26, 27, 28, 29, 30, 33, 34, 35, 36, 37, 38, 39, 40, 41, 42, 43, 44, 45] : List Nat).filterMap (fun zi => (WL ca a aR aT aH aD aK aI aC aS aY a8 lt rs rc tS tc hk hw ho hg he hr hd (nI n0) (nI s0) (nI d0) ek ew eo eg ee er ed zz zB zC kept il io ih ct tp bo oF la mS mW xS xW now keeps kM lt tp bo fi fs rd at8 costs ways reach : va_W)[zi]?)) (n := 46) (va_runV (As := [.int ((xs (x + 1).toNatClampNeg))]) (rest := []) ⟨hx, hb, hml, hown, hts⟩ hc (cwV 1 hts gL_law_X7_judge rfl rfl rfl (by decide +kernel) ⟨Nat.le_of_ble_eq_true rfl, Nat.le_of_ble_eq_true rfl⟩) (PcX.preV (q := (RX7, TX7, 10)) (ci := 6) (q0 := 0) hK hP rfl rfl (hP.subM [0, 1, 2, 3, 7, 8, 9, 10, 11, 12, 13, 14, 31, 32] rfl)) rfl rfl hl.1 rfl (lv_room (Nat.le_of_ble_eq_true rfl)) dL_law_927 hf0) hP hD hS [0, 1, 2, 3, 7, 8, 9, 10, 11, 12, 13, 14, 31, 32] [4, 5, 6, 15, 16, 17, 18, 19, 20, 21, 22, 23, 24, 25, 26, 27, 28, 29, 30, 33, 34, 35, 36, 37, 38, 39, 40, 41, 42, 43, 44, 45] rfl (fun _ => rfl) rfl (fun _ => rfl) (fun _ => rfl) (fun _ => rfl) (by decide +kernel) (by decide +kernel) (fun r7 zu H1 locs1 hp hP1 hD1 hS1 hk1 => ?_)
  obtain ⟨lt_7, oF_7, la_7⟩ := zu
  try dsimp only at hp
  have hKR := hKR.frame hk1
  have hP : va_P D vwCl (WL ca a aR aT aH aD aK aI aC aS aY a8 lt_7 rs rc tS tc hk hw ho hg he hr hd (nI n0) (nI s0) (nI d0) ek ew eo eg ee er ed zz zB zC kept il io ih ct tp bo oF_7 la_7 mS mW xS xW now keeps kM lt tp bo fi fs rd at8 costs ways reach) H1 := hP1
  have hD : va_D A (WL ca a aR aT aH aD aK aI aC aS aY a8 lt_7 rs rc tS tc hk hw ho hg he hr hd (nI n0) (nI s0) (nI d0) ek ew eo eg ee er ed zz zB zC kept il io ih ct tp bo oF_7 la_7 mS mW xS xW now keeps kM lt tp bo fi fs rd at8 costs ways reach) := hD1
  have hS := hS1
  clear hP1 hD1 hS1 hk1
  refine lv_aload_n hx hb dL_law_930 rfl (lv_at hl 2 rfl) ?_
  refine lv_aload_n hx hb dL_law_931 rfl (lv_at hl 0 rfl) ?_
  refine lv_iload_n hx hb dL_law_932 rfl (lv_at hl 3 rfl) ?_
  refine lv_iconst (v := (1)) hx hb dL_law_933 (by decide) ?_
  refine lv_iadd hx hb dL_law_934 ?_
  refine va_sld hx hb hX hbl hbA hS h1 dL_law_935 ?_
  have hc := c_X8_judge l D ca a8 mS mW xS xW now keeps kM lt tp bo fi fs rd at8 costs ways reach (xs (x + 1).toNatClampNeg) _ (hD.subM [33, 34, 35, 36, 37, 38, 39, 40, 41, 42, 43, 44, 45] (by decide) rfl) hp
  refine wr_calliK (ws1 := fun zu => WL ca a aR aT aH aD aK aI aC aS aY a8 lt_7 rs rc tS tc hk hw ho hg he hr hd (nI n0) (nI s0) (nI d0) ek ew eo eg ee er ed zz zB zC kept il io ih ct tp bo oF_7 la_7 mS mW xS xW now keeps kM (zu.1) tp bo (zu.2.1) (zu.2.2) rd at8 costs ways reach) (wr := ([0, 1, 2, 3, 4, 5, 6, 7, 8, 9, 10, 11, 12, 13, 14, 15, 16, 17, 18, 19, 20, 21, 22, 23, 24, 25, 26, 27, 28, 29, 30, 31, 32] : List Nat).filterMap (fun zi => (WL ca a aR aT aH aD aK aI aC aS aY a8 lt_7 rs rc tS tc hk hw ho hg he hr hd (nI n0) (nI s0) (nI d0) ek ew eo eg ee er ed zz zB zC kept il io ih ct tp bo oF_7 la_7 mS mW xS xW now keeps kM lt tp bo fi fs rd at8 costs ways reach : va_W)[zi]?)) (n := 46) (va_runV (As := [.int ((xs (x + 1).toNatClampNeg))]) (rest := [.int r7]) ⟨hx, hb, hml, hown, hts⟩ hc (cwV 1 hts gL_law_X8_judge rfl rfl rfl (by decide +kernel) ⟨Nat.le_of_ble_eq_true rfl, Nat.le_of_ble_eq_true rfl⟩) (PcX.preV (q := (RX8, TX8, 17)) (ci := 7) (q0 := 33) hK hP rfl rfl (hP.subM [33, 34, 35, 36, 37, 38, 39, 40, 41, 42, 43, 44, 45] rfl)) rfl rfl hl.1 rfl (lv_room (Nat.le_of_ble_eq_true rfl)) dL_law_936 hf0) hP hD hS [33, 34, 35, 36, 37, 38, 39, 40, 41, 42, 43, 44, 45] [0, 1, 2, 3, 4, 5, 6, 7, 8, 9, 10, 11, 12, 13, 14, 15, 16, 17, 18, 19, 20, 21, 22, 23, 24, 25, 26, 27, 28, 29, 30, 31, 32] rfl (fun _ => rfl) rfl (fun _ => rfl) (fun _ => rfl) (fun _ => rfl) (by decide +kernel) (by decide +kernel) (fun r8 zu H1 locs1 hp hP1 hD1 hS1 hk1 => ?_)
  obtain ⟨as__8, fi_8, fs_8⟩ := zu
  try dsimp only at hp
  have hKR := hKR.frame hk1
  have hP : va_P D vwCl (WL ca a aR aT aH aD aK aI aC aS aY a8 lt_7 rs rc tS tc hk hw ho hg he hr hd (nI n0) (nI s0) (nI d0) ek ew eo eg ee er ed zz zB zC kept il io ih ct tp bo oF_7 la_7 mS mW xS xW now keeps kM as__8 tp bo fi_8 fs_8 rd at8 costs ways reach) H1 := hP1
  have hD : va_D A (WL ca a aR aT aH aD aK aI aC aS aY a8 lt_7 rs rc tS tc hk hw ho hg he hr hd (nI n0) (nI s0) (nI d0) ek ew eo eg ee er ed zz zB zC kept il io ih ct tp bo oF_7 la_7 mS mW xS xW now keeps kM as__8 tp bo fi_8 fs_8 rd at8 costs ways reach) := hD1
  have hS := hS1
  clear hP1 hD1 hS1 hk1
  obtain ⟨hre, hlt, hT⟩ := hp
  subst hlt
  refine lv_icmp_eq (tgt := 1265) hx hb dL_law_939 (by decide) (fun _ => ?_) (fun hne => absurd hre hne)
  exact W.widen (Nat.le_add_right _ _) (Nat.le_add_right _ _) (kk _ _ ⟨_, _, _, _, _, _, _, _, _, _, _, _, _, _, _, _, _, _, _, _, _, _, _, _, _, _, _, _, _, _, _, _, _, _, _, _, _, _, _, _, _, _, _, _, _, _, _, _, hP, hD, ⟨_, h6⟩, ⟨_, h4s⟩, hT, ⟨n0, s0, d0, h0, rfl, rfl, rfl, hPh⟩, hKR⟩ hS)
set_option maxHeartbeats 4000000 in
set_option maxRecDepth 100000 in
theorem lw_c26 (l : Launch) (C0 : LawC p s m meth c D ca sa sd A b L xs) (hl : lv_has ls 4 [(0, .ref b), (1, .ref (a 0)), (2, .ref (a8 0)), (3, .int x)]) (h1 : vp_in (x + 1) L) (h2 : vp_in (x + 2) L) (h3 : vp_in (x + 3) L) (h4 : vp_in (x + 4) L) (h5 : vp_in (x + 5) L) (hf0 : cn + 0 ≤ room_1.cells ∧ sn + 0 ≤ room_1.slots) (hf8 : cn + 8 ≤ room_1.cells ∧ sn + 122 ≤ room_1.slots) (kk : LwG p l e s m below meth c Q A b ls (Inv D ca A a aR aT aH aD aK aI aC aS aY a8) (cn + 8) (sn + 130) 1265) : LwG p l e s m below meth c Q A b ls (Inv D ca A a aR aT aH aD aK aI aC aS aY a8) cn sn 944 := by
  obtain ⟨hx, hb, hr, hml, hown, hts, hX, hbl, hbA, hA, hK, hSX⟩ := C0
  intro Hh locs hI hS
  obtain ⟨lt, rs, rc, tS, tc, hk, hw, ho, hg, he, hr, hd, sz, sB, dC, ek, ew, eo, eg, ee, er, ed, zz, zB, zC, kept, il, io, ih, ct, tp, bo, oF, la, mS, mW, xS, xW, now, keeps, kM, fi, fs, rd, at8, costs, ways, reach, hP, hD, ⟨m6, h6⟩, ⟨m4, h4s⟩, hT, hQ, hKR⟩ := hI
  obtain ⟨n0, s0, d0, h0, rfl, rfl, rfl, hPh⟩ := hQ
  refine lv_aload_n hx hb dL_law_944 rfl (lv_at hl 1 rfl) ?_
  refine lv_aload_n hx hb dL_law_945 rfl (lv_at hl 0 rfl) ?_
  refine lv_iload_n hx hb dL_law_946 rfl (lv_at hl 3 rfl) ?_
  refine lv_iconst (v := (1)) hx hb dL_law_947 (by decide) ?_
  refine lv_iadd hx hb dL_law_948 ?_
  refine va_sld hx hb hX hbl hbA hS h1 dL_law_949 ?_
  have hc := c_X7_last l D ca a aR aT aH aD aK aI aC aS aY lt hk hw ho hg he hr hd (nI n0) (nI s0) (nI d0) tp bo (xs (x + 1).toNatClampNeg) _ (hD.subM [0, 7, 8, 9, 10, 11, 12, 13, 14, 30] (by decide) rfl) (s_last hPh.1 hPh.2.1 hPh.2.2.1 hPh.2.2.2.1 hPh.2.2.2.2.2.2.1 tp bo costs ways (xs (x + 1).toNatClampNeg))
  refine wr_calliK (ws1 := fun zu => WL ca a aR aT aH aD aK aI aC aS aY a8 lt rs rc tS tc hk hw ho hg he hr hd (nI n0) (nI s0) (nI d0) ek ew eo eg ee er ed zz zB zC kept il io ih ct (zu.1) (zu.2) oF la mS mW xS xW now keeps kM lt tp bo fi fs rd at8 costs ways reach) (wr := ([1, 2, 3, 4, 5, 6, 15, 16, 17, 18, 19, 20, 21, 22, 23, 24, 25, 26, 27, 28, 29, 31, 32, 33, 34, 35, 36, 37, 38, 39, 40, 41, 42, 43, 44, 45] : List Nat).filterMap (fun zi => (WL ca a aR aT aH aD aK aI aC aS aY a8 lt rs rc tS tc hk hw ho hg he hr hd (nI n0) (nI s0) (nI d0) ek ew eo eg ee er ed zz zB zC kept il io ih ct tp bo oF la mS mW xS xW now keeps kM lt tp bo fi fs rd at8 costs ways reach : va_W)[zi]?)) (n := 46) (va_runV (As := [.int ((xs (x + 1).toNatClampNeg))]) (rest := []) ⟨hx, hb, hml, hown, hts⟩ hc (cwV 1 hts gL_law_X7_last rfl rfl rfl (by decide +kernel) ⟨Nat.le_of_ble_eq_true rfl, Nat.le_of_ble_eq_true rfl⟩) (PcX.preV (q := (RX7, TX7, 10)) (ci := 6) (q0 := 0) hK hP rfl rfl (hP.subM [0, 7, 8, 9, 10, 11, 12, 13, 14, 30] rfl)) rfl rfl hl.1 rfl (lv_room (Nat.le_of_ble_eq_true rfl)) dL_law_950 hf0) hP hD hS [0, 7, 8, 9, 10, 11, 12, 13, 14, 30] [1, 2, 3, 4, 5, 6, 15, 16, 17, 18, 19, 20, 21, 22, 23, 24, 25, 26, 27, 28, 29, 31, 32, 33, 34, 35, 36, 37, 38, 39, 40, 41, 42, 43, 44, 45] rfl (fun _ => rfl) rfl (fun _ => rfl) (fun _ => rfl) (fun _ => rfl) (by decide +kernel) (by decide +kernel) (fun r7 zu H1 locs1 hp hP1 hD1 hS1 hk1 => ?_)
  obtain ⟨tp_7, bo_7⟩ := zu
  try dsimp only at hp
  have hKR := hKR.frame hk1
  have hP : va_P D vwCl (WL ca a aR aT aH aD aK aI aC aS aY a8 lt rs rc tS tc hk hw ho hg he hr hd (nI n0) (nI s0) (nI d0) ek ew eo eg ee er ed zz zB zC kept il io ih ct tp_7 bo_7 oF la mS mW xS xW now keeps kM lt tp bo fi fs rd at8 costs ways reach) H1 := hP1
  have hD : va_D A (WL ca a aR aT aH aD aK aI aC aS aY a8 lt rs rc tS tc hk hw ho hg he hr hd (nI n0) (nI s0) (nI d0) ek ew eo eg ee er ed zz zB zC kept il io ih ct tp_7 bo_7 oF la mS mW xS xW now keeps kM lt tp bo fi fs rd at8 costs ways reach) := hD1
  have hS := hS1
  clear hP1 hD1 hS1 hk1
  refine lv_aload_n hx hb dL_law_953 rfl (lv_at hl 2 rfl) ?_
  refine lv_aload_n hx hb dL_law_954 rfl (lv_at hl 0 rfl) ?_
  refine lv_iload_n hx hb dL_law_955 rfl (lv_at hl 3 rfl) ?_
  refine lv_iconst (v := (1)) hx hb dL_law_956 (by decide) ?_
  refine lv_iadd hx hb dL_law_957 ?_
  refine va_sld hx hb hX hbl hbA hS h1 dL_law_958 ?_
  have hc := c_X8_last l D ca a8 mS mW xS xW now keeps kM lt tp bo fi fs rd at8 costs ways reach (xs (x + 1).toNatClampNeg) _ (hD.subM [33, 34, 35, 36, 37, 38, 39, 40, 41, 42, 43, 44, 45] (by decide) rfl) hp
  refine wr_calliK (ws1 := fun zu => WL ca a aR aT aH aD aK aI aC aS aY a8 lt rs rc tS tc hk hw ho hg he hr hd (nI n0) (nI s0) (nI d0) ek ew eo eg ee er ed zz zB zC kept il io ih ct tp_7 bo_7 oF la mS mW xS xW now keeps kM lt (zu.1) (zu.2.1) fi fs rd at8 (zu.2.2.1) (zu.2.2.2) reach) (wr := ([0, 1, 2, 3, 4, 5, 6, 7, 8, 9, 10, 11, 12, 13, 14, 15, 16, 17, 18, 19, 20, 21, 22, 23, 24, 25, 26, 27, 28, 29, 30, 31, 32] : List Nat).filterMap (fun zi => (WL ca a aR aT aH aD aK aI aC aS aY a8 lt rs rc tS tc hk hw ho hg he hr hd (nI n0) (nI s0) (nI d0) ek ew eo eg ee er ed zz zB zC kept il io ih ct tp_7 bo_7 oF la mS mW xS xW now keeps kM lt tp bo fi fs rd at8 costs ways reach : va_W)[zi]?)) (n := 46) (va_runV (As := [.int ((xs (x + 1).toNatClampNeg))]) (rest := [.int r7]) ⟨hx, hb, hml, hown, hts⟩ hc (cwV 1 hts gL_law_X8_last rfl rfl rfl (by decide +kernel) ⟨Nat.le_of_ble_eq_true rfl, Nat.le_of_ble_eq_true rfl⟩) (PcX.preV (q := (RX8, TX8, 17)) (ci := 7) (q0 := 33) hK hP rfl rfl (hP.subM [33, 34, 35, 36, 37, 38, 39, 40, 41, 42, 43, 44, 45] rfl)) rfl rfl hl.1 rfl (lv_room (Nat.le_of_ble_eq_true rfl)) dL_law_959 hf0) hP hD hS [33, 34, 35, 36, 37, 38, 39, 40, 41, 42, 43, 44, 45] [0, 1, 2, 3, 4, 5, 6, 7, 8, 9, 10, 11, 12, 13, 14, 15, 16, 17, 18, 19, 20, 21, 22, 23, 24, 25, 26, 27, 28, 29, 30, 31, 32] rfl (fun _ => rfl) rfl (fun _ => rfl) (fun _ => rfl) (fun _ => rfl) (by decide +kernel) (by decide +kernel) (fun r8 zu H1 locs1 hp hP1 hD1 hS1 hk1 => ?_)
  obtain ⟨up_8, lo_8, costs_8, ways_8⟩ := zu
  try dsimp only at hp
  have hKR := hKR.frame hk1
  have hP : va_P D vwCl (WL ca a aR aT aH aD aK aI aC aS aY a8 lt rs rc tS tc hk hw ho hg he hr hd (nI n0) (nI s0) (nI d0) ek ew eo eg ee er ed zz zB zC kept il io ih ct tp_7 bo_7 oF la mS mW xS xW now keeps kM lt up_8 lo_8 fi fs rd at8 costs_8 ways_8 reach) H1 := hP1
  have hD : va_D A (WL ca a aR aT aH aD aK aI aC aS aY a8 lt rs rc tS tc hk hw ho hg he hr hd (nI n0) (nI s0) (nI d0) ek ew eo eg ee er ed zz zB zC kept il io ih ct tp_7 bo_7 oF la mS mW xS xW now keeps kM lt up_8 lo_8 fi fs rd at8 costs_8 ways_8 reach) := hD1
  have hS := hS1
  clear hP1 hD1 hS1 hk1
  obtain ⟨hre, ht1, ht2⟩ := hp
  subst ht1
  subst ht2
  refine lv_icmp_eq (tgt := 1265) hx hb dL_law_962 (by decide) (fun _ => ?_) (fun hne => absurd hre hne)
  exact W.widen (Nat.le_add_right _ _) (Nat.le_add_right _ _) (kk _ _ ⟨_, _, _, _, _, _, _, _, _, _, _, _, _, _, _, _, _, _, _, _, _, _, _, _, _, _, _, _, _, _, _, _, _, _, _, _, _, _, _, _, _, _, _, _, _, _, _, _, hP, hD, ⟨_, h6⟩, ⟨_, h4s⟩, hT, ⟨n0, s0, d0, h0, rfl, rfl, rfl, hPh⟩, hKR⟩ hS)
set_option maxHeartbeats 4000000 in
set_option maxRecDepth 100000 in
theorem lw_c27 (l : Launch) (C0 : LawC p s m meth c D ca sa sd A b L xs) (hl : lv_has ls 4 [(0, .ref b), (1, .ref (a 0)), (2, .ref (a8 0)), (3, .int x)]) (h1 : vp_in (x + 1) L) (h2 : vp_in (x + 2) L) (h3 : vp_in (x + 3) L) (h4 : vp_in (x + 4) L) (h5 : vp_in (x + 5) L) (hf0 : cn + 0 ≤ room_1.cells ∧ sn + 0 ≤ room_1.slots) (hf8 : cn + 8 ≤ room_1.cells ∧ sn + 122 ≤ room_1.slots) (kk : LwG p l e s m below meth c Q A b ls (Inv D ca A a aR aT aH aD aK aI aC aS aY a8) (cn + 8) (sn + 130) 1265) : LwG p l e s m below meth c Q A b ls (Inv D ca A a aR aT aH aD aK aI aC aS aY a8) cn sn 967 := by
  obtain ⟨hx, hb, hr, hml, hown, hts, hX, hbl, hbA, hA, hK, hSX⟩ := C0
  intro Hh locs hI hS
  obtain ⟨lt, rs, rc, tS, tc, hk, hw, ho, hg, he, hr, hd, sz, sB, dC, ek, ew, eo, eg, ee, er, ed, zz, zB, zC, kept, il, io, ih, ct, tp, bo, oF, la, mS, mW, xS, xW, now, keeps, kM, fi, fs, rd, at8, costs, ways, reach, hP, hD, ⟨m6, h6⟩, ⟨m4, h4s⟩, hT, hQ, hKR⟩ := hI
  obtain ⟨n0, s0, d0, h0, rfl, rfl, rfl, hPh⟩ := hQ
  refine lv_aload_n hx hb dL_law_967 rfl (lv_at hl 1 rfl) ?_
  refine lv_aload_n hx hb dL_law_968 rfl (lv_at hl 0 rfl) ?_
  refine lv_iload_n hx hb dL_law_969 rfl (lv_at hl 3 rfl) ?_
  refine lv_iconst (v := (1)) hx hb dL_law_970 (by decide) ?_
  refine lv_iadd hx hb dL_law_971 ?_
  refine va_sld hx hb hX hbl hbA hS h1 dL_law_972 ?_
  refine lv_aload_n hx hb dL_law_973 rfl (lv_at hl 0 rfl) ?_
  refine lv_iload_n hx hb dL_law_974 rfl (lv_at hl 3 rfl) ?_
  refine lv_iconst (v := (2)) hx hb dL_law_975 (by decide) ?_
  refine lv_iadd hx hb dL_law_976 ?_
  refine va_sld hx hb hX hbl hbA hS h2 dL_law_977 ?_
  have hc := c_X7_end l D ca a aR aT aH aD aK aI aC aS aY lt hk hw ho hg he hr hd (nI n0) (nI s0) (nI d0) ct (xs (x + 1).toNatClampNeg) (xs (x + 2).toNatClampNeg) _ (hD.subM [0, 7, 8, 9, 10, 11, 12, 13, 14, 28, 29] (by decide) rfl) (s_end hPh.1 hPh.2.1 hPh.2.2.1 hPh.s4 hPh.2.2.2.2.2.2.1 lt (xs (x + 1).toNatClampNeg) (xs (x + 2).toNatClampNeg))
  refine wr_calliK (ws1 := fun zu => WL ca a aR aT aH aD aK aI aC aS aY a8 (zu) rs rc tS tc hk hw ho hg he hr hd (nI n0) (nI s0) (nI d0) ek ew eo eg ee er ed zz zB zC kept il io ih ct tp bo oF la mS mW xS xW now keeps kM lt tp bo fi fs rd at8 costs ways reach) (wr := ([1, 2, 3, 4, 5, 6, 15, 16, 17, 18, 19, 20, 21, 22, 23, 24, 25, 26, 27, 30, 31, 32, 33, 34, 35, 36, 37, 38, 39, 40, 41, 42, 43, 44, 45] : List Nat).filterMap (fun zi => (WL ca a aR aT aH aD aK aI aC aS aY a8 lt rs rc tS tc hk hw ho hg he hr hd (nI n0) (nI s0) (nI d0) ek ew eo eg ee er ed zz zB zC kept il io ih ct tp bo oF la mS mW xS xW now keeps kM lt tp bo fi fs rd at8 costs ways reach : va_W)[zi]?)) (n := 46) (va_runV (As := [.int ((xs (x + 1).toNatClampNeg)), .int ((xs (x + 2).toNatClampNeg))]) (rest := []) ⟨hx, hb, hml, hown, hts⟩ hc (cwV 2 hts gL_law_X7_end rfl rfl rfl (by decide +kernel) ⟨Nat.le_of_ble_eq_true rfl, Nat.le_of_ble_eq_true rfl⟩) (PcX.preV (q := (RX7, TX7, 10)) (ci := 6) (q0 := 0) hK hP rfl rfl (hP.subM [0, 7, 8, 9, 10, 11, 12, 13, 14, 28, 29] rfl)) rfl rfl hl.1 rfl (lv_room (Nat.le_of_ble_eq_true rfl)) dL_law_978 hf0) hP hD hS [0, 7, 8, 9, 10, 11, 12, 13, 14, 28, 29] [1, 2, 3, 4, 5, 6, 15, 16, 17, 18, 19, 20, 21, 22, 23, 24, 25, 26, 27, 30, 31, 32, 33, 34, 35, 36, 37, 38, 39, 40, 41, 42, 43, 44, 45] rfl (fun _ => rfl) rfl (fun _ => rfl) (fun _ => rfl) (fun _ => rfl) (by decide +kernel) (by decide +kernel) (fun r7 zu H1 locs1 hp hP1 hD1 hS1 hk1 => ?_)
  obtain ⟨lt_7, rfl⟩ : ∃ zz, zz = zu := ⟨zu, rfl⟩
  try dsimp only at hp
  have hKR := hKR.frame hk1
  have hP : va_P D vwCl (WL ca a aR aT aH aD aK aI aC aS aY a8 lt_7 rs rc tS tc hk hw ho hg he hr hd (nI n0) (nI s0) (nI d0) ek ew eo eg ee er ed zz zB zC kept il io ih ct tp bo oF la mS mW xS xW now keeps kM lt tp bo fi fs rd at8 costs ways reach) H1 := hP1
  have hD : va_D A (WL ca a aR aT aH aD aK aI aC aS aY a8 lt_7 rs rc tS tc hk hw ho hg he hr hd (nI n0) (nI s0) (nI d0) ek ew eo eg ee er ed zz zB zC kept il io ih ct tp bo oF la mS mW xS xW now keeps kM lt tp bo fi fs rd at8 costs ways reach) := hD1
  have hS := hS1
  clear hP1 hD1 hS1 hk1
  refine lv_aload_n hx hb dL_law_981 rfl (lv_at hl 2 rfl) ?_
  refine lv_aload_n hx hb dL_law_982 rfl (lv_at hl 0 rfl) ?_
  refine lv_iload_n hx hb dL_law_983 rfl (lv_at hl 3 rfl) ?_
  refine lv_iconst (v := (1)) hx hb dL_law_984 (by decide) ?_
  refine lv_iadd hx hb dL_law_985 ?_
  refine va_sld hx hb hX hbl hbA hS h1 dL_law_986 ?_
  refine lv_aload_n hx hb dL_law_987 rfl (lv_at hl 0 rfl) ?_
  refine lv_iload_n hx hb dL_law_988 rfl (lv_at hl 3 rfl) ?_
  refine lv_iconst (v := (2)) hx hb dL_law_989 (by decide) ?_
  refine lv_iadd hx hb dL_law_990 ?_
  refine va_sld hx hb hX hbl hbA hS h2 dL_law_991 ?_
  have hc := c_X8_end l D ca a8 mS mW xS xW now keeps kM lt tp bo fi fs rd at8 costs ways reach (xs (x + 1).toNatClampNeg) (xs (x + 2).toNatClampNeg) _ (hD.subM [33, 34, 35, 36, 37, 38, 39, 40, 41, 42, 43, 44, 45] (by decide) rfl) hp
  refine wr_calliK (ws1 := fun zu => WL ca a aR aT aH aD aK aI aC aS aY a8 lt_7 rs rc tS tc hk hw ho hg he hr hd (nI n0) (nI s0) (nI d0) ek ew eo eg ee er ed zz zB zC kept il io ih ct tp bo oF la mS mW xS xW now keeps kM (zu) tp bo fi fs rd at8 costs ways reach) (wr := ([0, 1, 2, 3, 4, 5, 6, 7, 8, 9, 10, 11, 12, 13, 14, 15, 16, 17, 18, 19, 20, 21, 22, 23, 24, 25, 26, 27, 28, 29, 30, 31, 32] : List Nat).filterMap (fun zi => (WL ca a aR aT aH aD aK aI aC aS aY a8 lt_7 rs rc tS tc hk hw ho hg he hr hd (nI n0) (nI s0) (nI d0) ek ew eo eg ee er ed zz zB zC kept il io ih ct tp bo oF la mS mW xS xW now keeps kM lt tp bo fi fs rd at8 costs ways reach : va_W)[zi]?)) (n := 46) (va_runV (As := [.int ((xs (x + 1).toNatClampNeg)), .int ((xs (x + 2).toNatClampNeg))]) (rest := [.int r7]) ⟨hx, hb, hml, hown, hts⟩ hc (cwV 2 hts gL_law_X8_end rfl rfl rfl (by decide +kernel) ⟨Nat.le_of_ble_eq_true rfl, Nat.le_of_ble_eq_true rfl⟩) (PcX.preV (q := (RX8, TX8, 17)) (ci := 7) (q0 := 33) hK hP rfl rfl (hP.subM [33, 34, 35, 36, 37, 38, 39, 40, 41, 42, 43, 44, 45] rfl)) rfl rfl hl.1 rfl (lv_room (Nat.le_of_ble_eq_true rfl)) dL_law_992 hf0) hP hD hS [33, 34, 35, 36, 37, 38, 39, 40, 41, 42, 43, 44, 45] [0, 1, 2, 3, 4, 5, 6, 7, 8, 9, 10, 11, 12, 13, 14, 15, 16, 17, 18, 19, 20, 21, 22, 23, 24, 25, 26, 27, 28, 29, 30, 31, 32] rfl (fun _ => rfl) rfl (fun _ => rfl) (fun _ => rfl) (fun _ => rfl) (by decide +kernel) (by decide +kernel) (fun r8 zu H1 locs1 hp hP1 hD1 hS1 hk1 => ?_)
  obtain ⟨as__8, rfl⟩ : ∃ zz, zz = zu := ⟨zu, rfl⟩
  try dsimp only at hp
  have hKR := hKR.frame hk1
  have hP : va_P D vwCl (WL ca a aR aT aH aD aK aI aC aS aY a8 lt_7 rs rc tS tc hk hw ho hg he hr hd (nI n0) (nI s0) (nI d0) ek ew eo eg ee er ed zz zB zC kept il io ih ct tp bo oF la mS mW xS xW now keeps kM as__8 tp bo fi fs rd at8 costs ways reach) H1 := hP1
  have hD : va_D A (WL ca a aR aT aH aD aK aI aC aS aY a8 lt_7 rs rc tS tc hk hw ho hg he hr hd (nI n0) (nI s0) (nI d0) ek ew eo eg ee er ed zz zB zC kept il io ih ct tp bo oF la mS mW xS xW now keeps kM as__8 tp bo fi fs rd at8 costs ways reach) := hD1
  have hS := hS1
  clear hP1 hD1 hS1 hk1
  obtain ⟨hre, hlt⟩ := hp
  subst hlt
  refine lv_icmp_eq (tgt := 1265) hx hb dL_law_995 (by decide) (fun _ => ?_) (fun hne => absurd hre hne)
  exact W.widen (Nat.le_add_right _ _) (Nat.le_add_right _ _) (kk _ _ ⟨_, _, _, _, _, _, _, _, _, _, _, _, _, _, _, _, _, _, _, _, _, _, _, _, _, _, _, _, _, _, _, _, _, _, _, _, _, _, _, _, _, _, _, _, _, _, _, _, hP, hD, ⟨_, h6⟩, ⟨_, h4s⟩, hT, ⟨n0, s0, d0, h0, rfl, rfl, rfl, hPh⟩, hKR⟩ hS)
set_option maxHeartbeats 4000000 in
set_option maxRecDepth 100000 in
theorem lw_c28 (l : Launch) (C0 : LawC p s m meth c D ca sa sd A b L xs) (hl : lv_has ls 4 [(0, .ref b), (1, .ref (a 0)), (2, .ref (a8 0)), (3, .int x)]) (h1 : vp_in (x + 1) L) (h2 : vp_in (x + 2) L) (h3 : vp_in (x + 3) L) (h4 : vp_in (x + 4) L) (h5 : vp_in (x + 5) L) (hf0 : cn + 0 ≤ room_1.cells ∧ sn + 0 ≤ room_1.slots) (hf8 : cn + 8 ≤ room_1.cells ∧ sn + 122 ≤ room_1.slots) (kk : LwG p l e s m below meth c Q A b ls (Inv D ca A a aR aT aH aD aK aI aC aS aY a8) (cn + 8) (sn + 130) 1265) : LwG p l e s m below meth c Q A b ls (Inv D ca A a aR aT aH aD aK aI aC aS aY a8) cn sn 1000 := by
  obtain ⟨hx, hb, hr, hml, hown, hts, hX, hbl, hbA, hA, hK, hSX⟩ := C0
  intro Hh locs hI hS
  obtain ⟨lt, rs, rc, tS, tc, hk, hw, ho, hg, he, hr, hd, sz, sB, dC, ek, ew, eo, eg, ee, er, ed, zz, zB, zC, kept, il, io, ih, ct, tp, bo, oF, la, mS, mW, xS, xW, now, keeps, kM, fi, fs, rd, at8, costs, ways, reach, hP, hD, ⟨m6, h6⟩, ⟨m4, h4s⟩, hT, hQ, hKR⟩ := hI
  obtain ⟨n0, s0, d0, h0, rfl, rfl, rfl, hPh⟩ := hQ
  refine lv_aload_n hx hb dL_law_1000 rfl (lv_at hl 1 rfl) ?_
  have hc := c_X7_rings l D ca a aR aT aH aD aK aI aC aS aY lt hk hw ho hg he hr hd (nI n0) (nI s0) (nI d0) ct  _ (hD.subM [0, 7, 8, 9, 10, 11, 12, 13, 14, 28, 29] (by decide) rfl) (s_rings hPh.1 hPh.2.1 hPh.2.2.1 hPh.s4 hPh.2.2.2.2.2.2.1 lt ct reach)
  refine wr_calliK (ws1 := fun zu => WL ca a aR aT aH aD aK aI aC aS aY a8 (zu.1) rs rc tS tc hk hw ho hg he hr hd (nI n0) (nI s0) (nI d0) ek ew eo eg ee er ed zz zB zC kept il io ih (zu.2) tp bo oF la mS mW xS xW now keeps kM lt tp bo fi fs rd at8 costs ways reach) (wr := ([1, 2, 3, 4, 5, 6, 15, 16, 17, 18, 19, 20, 21, 22, 23, 24, 25, 26, 27, 30, 31, 32, 33, 34, 35, 36, 37, 38, 39, 40, 41, 42, 43, 44, 45] : List Nat).filterMap (fun zi => (WL ca a aR aT aH aD aK aI aC aS aY a8 lt rs rc tS tc hk hw ho hg he hr hd (nI n0) (nI s0) (nI d0) ek ew eo eg ee er ed zz zB zC kept il io ih ct tp bo oF la mS mW xS xW now keeps kM lt tp bo fi fs rd at8 costs ways reach : va_W)[zi]?)) (n := 46) (va_runV (As := []) (rest := []) ⟨hx, hb, hml, hown, hts⟩ hc (cwV 0 hts gL_law_X7_rings rfl rfl rfl (by decide +kernel) ⟨Nat.le_of_ble_eq_true rfl, Nat.le_of_ble_eq_true rfl⟩) (PcX.preV (q := (RX7, TX7, 10)) (ci := 6) (q0 := 0) hK hP rfl rfl (hP.subM [0, 7, 8, 9, 10, 11, 12, 13, 14, 28, 29] rfl)) rfl rfl hl.1 rfl (lv_room (Nat.le_of_ble_eq_true rfl)) dL_law_1001 hf0) hP hD hS [0, 7, 8, 9, 10, 11, 12, 13, 14, 28, 29] [1, 2, 3, 4, 5, 6, 15, 16, 17, 18, 19, 20, 21, 22, 23, 24, 25, 26, 27, 30, 31, 32, 33, 34, 35, 36, 37, 38, 39, 40, 41, 42, 43, 44, 45] rfl (fun _ => rfl) rfl (fun _ => rfl) (fun _ => rfl) (fun _ => rfl) (by decide +kernel) (by decide +kernel) (fun r7 zu H1 locs1 hp hP1 hD1 hS1 hk1 => ?_)
  obtain ⟨lt_7, ct_7⟩ := zu
  try dsimp only at hp
  have hKR := hKR.frame hk1
  have hP : va_P D vwCl (WL ca a aR aT aH aD aK aI aC aS aY a8 lt_7 rs rc tS tc hk hw ho hg he hr hd (nI n0) (nI s0) (nI d0) ek ew eo eg ee er ed zz zB zC kept il io ih ct_7 tp bo oF la mS mW xS xW now keeps kM lt tp bo fi fs rd at8 costs ways reach) H1 := hP1
  have hD : va_D A (WL ca a aR aT aH aD aK aI aC aS aY a8 lt_7 rs rc tS tc hk hw ho hg he hr hd (nI n0) (nI s0) (nI d0) ek ew eo eg ee er ed zz zB zC kept il io ih ct_7 tp bo oF la mS mW xS xW now keeps kM lt tp bo fi fs rd at8 costs ways reach) := hD1
  have hS := hS1
  clear hP1 hD1 hS1 hk1
  refine lv_aload_n hx hb dL_law_1004 rfl (lv_at hl 2 rfl) ?_
  have hc := c_X8_rings l D ca a8 mS mW xS xW now keeps kM lt tp bo fi fs rd at8 costs ways reach  _ (hD.subM [33, 34, 35, 36, 37, 38, 39, 40, 41, 42, 43, 44, 45] (by decide) rfl) hp
  refine wr_calliK (ws1 := fun zu => WL ca a aR aT aH aD aK aI aC aS aY a8 lt_7 rs rc tS tc hk hw ho hg he hr hd (nI n0) (nI s0) (nI d0) ek ew eo eg ee er ed zz zB zC kept il io ih ct_7 tp bo oF la mS mW xS xW now keeps kM (zu.1) tp bo fi fs rd at8 costs ways (zu.2)) (wr := ([0, 1, 2, 3, 4, 5, 6, 7, 8, 9, 10, 11, 12, 13, 14, 15, 16, 17, 18, 19, 20, 21, 22, 23, 24, 25, 26, 27, 28, 29, 30, 31, 32] : List Nat).filterMap (fun zi => (WL ca a aR aT aH aD aK aI aC aS aY a8 lt_7 rs rc tS tc hk hw ho hg he hr hd (nI n0) (nI s0) (nI d0) ek ew eo eg ee er ed zz zB zC kept il io ih ct_7 tp bo oF la mS mW xS xW now keeps kM lt tp bo fi fs rd at8 costs ways reach : va_W)[zi]?)) (n := 46) (va_runV (As := []) (rest := [.int r7]) ⟨hx, hb, hml, hown, hts⟩ hc (cwV 0 hts gL_law_X8_rings rfl rfl rfl (by decide +kernel) ⟨Nat.le_of_ble_eq_true rfl, Nat.le_of_ble_eq_true rfl⟩) (PcX.preV (q := (RX8, TX8, 17)) (ci := 7) (q0 := 33) hK hP rfl rfl (hP.subM [33, 34, 35, 36, 37, 38, 39, 40, 41, 42, 43, 44, 45] rfl)) rfl rfl hl.1 rfl (lv_room (Nat.le_of_ble_eq_true rfl)) dL_law_1005 hf0) hP hD hS [33, 34, 35, 36, 37, 38, 39, 40, 41, 42, 43, 44, 45] [0, 1, 2, 3, 4, 5, 6, 7, 8, 9, 10, 11, 12, 13, 14, 15, 16, 17, 18, 19, 20, 21, 22, 23, 24, 25, 26, 27, 28, 29, 30, 31, 32] rfl (fun _ => rfl) rfl (fun _ => rfl) (fun _ => rfl) (fun _ => rfl) (by decide +kernel) (by decide +kernel) (fun r8 zu H1 locs1 hp hP1 hD1 hS1 hk1 => ?_)
  obtain ⟨as__8, reach_8⟩ := zu
  try dsimp only at hp
  have hKR := hKR.frame hk1
  have hP : va_P D vwCl (WL ca a aR aT aH aD aK aI aC aS aY a8 lt_7 rs rc tS tc hk hw ho hg he hr hd (nI n0) (nI s0) (nI d0) ek ew eo eg ee er ed zz zB zC kept il io ih ct_7 tp bo oF la mS mW xS xW now keeps kM as__8 tp bo fi fs rd at8 costs ways reach_8) H1 := hP1
  have hD : va_D A (WL ca a aR aT aH aD aK aI aC aS aY a8 lt_7 rs rc tS tc hk hw ho hg he hr hd (nI n0) (nI s0) (nI d0) ek ew eo eg ee er ed zz zB zC kept il io ih ct_7 tp bo oF la mS mW xS xW now keeps kM as__8 tp bo fi fs rd at8 costs ways reach_8) := hD1
  have hS := hS1
  clear hP1 hD1 hS1 hk1
  obtain ⟨hre, hlt⟩ := hp
  subst hlt
  refine lv_icmp_eq (tgt := 1265) hx hb dL_law_1008 (by decide) (fun _ => ?_) (fun hne => absurd hre hne)
  exact W.widen (Nat.le_add_right _ _) (Nat.le_add_right _ _) (kk _ _ ⟨_, _, _, _, _, _, _, _, _, _, _, _, _, _, _, _, _, _, _, _, _, _, _, _, _, _, _, _, _, _, _, _, _, _, _, _, _, _, _, _, _, _, _, _, _, _, _, _, hP, hD, ⟨_, h6⟩, ⟨_, h4s⟩, hT, ⟨n0, s0, d0, h0, rfl, rfl, rfl, hPh⟩, hKR⟩ hS)
set_option maxHeartbeats 4000000 in
set_option maxRecDepth 100000 in
theorem lw_c29 (l : Launch) (C0 : LawC p s m meth c D ca sa sd A b L xs) (hl : lv_has ls 4 [(0, .ref b), (1, .ref (a 0)), (2, .ref (a8 0)), (3, .int x)]) (h1 : vp_in (x + 1) L) (h2 : vp_in (x + 2) L) (h3 : vp_in (x + 3) L) (h4 : vp_in (x + 4) L) (h5 : vp_in (x + 5) L) (hf0 : cn + 0 ≤ room_1.cells ∧ sn + 0 ≤ room_1.slots) (hf8 : cn + 8 ≤ room_1.cells ∧ sn + 122 ≤ room_1.slots) (kk : LwG p l e s m below meth c Q A b ls (Inv D ca A a aR aT aH aD aK aI aC aS aY a8) (cn + 8) (sn + 130) 1265) : LwG p l e s m below meth c Q A b ls (Inv D ca A a aR aT aH aD aK aI aC aS aY a8) cn sn 1013 := by
  obtain ⟨hx, hb, hr, hml, hown, hts, hX, hbl, hbA, hA, hK, hSX⟩ := C0
  intro Hh locs hI hS
  obtain ⟨lt, rs, rc, tS, tc, hk, hw, ho, hg, he, hr, hd, sz, sB, dC, ek, ew, eo, eg, ee, er, ed, zz, zB, zC, kept, il, io, ih, ct, tp, bo, oF, la, mS, mW, xS, xW, now, keeps, kM, fi, fs, rd, at8, costs, ways, reach, hP, hD, ⟨m6, h6⟩, ⟨m4, h4s⟩, hT, hQ, hKR⟩ := hI
  obtain ⟨n0, s0, d0, h0, rfl, rfl, rfl, hPh⟩ := hQ
  refine lv_aload_n hx hb dL_law_1013 rfl (lv_at hl 1 rfl) ?_
  have hc := c_X7_away l D ca a aR aT aH aD aK aI aC aS aY lt hk hw ho hg he hr hd (nI n0) (nI s0) (nI d0) ct  _ (hD.subM [0, 7, 8, 9, 10, 11, 12, 13, 14, 28, 29] (by decide) rfl) (s_away hPh.1 hPh.2.1 hPh.2.2.1 hPh.s4 hPh.2.2.2.2.2.2.1 lt ct reach)
  refine wr_calliK (ws1 := fun zu => WL ca a aR aT aH aD aK aI aC aS aY a8 (zu.1) rs rc tS tc hk hw ho hg he hr hd (nI n0) (nI s0) (nI d0) ek ew eo eg ee er ed zz zB zC kept il io ih (zu.2) tp bo oF la mS mW xS xW now keeps kM lt tp bo fi fs rd at8 costs ways reach) (wr := ([1, 2, 3, 4, 5, 6, 15, 16, 17, 18, 19, 20, 21, 22, 23, 24, 25, 26, 27, 30, 31, 32, 33, 34, 35, 36, 37, 38, 39, 40, 41, 42, 43, 44, 45] : List Nat).filterMap (fun zi => (WL ca a aR aT aH aD aK aI aC aS aY a8 lt rs rc tS tc hk hw ho hg he hr hd (nI n0) (nI s0) (nI d0) ek ew eo eg ee er ed zz zB zC kept il io ih ct tp bo oF la mS mW xS xW now keeps kM lt tp bo fi fs rd at8 costs ways reach : va_W)[zi]?)) (n := 46) (va_runV (As := []) (rest := []) ⟨hx, hb, hml, hown, hts⟩ hc (cwV 0 hts gL_law_X7_away rfl rfl rfl (by decide +kernel) ⟨Nat.le_of_ble_eq_true rfl, Nat.le_of_ble_eq_true rfl⟩) (PcX.preV (q := (RX7, TX7, 10)) (ci := 6) (q0 := 0) hK hP rfl rfl (hP.subM [0, 7, 8, 9, 10, 11, 12, 13, 14, 28, 29] rfl)) rfl rfl hl.1 rfl (lv_room (Nat.le_of_ble_eq_true rfl)) dL_law_1014 hf0) hP hD hS [0, 7, 8, 9, 10, 11, 12, 13, 14, 28, 29] [1, 2, 3, 4, 5, 6, 15, 16, 17, 18, 19, 20, 21, 22, 23, 24, 25, 26, 27, 30, 31, 32, 33, 34, 35, 36, 37, 38, 39, 40, 41, 42, 43, 44, 45] rfl (fun _ => rfl) rfl (fun _ => rfl) (fun _ => rfl) (fun _ => rfl) (by decide +kernel) (by decide +kernel) (fun r7 zu H1 locs1 hp hP1 hD1 hS1 hk1 => ?_)
  obtain ⟨lt_7, ct_7⟩ := zu
  try dsimp only at hp
  have hKR := hKR.frame hk1
  have hP : va_P D vwCl (WL ca a aR aT aH aD aK aI aC aS aY a8 lt_7 rs rc tS tc hk hw ho hg he hr hd (nI n0) (nI s0) (nI d0) ek ew eo eg ee er ed zz zB zC kept il io ih ct_7 tp bo oF la mS mW xS xW now keeps kM lt tp bo fi fs rd at8 costs ways reach) H1 := hP1
  have hD : va_D A (WL ca a aR aT aH aD aK aI aC aS aY a8 lt_7 rs rc tS tc hk hw ho hg he hr hd (nI n0) (nI s0) (nI d0) ek ew eo eg ee er ed zz zB zC kept il io ih ct_7 tp bo oF la mS mW xS xW now keeps kM lt tp bo fi fs rd at8 costs ways reach) := hD1
  have hS := hS1
  clear hP1 hD1 hS1 hk1
  refine lv_aload_n hx hb dL_law_1017 rfl (lv_at hl 2 rfl) ?_
  have hc := c_X8_away l D ca a8 mS mW xS xW now keeps kM lt tp bo fi fs rd at8 costs ways reach  _ (hD.subM [33, 34, 35, 36, 37, 38, 39, 40, 41, 42, 43, 44, 45] (by decide) rfl) hp
  refine wr_calliK (ws1 := fun zu => WL ca a aR aT aH aD aK aI aC aS aY a8 lt_7 rs rc tS tc hk hw ho hg he hr hd (nI n0) (nI s0) (nI d0) ek ew eo eg ee er ed zz zB zC kept il io ih ct_7 tp bo oF la mS mW xS xW now keeps kM (zu.1) tp bo fi fs rd at8 costs ways (zu.2)) (wr := ([0, 1, 2, 3, 4, 5, 6, 7, 8, 9, 10, 11, 12, 13, 14, 15, 16, 17, 18, 19, 20, 21, 22, 23, 24, 25, 26, 27, 28, 29, 30, 31, 32] : List Nat).filterMap (fun zi => (WL ca a aR aT aH aD aK aI aC aS aY a8 lt_7 rs rc tS tc hk hw ho hg he hr hd (nI n0) (nI s0) (nI d0) ek ew eo eg ee er ed zz zB zC kept il io ih ct_7 tp bo oF la mS mW xS xW now keeps kM lt tp bo fi fs rd at8 costs ways reach : va_W)[zi]?)) (n := 46) (va_runV (As := []) (rest := [.int r7]) ⟨hx, hb, hml, hown, hts⟩ hc (cwV 0 hts gL_law_X8_away rfl rfl rfl (by decide +kernel) ⟨Nat.le_of_ble_eq_true rfl, Nat.le_of_ble_eq_true rfl⟩) (PcX.preV (q := (RX8, TX8, 17)) (ci := 7) (q0 := 33) hK hP rfl rfl (hP.subM [33, 34, 35, 36, 37, 38, 39, 40, 41, 42, 43, 44, 45] rfl)) rfl rfl hl.1 rfl (lv_room (Nat.le_of_ble_eq_true rfl)) dL_law_1018 hf0) hP hD hS [33, 34, 35, 36, 37, 38, 39, 40, 41, 42, 43, 44, 45] [0, 1, 2, 3, 4, 5, 6, 7, 8, 9, 10, 11, 12, 13, 14, 15, 16, 17, 18, 19, 20, 21, 22, 23, 24, 25, 26, 27, 28, 29, 30, 31, 32] rfl (fun _ => rfl) rfl (fun _ => rfl) (fun _ => rfl) (fun _ => rfl) (by decide +kernel) (by decide +kernel) (fun r8 zu H1 locs1 hp hP1 hD1 hS1 hk1 => ?_)
  obtain ⟨as__8, reach_8⟩ := zu
  try dsimp only at hp
  have hKR := hKR.frame hk1
  have hP : va_P D vwCl (WL ca a aR aT aH aD aK aI aC aS aY a8 lt_7 rs rc tS tc hk hw ho hg he hr hd (nI n0) (nI s0) (nI d0) ek ew eo eg ee er ed zz zB zC kept il io ih ct_7 tp bo oF la mS mW xS xW now keeps kM as__8 tp bo fi fs rd at8 costs ways reach_8) H1 := hP1
  have hD : va_D A (WL ca a aR aT aH aD aK aI aC aS aY a8 lt_7 rs rc tS tc hk hw ho hg he hr hd (nI n0) (nI s0) (nI d0) ek ew eo eg ee er ed zz zB zC kept il io ih ct_7 tp bo oF la mS mW xS xW now keeps kM as__8 tp bo fi fs rd at8 costs ways reach_8) := hD1
  have hS := hS1
  clear hP1 hD1 hS1 hk1
  obtain ⟨hre, hlt⟩ := hp
  subst hlt
  refine lv_icmp_eq (tgt := 1265) hx hb dL_law_1021 (by decide) (fun _ => ?_) (fun hne => absurd hre hne)
  exact W.widen (Nat.le_add_right _ _) (Nat.le_add_right _ _) (kk _ _ ⟨_, _, _, _, _, _, _, _, _, _, _, _, _, _, _, _, _, _, _, _, _, _, _, _, _, _, _, _, _, _, _, _, _, _, _, _, _, _, _, _, _, _, _, _, _, _, _, _, hP, hD, ⟨_, h6⟩, ⟨_, h4s⟩, hT, ⟨n0, s0, d0, h0, rfl, rfl, rfl, hPh⟩, hKR⟩ hS)
end LWC
