/-! the law's cases -/
section LWC
variable {p : Program} {e : Env} {s : State} {m : MethodId} {below : List Frame} {meth : Method} {c : Code} {Q : State → Prop} {D : va_G} {ca : Nat → ClassId} {sa sd : Nat} {A : Nat → Prop} {b L : Nat} {xs : Nat → Int32} {a aR aT aH aD : Nat → Nat} {aK : Nat} {aI aC aS aY a8 : Nat → Nat} {x : Int32} {ls : Array Slot} {cn sn : Nat}
set_option maxHeartbeats 4000000 in
set_option maxRecDepth 100000 in
theorem lw_c14 (l : Launch) (C0 : LawC p s m meth c D ca sa sd A b L xs) (hl : lv_has ls 4 [(0, .ref b), (1, .ref (a 0)), (2, .ref (a8 0)), (3, .int x)]) (h1 : vp_in (x + 1) L) (h2 : vp_in (x + 2) L) (h3 : vp_in (x + 3) L) (h4 : vp_in (x + 4) L) (h5 : vp_in (x + 5) L) (hf0 : cn + 0 ≤ room_1.cells ∧ sn + 0 ≤ room_1.slots) (hf8 : cn + 8 ≤ room_1.cells ∧ sn + 122 ≤ room_1.slots) (kk : LwG p l e s m below meth c Q A b ls (Inv D ca A a aR aT aH aD aK aI aC aS aY a8) (cn + 8) (sn + 130) 1265) : LwG p l e s m below meth c Q A b ls (Inv D ca A a aR aT aH aD aK aI aC aS aY a8) cn sn 698 := by
  obtain ⟨hx, hb, hr, hml, hown, hts, hX, hbl, hbA, hA, hK, hSX⟩ := C0
  intro Hh locs hI hS
  obtain ⟨lt, rs, rc, tS, tc, hk, hw, ho, hg, he, hr, hd, sz, sB, dC, ek, ew, eo, eg, ee, er, ed, zz, zB, zC, kept, il, io, ih, ct, tp, bo, oF, la, mS, mW, xS, xW, now, keeps, kM, fi, fs, rd, at8, costs, ways, reach, hP, hD, ⟨m6, h6⟩, ⟨m4, h4s⟩, hT, hQ, hKR⟩ := hI
  obtain ⟨n0, s0, d0, h0, rfl, rfl, rfl, hPh⟩ := hQ
  refine lv_aload_n hx hb dL_law_698 rfl (lv_at hl 1 rfl) ?_
  refine lv_aload_n hx hb dL_law_699 rfl (lv_at hl 0 rfl) ?_
  refine lv_iload_n hx hb dL_law_700 rfl (lv_at hl 3 rfl) ?_
  refine lv_iconst (v := (1)) hx hb dL_law_701 (by decide) ?_
  refine lv_iadd hx hb dL_law_702 ?_
  refine va_sld hx hb hX hbl hbA hS h1 dL_law_703 ?_
  have hc := c_X7_undo l D ca a aR aT aH aD aK aI aC aS aY lt hk hw ho hg he hr hd (nI n0) (nI s0) (nI d0) (xs (x + 1).toNatClampNeg) _ (hD.subM [0, 7, 8, 9, 10, 11, 12, 13, 14] (by decide) rfl) (s_undo hPh (xs (x + 1).toNatClampNeg))
  refine wr_calliK (ws1 := fun zu => WL ca a aR aT aH aD aK aI aC aS aY a8 lt rs rc tS tc hk hw ho hg he hr hd (zu.1) (zu.2.1) (zu.2.2) ek ew eo eg ee er ed zz zB zC kept il io ih ct tp bo oF la mS mW xS xW now keeps kM lt tp bo fi fs rd at8 costs ways reach) (wr := ([1, 2, 3, 4, 5, 6, 15, 16, 17, 18, 19, 20, 21, 22, 23, 24, 25, 26, 27, 28, 29, 30, 31, 32, 33, 34, 35, 36, 37, 38, 39, 40, 41, 42, 43, 44, 45] : List Nat).filterMap (fun zi => (WL ca a aR aT aH aD aK aI aC aS aY a8 lt rs rc tS tc hk hw ho hg he hr hd (nI n0) (nI s0) (nI d0) ek ew eo eg ee er ed zz zB zC kept il io ih ct tp bo oF la mS mW xS xW now keeps kM lt tp bo fi fs rd at8 costs ways reach : va_W)[zi]?)) (n := 46) (va_runV (As := [.int ((xs (x + 1).toNatClampNeg))]) (rest := []) ⟨hx, hb, hml, hown, hts⟩ hc (cwV 1 hts gL_law_X7_undo rfl rfl rfl (by decide +kernel) ⟨Nat.le_of_ble_eq_true rfl, Nat.le_of_ble_eq_true rfl⟩) (PcX.preV (q := (RX7, TX7, 10)) (ci := 6) (q0 := 0) hK hP rfl rfl (hP.subM [0, 7, 8, 9, 10, 11, 12, 13, 14] rfl)) rfl rfl hl.1 rfl (lv_room (Nat.le_of_ble_eq_true rfl)) dL_law_704 hf0) hP hD hS [0, 7, 8, 9, 10, 11, 12, 13, 14] [1, 2, 3, 4, 5, 6, 15, 16, 17, 18, 19, 20, 21, 22, 23, 24, 25, 26, 27, 28, 29, 30, 31, 32, 33, 34, 35, 36, 37, 38, 39, 40, 41, 42, 43, 44, 45] rfl (fun _ => rfl) rfl (fun _ => rfl) (fun _ => rfl) (fun _ => rfl) (by decide +kernel) (by decide +kernel) (fun r7 zu H1 locs1 hp hP1 hD1 hS1 hk1 => ?_)
  obtain ⟨sz_7, sB_7, dC_7⟩ := zu
  try dsimp only at hp
  have hKR := hKR.frame hk1
  have hP : va_P D vwCl (WL ca a aR aT aH aD aK aI aC aS aY a8 lt rs rc tS tc hk hw ho hg he hr hd sz_7 sB_7 dC_7 ek ew eo eg ee er ed zz zB zC kept il io ih ct tp bo oF la mS mW xS xW now keeps kM lt tp bo fi fs rd at8 costs ways reach) H1 := hP1
  have hD : va_D A (WL ca a aR aT aH aD aK aI aC aS aY a8 lt rs rc tS tc hk hw ho hg he hr hd sz_7 sB_7 dC_7 ek ew eo eg ee er ed zz zB zC kept il io ih ct tp bo oF la mS mW xS xW now keeps kM lt tp bo fi fs rd at8 costs ways reach) := hD1
  have hS := hS1
  clear hP1 hD1 hS1 hk1
  refine lv_aload_n hx hb dL_law_707 rfl (lv_at hl 2 rfl) ?_
  refine lv_aload_n hx hb dL_law_708 rfl (lv_at hl 0 rfl) ?_
  refine lv_iload_n hx hb dL_law_709 rfl (lv_at hl 3 rfl) ?_
  refine lv_iconst (v := (1)) hx hb dL_law_710 (by decide) ?_
  refine lv_iadd hx hb dL_law_711 ?_
  refine va_sld hx hb hX hbl hbA hS h1 dL_law_712 ?_
  have hc := c_X8_undo l D ca a8 mS mW xS xW now keeps kM lt tp bo fi fs rd at8 costs ways reach (xs (x + 1).toNatClampNeg) _ (hD.subM [33, 34, 35, 36, 37, 38, 39, 40, 41, 42, 43, 44, 45] (by decide) rfl) hp
  refine wr_calliK (ws1 := fun zu => WL ca a aR aT aH aD aK aI aC aS aY a8 lt rs rc tS tc hk hw ho hg he hr hd sz_7 sB_7 dC_7 ek ew eo eg ee er ed zz zB zC kept il io ih ct tp bo oF la mS mW xS xW (zu) keeps kM lt tp bo fi fs rd at8 costs ways reach) (wr := ([0, 1, 2, 3, 4, 5, 6, 7, 8, 9, 10, 11, 12, 13, 14, 15, 16, 17, 18, 19, 20, 21, 22, 23, 24, 25, 26, 27, 28, 29, 30, 31, 32] : List Nat).filterMap (fun zi => (WL ca a aR aT aH aD aK aI aC aS aY a8 lt rs rc tS tc hk hw ho hg he hr hd sz_7 sB_7 dC_7 ek ew eo eg ee er ed zz zB zC kept il io ih ct tp bo oF la mS mW xS xW now keeps kM lt tp bo fi fs rd at8 costs ways reach : va_W)[zi]?)) (n := 46) (va_runV (As := [.int ((xs (x + 1).toNatClampNeg))]) (rest := [.int r7]) ⟨hx, hb, hml, hown, hts⟩ hc (cwV 1 hts gL_law_X8_undo rfl rfl rfl (by decide +kernel) ⟨Nat.le_of_ble_eq_true rfl, Nat.le_of_ble_eq_true rfl⟩) (PcX.preV (q := (RX8, TX8, 17)) (ci := 7) (q0 := 33) hK hP rfl rfl (hP.subM [33, 34, 35, 36, 37, 38, 39, 40, 41, 42, 43, 44, 45] rfl)) rfl rfl hl.1 rfl (lv_room (Nat.le_of_ble_eq_true rfl)) dL_law_713 hf0) hP hD hS [33, 34, 35, 36, 37, 38, 39, 40, 41, 42, 43, 44, 45] [0, 1, 2, 3, 4, 5, 6, 7, 8, 9, 10, 11, 12, 13, 14, 15, 16, 17, 18, 19, 20, 21, 22, 23, 24, 25, 26, 27, 28, 29, 30, 31, 32] rfl (fun _ => rfl) rfl (fun _ => rfl) (fun _ => rfl) (fun _ => rfl) (by decide +kernel) (by decide +kernel) (fun r8 zu H1 locs1 hp hP1 hD1 hS1 hk1 => ?_)
  obtain ⟨now_8, rfl⟩ : ∃ zz, zz = zu := ⟨zu, rfl⟩
  try dsimp only at hp
  have hKR := hKR.frame hk1
  have hP : va_P D vwCl (WL ca a aR aT aH aD aK aI aC aS aY a8 lt rs rc tS tc hk hw ho hg he hr hd sz_7 sB_7 dC_7 ek ew eo eg ee er ed zz zB zC kept il io ih ct tp bo oF la mS mW xS xW now_8 keeps kM lt tp bo fi fs rd at8 costs ways reach) H1 := hP1
  have hD : va_D A (WL ca a aR aT aH aD aK aI aC aS aY a8 lt rs rc tS tc hk hw ho hg he hr hd sz_7 sB_7 dC_7 ek ew eo eg ee er ed zz zB zC kept il io ih ct tp bo oF la mS mW xS xW now_8 keeps kM lt tp bo fi fs rd at8 costs ways reach) := hD1
  have hS := hS1
  clear hP1 hD1 hS1 hk1
  obtain ⟨hre, ⟨n1, s1, d1, he0, he1, he2, hPh⟩⟩ := hp
  refine lv_icmp_eq (tgt := 1265) hx hb dL_law_716 (by decide) (fun _ => ?_) (fun hne => absurd hre hne)
  exact W.widen (Nat.le_add_right _ _) (Nat.le_add_right _ _) (kk _ _ ⟨_, _, _, _, _, _, _, _, _, _, _, _, _, _, _, _, _, _, _, _, _, _, _, _, _, _, _, _, _, _, _, _, _, _, _, _, _, _, _, _, _, _, _, _, _, _, _, _, hP, hD, ⟨_, h6⟩, ⟨_, h4s⟩, hT, ⟨_, _, _, _, he0, he1, he2, hPh⟩, hKR⟩ hS)
set_option maxHeartbeats 4000000 in
set_option maxRecDepth 100000 in
theorem lw_c15 (l : Launch) (C0 : LawC p s m meth c D ca sa sd A b L xs) (hl : lv_has ls 4 [(0, .ref b), (1, .ref (a 0)), (2, .ref (a8 0)), (3, .int x)]) (h1 : vp_in (x + 1) L) (h2 : vp_in (x + 2) L) (h3 : vp_in (x + 3) L) (h4 : vp_in (x + 4) L) (h5 : vp_in (x + 5) L) (hf0 : cn + 0 ≤ room_1.cells ∧ sn + 0 ≤ room_1.slots) (hf8 : cn + 8 ≤ room_1.cells ∧ sn + 122 ≤ room_1.slots) (kk : LwG p l e s m below meth c Q A b ls (Inv D ca A a aR aT aH aD aK aI aC aS aY a8) (cn + 8) (sn + 130) 1265) : LwG p l e s m below meth c Q A b ls (Inv D ca A a aR aT aH aD aK aI aC aS aY a8) cn sn 721 := by
  obtain ⟨hx, hb, hr, hml, hown, hts, hX, hbl, hbA, hA, hK, hSX⟩ := C0
  intro Hh locs hI hS
  obtain ⟨lt, rs, rc, tS, tc, hk, hw, ho, hg, he, hr, hd, sz, sB, dC, ek, ew, eo, eg, ee, er, ed, zz, zB, zC, kept, il, io, ih, ct, tp, bo, oF, la, mS, mW, xS, xW, now, keeps, kM, fi, fs, rd, at8, costs, ways, reach, hP, hD, ⟨m6, h6⟩, ⟨m4, h4s⟩, hT, hQ, hKR⟩ := hI
  obtain ⟨n0, s0, d0, h0, rfl, rfl, rfl, hPh⟩ := hQ
  refine lv_aload_n hx hb dL_law_721 rfl (lv_at hl 1 rfl) ?_
  have hc := c_X7_said l D ca a aR aT aH aD aK aI aC aS aY lt hk hw ho hg he hr hd (nI n0) (nI s0) (nI d0)  _ (hD.subM [0, 7, 8, 9, 10, 11, 12, 13, 14] (by decide) rfl) (s_said hPh.1 hPh.2.1 hPh.2.2.1 hPh.s4 hPh.2.2.2.2.2.2.1)
  refine wr_calliK (ws1 := fun zu => WL ca a aR aT aH aD aK aI aC aS aY a8 (zu) rs rc tS tc hk hw ho hg he hr hd (nI n0) (nI s0) (nI d0) ek ew eo eg ee er ed zz zB zC kept il io ih ct tp bo oF la mS mW xS xW now keeps kM lt tp bo fi fs rd at8 costs ways reach) (wr := ([1, 2, 3, 4, 5, 6, 15, 16, 17, 18, 19, 20, 21, 22, 23, 24, 25, 26, 27, 28, 29, 30, 31, 32, 33, 34, 35, 36, 37, 38, 39, 40, 41, 42, 43, 44, 45] : List Nat).filterMap (fun zi => (WL ca a aR aT aH aD aK aI aC aS aY a8 lt rs rc tS tc hk hw ho hg he hr hd (nI n0) (nI s0) (nI d0) ek ew eo eg ee er ed zz zB zC kept il io ih ct tp bo oF la mS mW xS xW now keeps kM lt tp bo fi fs rd at8 costs ways reach : va_W)[zi]?)) (n := 46) (va_runV (As := []) (rest := []) ⟨hx, hb, hml, hown, hts⟩ hc (cwV 0 hts gL_law_X7_said rfl rfl rfl (by decide +kernel) ⟨Nat.le_of_ble_eq_true rfl, Nat.le_of_ble_eq_true rfl⟩) (PcX.preV (q := (RX7, TX7, 10)) (ci := 6) (q0 := 0) hK hP rfl rfl (hP.subM [0, 7, 8, 9, 10, 11, 12, 13, 14] rfl)) rfl rfl hl.1 rfl (lv_room (Nat.le_of_ble_eq_true rfl)) dL_law_722 hf0) hP hD hS [0, 7, 8, 9, 10, 11, 12, 13, 14] [1, 2, 3, 4, 5, 6, 15, 16, 17, 18, 19, 20, 21, 22, 23, 24, 25, 26, 27, 28, 29, 30, 31, 32, 33, 34, 35, 36, 37, 38, 39, 40, 41, 42, 43, 44, 45] rfl (fun _ => rfl) rfl (fun _ => rfl) (fun _ => rfl) (fun _ => rfl) (by decide +kernel) (by decide +kernel) (fun r7 zu H1 locs1 hp hP1 hD1 hS1 hk1 => ?_)
  obtain ⟨lt_7, rfl⟩ : ∃ zz, zz = zu := ⟨zu, rfl⟩
  try dsimp only at hp
  have hKR := hKR.frame hk1
  have hP : va_P D vwCl (WL ca a aR aT aH aD aK aI aC aS aY a8 lt_7 rs rc tS tc hk hw ho hg he hr hd (nI n0) (nI s0) (nI d0) ek ew eo eg ee er ed zz zB zC kept il io ih ct tp bo oF la mS mW xS xW now keeps kM lt tp bo fi fs rd at8 costs ways reach) H1 := hP1
  have hD : va_D A (WL ca a aR aT aH aD aK aI aC aS aY a8 lt_7 rs rc tS tc hk hw ho hg he hr hd (nI n0) (nI s0) (nI d0) ek ew eo eg ee er ed zz zB zC kept il io ih ct tp bo oF la mS mW xS xW now keeps kM lt tp bo fi fs rd at8 costs ways reach) := hD1
  have hS := hS1
  clear hP1 hD1 hS1 hk1
  refine lv_aload_n hx hb dL_law_725 rfl (lv_at hl 2 rfl) ?_
  have hc := c_X8_said l D ca a8 mS mW xS xW now keeps kM lt tp bo fi fs rd at8 costs ways reach  _ (hD.subM [33, 34, 35, 36, 37, 38, 39, 40, 41, 42, 43, 44, 45] (by decide) rfl) hp
  refine wr_calliK (ws1 := fun zu => WL ca a aR aT aH aD aK aI aC aS aY a8 lt_7 rs rc tS tc hk hw ho hg he hr hd (nI n0) (nI s0) (nI d0) ek ew eo eg ee er ed zz zB zC kept il io ih ct tp bo oF la mS mW xS xW now keeps kM (zu) tp bo fi fs rd at8 costs ways reach) (wr := ([0, 1, 2, 3, 4, 5, 6, 7, 8, 9, 10, 11, 12, 13, 14, 15, 16, 17, 18, 19, 20, 21, 22, 23, 24, 25, 26, 27, 28, 29, 30, 31, 32] : List Nat).filterMap (fun zi => (WL ca a aR aT aH aD aK aI aC aS aY a8 lt_7 rs rc tS tc hk hw ho hg he hr hd (nI n0) (nI s0) (nI d0) ek ew eo eg ee er ed zz zB zC kept il io ih ct tp bo oF la mS mW xS xW now keeps kM lt tp bo fi fs rd at8 costs ways reach : va_W)[zi]?)) (n := 46) (va_runV (As := []) (rest := [.int r7]) ⟨hx, hb, hml, hown, hts⟩ hc (cwV 0 hts gL_law_X8_said rfl rfl rfl (by decide +kernel) ⟨Nat.le_of_ble_eq_true rfl, Nat.le_of_ble_eq_true rfl⟩) (PcX.preV (q := (RX8, TX8, 17)) (ci := 7) (q0 := 33) hK hP rfl rfl (hP.subM [33, 34, 35, 36, 37, 38, 39, 40, 41, 42, 43, 44, 45] rfl)) rfl rfl hl.1 rfl (lv_room (Nat.le_of_ble_eq_true rfl)) dL_law_726 hf0) hP hD hS [33, 34, 35, 36, 37, 38, 39, 40, 41, 42, 43, 44, 45] [0, 1, 2, 3, 4, 5, 6, 7, 8, 9, 10, 11, 12, 13, 14, 15, 16, 17, 18, 19, 20, 21, 22, 23, 24, 25, 26, 27, 28, 29, 30, 31, 32] rfl (fun _ => rfl) rfl (fun _ => rfl) (fun _ => rfl) (fun _ => rfl) (by decide +kernel) (by decide +kernel) (fun r8 zu H1 locs1 hp hP1 hD1 hS1 hk1 => ?_)
  obtain ⟨as__8, rfl⟩ : ∃ zz, zz = zu := ⟨zu, rfl⟩
  try dsimp only at hp
  have hKR := hKR.frame hk1
  have hP : va_P D vwCl (WL ca a aR aT aH aD aK aI aC aS aY a8 lt_7 rs rc tS tc hk hw ho hg he hr hd (nI n0) (nI s0) (nI d0) ek ew eo eg ee er ed zz zB zC kept il io ih ct tp bo oF la mS mW xS xW now keeps kM as__8 tp bo fi fs rd at8 costs ways reach) H1 := hP1
  have hD : va_D A (WL ca a aR aT aH aD aK aI aC aS aY a8 lt_7 rs rc tS tc hk hw ho hg he hr hd (nI n0) (nI s0) (nI d0) ek ew eo eg ee er ed zz zB zC kept il io ih ct tp bo oF la mS mW xS xW now keeps kM as__8 tp bo fi fs rd at8 costs ways reach) := hD1
  have hS := hS1
  clear hP1 hD1 hS1 hk1
  obtain ⟨hre, hlt⟩ := hp
  subst hlt
  refine lv_icmp_eq (tgt := 1265) hx hb dL_law_729 (by decide) (fun _ => ?_) (fun hne => absurd hre hne)
  exact W.widen (Nat.le_add_right _ _) (Nat.le_add_right _ _) (kk _ _ ⟨_, _, _, _, _, _, _, _, _, _, _, _, _, _, _, _, _, _, _, _, _, _, _, _, _, _, _, _, _, _, _, _, _, _, _, _, _, _, _, _, _, _, _, _, _, _, _, _, hP, hD, ⟨_, h6⟩, ⟨_, h4s⟩, hT, ⟨n0, s0, d0, h0, rfl, rfl, rfl, hPh⟩, hKR⟩ hS)
set_option maxHeartbeats 4000000 in
set_option maxRecDepth 100000 in
theorem lw_c18 (l : Launch) (C0 : LawC p s m meth c D ca sa sd A b L xs) (hl : lv_has ls 4 [(0, .ref b), (1, .ref (a 0)), (2, .ref (a8 0)), (3, .int x)]) (h1 : vp_in (x + 1) L) (h2 : vp_in (x + 2) L) (h3 : vp_in (x + 3) L) (h4 : vp_in (x + 4) L) (h5 : vp_in (x + 5) L) (hf0 : cn + 0 ≤ room_1.cells ∧ sn + 0 ≤ room_1.slots) (hf8 : cn + 8 ≤ room_1.cells ∧ sn + 122 ≤ room_1.slots) (kk : LwG p l e s m below meth c Q A b ls (Inv D ca A a aR aT aH aD aK aI aC aS aY a8) (cn + 8) (sn + 130) 1265) : LwG p l e s m below meth c Q A b ls (Inv D ca A a aR aT aH aD aK aI aC aS aY a8) cn sn 780 := by
  obtain ⟨hx, hb, hr, hml, hown, hts, hX, hbl, hbA, hA, hK, hSX⟩ := C0
  intro Hh locs hI hS
  obtain ⟨lt, rs, rc, tS, tc, hk, hw, ho, hg, he, hr, hd, sz, sB, dC, ek, ew, eo, eg, ee, er, ed, zz, zB, zC, kept, il, io, ih, ct, tp, bo, oF, la, mS, mW, xS, xW, now, keeps, kM, fi, fs, rd, at8, costs, ways, reach, hP, hD, ⟨m6, h6⟩, ⟨m4, h4s⟩, hT, hQ, hKR⟩ := hI
  obtain ⟨n0, s0, d0, h0, rfl, rfl, rfl, hPh⟩ := hQ
  refine lv_aload_n hx hb dL_law_780 rfl (lv_at hl 1 rfl) ?_
  refine lv_aload_n hx hb dL_law_781 rfl (lv_at hl 0 rfl) ?_
  refine lv_iload_n hx hb dL_law_782 rfl (lv_at hl 3 rfl) ?_
  refine lv_iconst (v := (1)) hx hb dL_law_783 (by decide) ?_
  refine lv_iadd hx hb dL_law_784 ?_
  refine va_sld hx hb hX hbl hbA hS h1 dL_law_785 ?_
  have hc := c_X7_leans l D ca a aR aT aH aD aK aI aC aS aY lt hk hw ho hg he hr hd (nI n0) (nI s0) (nI d0) (xs (x + 1).toNatClampNeg) _ (s_leans hPh.1 hPh.2.1 hPh.2.2.1 (xs (x + 1).toNatClampNeg))
  refine rd_calli (va_runV (As := [.int ((xs (x + 1).toNatClampNeg))]) (rest := []) ⟨hx, hb, hml, hown, hts⟩ hc (cwV 1 hts gL_law_X7_leans rfl rfl rfl (by decide +kernel) ⟨Nat.le_of_ble_eq_true rfl, Nat.le_of_ble_eq_true rfl⟩) (PcX.preV (q := (RX7, TX7, 10)) (ci := 6) (q0 := 0) hK hP rfl rfl (hP.subM [0, 7, 8, 9, 10, 11, 12, 13, 14] rfl)) rfl rfl hl.1 rfl (lv_room (Nat.le_of_ble_eq_true rfl)) dL_law_786 hf0) (fun r7 hp => ?_)
  try dsimp only at hp
  refine lv_aload_n hx hb dL_law_789 rfl (lv_at hl 2 rfl) ?_
  refine lv_aload_n hx hb dL_law_790 rfl (lv_at hl 0 rfl) ?_
  refine lv_iload_n hx hb dL_law_791 rfl (lv_at hl 3 rfl) ?_
  refine lv_iconst (v := (1)) hx hb dL_law_792 (by decide) ?_
  refine lv_iadd hx hb dL_law_793 ?_
  refine va_sld hx hb hX hbl hbA hS h1 dL_law_794 ?_
  have hc := c_X8_leans l D ca a8 mS mW xS xW now keeps kM lt tp bo fi fs rd at8 costs ways reach (xs (x + 1).toNatClampNeg) _ hp
  refine rd_calli (va_runV (As := [.int ((xs (x + 1).toNatClampNeg))]) (rest := [.int r7]) ⟨hx, hb, hml, hown, hts⟩ hc (cwV 1 hts gL_law_X8_leans rfl rfl rfl (by decide +kernel) ⟨Nat.le_of_ble_eq_true rfl, Nat.le_of_ble_eq_true rfl⟩) (PcX.preV (q := (RX8, TX8, 17)) (ci := 7) (q0 := 33) hK hP rfl rfl (hP.subM [33, 34, 35, 36, 37, 38, 39, 40, 41, 42, 43, 44, 45] rfl)) rfl rfl hl.1 rfl (lv_room (Nat.le_of_ble_eq_true rfl)) dL_law_795 hf0) (fun r8 hp => ?_)
  try dsimp only at hp
  have hre := hp
  refine lv_icmp_eq (tgt := 1265) hx hb dL_law_798 (by decide) (fun _ => ?_) (fun hne => absurd hre hne)
  exact W.widen (Nat.le_add_right _ _) (Nat.le_add_right _ _) (kk _ _ ⟨_, _, _, _, _, _, _, _, _, _, _, _, _, _, _, _, _, _, _, _, _, _, _, _, _, _, _, _, _, _, _, _, _, _, _, _, _, _, _, _, _, _, _, _, _, _, _, _, hP, hD, ⟨_, h6⟩, ⟨_, h4s⟩, hT, ⟨n0, s0, d0, h0, rfl, rfl, rfl, hPh⟩, hKR⟩ hS)
set_option maxHeartbeats 4000000 in
set_option maxRecDepth 100000 in
theorem lw_c19 (l : Launch) (C0 : LawC p s m meth c D ca sa sd A b L xs) (hl : lv_has ls 4 [(0, .ref b), (1, .ref (a 0)), (2, .ref (a8 0)), (3, .int x)]) (h1 : vp_in (x + 1) L) (h2 : vp_in (x + 2) L) (h3 : vp_in (x + 3) L) (h4 : vp_in (x + 4) L) (h5 : vp_in (x + 5) L) (hf0 : cn + 0 ≤ room_1.cells ∧ sn + 0 ≤ room_1.slots) (hf8 : cn + 8 ≤ room_1.cells ∧ sn + 122 ≤ room_1.slots) (kk : LwG p l e s m below meth c Q A b ls (Inv D ca A a aR aT aH aD aK aI aC aS aY a8) (cn + 8) (sn + 130) 1265) : LwG p l e s m below meth c Q A b ls (Inv D ca A a aR aT aH aD aK aI aC aS aY a8) cn sn 803 := by
  obtain ⟨hx, hb, hr, hml, hown, hts, hX, hbl, hbA, hA, hK, hSX⟩ := C0
  intro Hh locs hI hS
  obtain ⟨lt, rs, rc, tS, tc, hk, hw, ho, hg, he, hr, hd, sz, sB, dC, ek, ew, eo, eg, ee, er, ed, zz, zB, zC, kept, il, io, ih, ct, tp, bo, oF, la, mS, mW, xS, xW, now, keeps, kM, fi, fs, rd, at8, costs, ways, reach, hP, hD, ⟨m6, h6⟩, ⟨m4, h4s⟩, hT, hQ, hKR⟩ := hI
  obtain ⟨n0, s0, d0, h0, rfl, rfl, rfl, hPh⟩ := hQ
  refine lv_aload_n hx hb dL_law_803 rfl (lv_at hl 1 rfl) ?_
  refine lv_aload_n hx hb dL_law_804 rfl (lv_at hl 0 rfl) ?_
  refine lv_iload_n hx hb dL_law_805 rfl (lv_at hl 3 rfl) ?_
  refine lv_iconst (v := (1)) hx hb dL_law_806 (by decide) ?_
  refine lv_iadd hx hb dL_law_807 ?_
  refine va_sld hx hb hX hbl hbA hS h1 dL_law_808 ?_
  have hc := c_X7_feeds l D ca a aR aT aH aD aK aI aC aS aY lt hk hw ho hg he hr hd (nI n0) (nI s0) (nI d0) (xs (x + 1).toNatClampNeg) _ (s_feeds hPh.1 hPh.2.1 hPh.2.2.1 (xs (x + 1).toNatClampNeg))
  refine rd_calli (va_runV (As := [.int ((xs (x + 1).toNatClampNeg))]) (rest := []) ⟨hx, hb, hml, hown, hts⟩ hc (cwV 1 hts gL_law_X7_feeds rfl rfl rfl (by decide +kernel) ⟨Nat.le_of_ble_eq_true rfl, Nat.le_of_ble_eq_true rfl⟩) (PcX.preV (q := (RX7, TX7, 10)) (ci := 6) (q0 := 0) hK hP rfl rfl (hP.subM [0, 7, 8, 9, 10, 11, 12, 13, 14] rfl)) rfl rfl hl.1 rfl (lv_room (Nat.le_of_ble_eq_true rfl)) dL_law_809 hf0) (fun r7 hp => ?_)
  try dsimp only at hp
  refine lv_aload_n hx hb dL_law_812 rfl (lv_at hl 2 rfl) ?_
  refine lv_aload_n hx hb dL_law_813 rfl (lv_at hl 0 rfl) ?_
  refine lv_iload_n hx hb dL_law_814 rfl (lv_at hl 3 rfl) ?_
  refine lv_iconst (v := (1)) hx hb dL_law_815 (by decide) ?_
  refine lv_iadd hx hb dL_law_816 ?_
  refine va_sld hx hb hX hbl hbA hS h1 dL_law_817 ?_
  have hc := c_X8_feeds l D ca a8 mS mW xS xW now keeps kM lt tp bo fi fs rd at8 costs ways reach (xs (x + 1).toNatClampNeg) _ hp
  refine rd_calli (va_runV (As := [.int ((xs (x + 1).toNatClampNeg))]) (rest := [.int r7]) ⟨hx, hb, hml, hown, hts⟩ hc (cwV 1 hts gL_law_X8_feeds rfl rfl rfl (by decide +kernel) ⟨Nat.le_of_ble_eq_true rfl, Nat.le_of_ble_eq_true rfl⟩) (PcX.preV (q := (RX8, TX8, 17)) (ci := 7) (q0 := 33) hK hP rfl rfl (hP.subM [33, 34, 35, 36, 37, 38, 39, 40, 41, 42, 43, 44, 45] rfl)) rfl rfl hl.1 rfl (lv_room (Nat.le_of_ble_eq_true rfl)) dL_law_818 hf0) (fun r8 hp => ?_)
  try dsimp only at hp
  have hre := hp
  refine lv_icmp_eq (tgt := 1265) hx hb dL_law_821 (by decide) (fun _ => ?_) (fun hne => absurd hre hne)
  exact W.widen (Nat.le_add_right _ _) (Nat.le_add_right _ _) (kk _ _ ⟨_, _, _, _, _, _, _, _, _, _, _, _, _, _, _, _, _, _, _, _, _, _, _, _, _, _, _, _, _, _, _, _, _, _, _, _, _, _, _, _, _, _, _, _, _, _, _, _, hP, hD, ⟨_, h6⟩, ⟨_, h4s⟩, hT, ⟨n0, s0, d0, h0, rfl, rfl, rfl, hPh⟩, hKR⟩ hS)
set_option maxHeartbeats 4000000 in
set_option maxRecDepth 100000 in
theorem lw_c20 (l : Launch) (C0 : LawC p s m meth c D ca sa sd A b L xs) (hl : lv_has ls 4 [(0, .ref b), (1, .ref (a 0)), (2, .ref (a8 0)), (3, .int x)]) (h1 : vp_in (x + 1) L) (h2 : vp_in (x + 2) L) (h3 : vp_in (x + 3) L) (h4 : vp_in (x + 4) L) (h5 : vp_in (x + 5) L) (hf0 : cn + 0 ≤ room_1.cells ∧ sn + 0 ≤ room_1.slots) (hf8 : cn + 8 ≤ room_1.cells ∧ sn + 122 ≤ room_1.slots) (kk : LwG p l e s m below meth c Q A b ls (Inv D ca A a aR aT aH aD aK aI aC aS aY a8) (cn + 8) (sn + 130) 1265) : LwG p l e s m below meth c Q A b ls (Inv D ca A a aR aT aH aD aK aI aC aS aY a8) cn sn 826 := by
  obtain ⟨hx, hb, hr, hml, hown, hts, hX, hbl, hbA, hA, hK, hSX⟩ := C0
  intro Hh locs hI hS
  obtain ⟨lt, rs, rc, tS, tc, hk, hw, ho, hg, he, hr, hd, sz, sB, dC, ek, ew, eo, eg, ee, er, ed, zz, zB, zC, kept, il, io, ih, ct, tp, bo, oF, la, mS, mW, xS, xW, now, keeps, kM, fi, fs, rd, at8, costs, ways, reach, hP, hD, ⟨m6, h6⟩, ⟨m4, h4s⟩, hT, hQ, hKR⟩ := hI
  obtain ⟨n0, s0, d0, h0, rfl, rfl, rfl, hPh⟩ := hQ
  refine lv_aload_n hx hb dL_law_826 rfl (lv_at hl 1 rfl) ?_
  refine lv_aload_n hx hb dL_law_827 rfl (lv_at hl 0 rfl) ?_
  refine lv_iload_n hx hb dL_law_828 rfl (lv_at hl 3 rfl) ?_
  refine lv_iconst (v := (1)) hx hb dL_law_829 (by decide) ?_
  refine lv_iadd hx hb dL_law_830 ?_
  refine va_sld hx hb hX hbl hbA hS h1 dL_law_831 ?_
  have hc := c_X7_first l D ca a aR aT aH aD aK aI aC aS aY lt hk hw ho hg he hr hd (nI n0) (nI s0) (nI d0) (xs (x + 1).toNatClampNeg) _ (hD.subM [0, 7, 8, 9, 10, 11, 12, 13, 14] (by decide) rfl) (s_first hPh.1 hPh.2.1 hPh.2.2.1 lt (xs (x + 1).toNatClampNeg))
  refine wr_calliK (ws1 := fun zu => WL ca a aR aT aH aD aK aI aC aS aY a8 (zu) rs rc tS tc hk hw ho hg he hr hd (nI n0) (nI s0) (nI d0) ek ew eo eg ee er ed zz zB zC kept il io ih ct tp bo oF la mS mW xS xW now keeps kM lt tp bo fi fs rd at8 costs ways reach) (wr := ([1, 2, 3, 4, 5, 6, 15, 16, 17, 18, 19, 20, 21, 22, 23, 24, 25, 26, 27, 28, 29, 30, 31, 32, 33, 34, 35, 36, 37, 38, 39, 40, 41, 42, 43, 44, 45] : List Nat).filterMap (fun zi => (WL ca a aR aT aH aD aK aI aC aS aY a8 lt rs rc tS tc hk hw ho hg he hr hd (nI n0) (nI s0) (nI d0) ek ew eo eg ee er ed zz zB zC kept il io ih ct tp bo oF la mS mW xS xW now keeps kM lt tp bo fi fs rd at8 costs ways reach : va_W)[zi]?)) (n := 46) (va_runV (As := [.int ((xs (x + 1).toNatClampNeg))]) (rest := []) ⟨hx, hb, hml, hown, hts⟩ hc (cwV 1 hts gL_law_X7_first rfl rfl rfl (by decide +kernel) ⟨Nat.le_of_ble_eq_true rfl, Nat.le_of_ble_eq_true rfl⟩) (PcX.preV (q := (RX7, TX7, 10)) (ci := 6) (q0 := 0) hK hP rfl rfl (hP.subM [0, 7, 8, 9, 10, 11, 12, 13, 14] rfl)) rfl rfl hl.1 rfl (lv_room (Nat.le_of_ble_eq_true rfl)) dL_law_832 hf0) hP hD hS [0, 7, 8, 9, 10, 11, 12, 13, 14] [1, 2, 3, 4, 5, 6, 15, 16, 17, 18, 19, 20, 21, 22, 23, 24, 25, 26, 27, 28, 29, 30, 31, 32, 33, 34, 35, 36, 37, 38, 39, 40, 41, 42, 43, 44, 45] rfl (fun _ => rfl) rfl (fun _ => rfl) (fun _ => rfl) (fun _ => rfl) (by decide +kernel) (by decide +kernel) (fun r7 zu H1 locs1 hp hP1 hD1 hS1 hk1 => ?_)
  obtain ⟨lt_7, rfl⟩ : ∃ zz, zz = zu := ⟨zu, rfl⟩
  try dsimp only at hp
  have hKR := hKR.frame hk1
  have hP : va_P D vwCl (WL ca a aR aT aH aD aK aI aC aS aY a8 lt_7 rs rc tS tc hk hw ho hg he hr hd (nI n0) (nI s0) (nI d0) ek ew eo eg ee er ed zz zB zC kept il io ih ct tp bo oF la mS mW xS xW now keeps kM lt tp bo fi fs rd at8 costs ways reach) H1 := hP1
  have hD : va_D A (WL ca a aR aT aH aD aK aI aC aS aY a8 lt_7 rs rc tS tc hk hw ho hg he hr hd (nI n0) (nI s0) (nI d0) ek ew eo eg ee er ed zz zB zC kept il io ih ct tp bo oF la mS mW xS xW now keeps kM lt tp bo fi fs rd at8 costs ways reach) := hD1
  have hS := hS1
  clear hP1 hD1 hS1 hk1
  refine lv_aload_n hx hb dL_law_835 rfl (lv_at hl 2 rfl) ?_
  refine lv_aload_n hx hb dL_law_836 rfl (lv_at hl 0 rfl) ?_
  refine lv_iload_n hx hb dL_law_837 rfl (lv_at hl 3 rfl) ?_
  refine lv_iconst (v := (1)) hx hb dL_law_838 (by decide) ?_
  refine lv_iadd hx hb dL_law_839 ?_
  refine va_sld hx hb hX hbl hbA hS h1 dL_law_840 ?_
  have hc := c_X8_first l D ca a8 mS mW xS xW now keeps kM lt tp bo fi fs rd at8 costs ways reach (xs (x + 1).toNatClampNeg) _ (hD.subM [33, 34, 35, 36, 37, 38, 39, 40, 41, 42, 43, 44, 45] (by decide) rfl) hp
  refine wr_calliK (ws1 := fun zu => WL ca a aR aT aH aD aK aI aC aS aY a8 lt_7 rs rc tS tc hk hw ho hg he hr hd (nI n0) (nI s0) (nI d0) ek ew eo eg ee er ed zz zB zC kept il io ih ct tp bo oF la mS mW xS xW now keeps kM (zu) tp bo fi fs rd at8 costs ways reach) (wr := ([0, 1, 2, 3, 4, 5, 6, 7, 8, 9, 10, 11, 12, 13, 14, 15, 16, 17, 18, 19, 20, 21, 22, 23, 24, 25, 26, 27, 28, 29, 30, 31, 32] : List Nat).filterMap (fun zi => (WL ca a aR aT aH aD aK aI aC aS aY a8 lt_7 rs rc tS tc hk hw ho hg he hr hd (nI n0) (nI s0) (nI d0) ek ew eo eg ee er ed zz zB zC kept il io ih ct tp bo oF la mS mW xS xW now keeps kM lt tp bo fi fs rd at8 costs ways reach : va_W)[zi]?)) (n := 46) (va_runV (As := [.int ((xs (x + 1).toNatClampNeg))]) (rest := [.int r7]) ⟨hx, hb, hml, hown, hts⟩ hc (cwV 1 hts gL_law_X8_first rfl rfl rfl (by decide +kernel) ⟨Nat.le_of_ble_eq_true rfl, Nat.le_of_ble_eq_true rfl⟩) (PcX.preV (q := (RX8, TX8, 17)) (ci := 7) (q0 := 33) hK hP rfl rfl (hP.subM [33, 34, 35, 36, 37, 38, 39, 40, 41, 42, 43, 44, 45] rfl)) rfl rfl hl.1 rfl (lv_room (Nat.le_of_ble_eq_true rfl)) dL_law_841 hf0) hP hD hS [33, 34, 35, 36, 37, 38, 39, 40, 41, 42, 43, 44, 45] [0, 1, 2, 3, 4, 5, 6, 7, 8, 9, 10, 11, 12, 13, 14, 15, 16, 17, 18, 19, 20, 21, 22, 23, 24, 25, 26, 27, 28, 29, 30, 31, 32] rfl (fun _ => rfl) rfl (fun _ => rfl) (fun _ => rfl) (fun _ => rfl) (by decide +kernel) (by decide +kernel) (fun r8 zu H1 locs1 hp hP1 hD1 hS1 hk1 => ?_)
  obtain ⟨as__8, rfl⟩ : ∃ zz, zz = zu := ⟨zu, rfl⟩
  try dsimp only at hp
  have hKR := hKR.frame hk1
  have hP : va_P D vwCl (WL ca a aR aT aH aD aK aI aC aS aY a8 lt_7 rs rc tS tc hk hw ho hg he hr hd (nI n0) (nI s0) (nI d0) ek ew eo eg ee er ed zz zB zC kept il io ih ct tp bo oF la mS mW xS xW now keeps kM as__8 tp bo fi fs rd at8 costs ways reach) H1 := hP1
  have hD : va_D A (WL ca a aR aT aH aD aK aI aC aS aY a8 lt_7 rs rc tS tc hk hw ho hg he hr hd (nI n0) (nI s0) (nI d0) ek ew eo eg ee er ed zz zB zC kept il io ih ct tp bo oF la mS mW xS xW now keeps kM as__8 tp bo fi fs rd at8 costs ways reach) := hD1
  have hS := hS1
  clear hP1 hD1 hS1 hk1
  obtain ⟨hre, hlt⟩ := hp
  subst hlt
  refine lv_icmp_eq (tgt := 1265) hx hb dL_law_844 (by decide) (fun _ => ?_) (fun hne => absurd hre hne)
  exact W.widen (Nat.le_add_right _ _) (Nat.le_add_right _ _) (kk _ _ ⟨_, _, _, _, _, _, _, _, _, _, _, _, _, _, _, _, _, _, _, _, _, _, _, _, _, _, _, _, _, _, _, _, _, _, _, _, _, _, _, _, _, _, _, _, _, _, _, _, hP, hD, ⟨_, h6⟩, ⟨_, h4s⟩, hT, ⟨n0, s0, d0, h0, rfl, rfl, rfl, hPh⟩, hKR⟩ hS)
set_option maxHeartbeats 4000000 in
set_option maxRecDepth 100000 in
theorem lw_c21 (l : Launch) (C0 : LawC p s m meth c D ca sa sd A b L xs) (hl : lv_has ls 4 [(0, .ref b), (1, .ref (a 0)), (2, .ref (a8 0)), (3, .int x)]) (h1 : vp_in (x + 1) L) (h2 : vp_in (x + 2) L) (h3 : vp_in (x + 3) L) (h4 : vp_in (x + 4) L) (h5 : vp_in (x + 5) L) (hf0 : cn + 0 ≤ room_1.cells ∧ sn + 0 ≤ room_1.slots) (hf8 : cn + 8 ≤ room_1.cells ∧ sn + 122 ≤ room_1.slots) (kk : LwG p l e s m below meth c Q A b ls (Inv D ca A a aR aT aH aD aK aI aC aS aY a8) (cn + 8) (sn + 130) 1265) : LwG p l e s m below meth c Q A b ls (Inv D ca A a aR aT aH aD aK aI aC aS aY a8) cn sn 849 := by
  obtain ⟨hx, hb, hr, hml, hown, hts, hX, hbl, hbA, hA, hK, hSX⟩ := C0
  intro Hh locs hI hS
  obtain ⟨lt, rs, rc, tS, tc, hk, hw, ho, hg, he, hr, hd, sz, sB, dC, ek, ew, eo, eg, ee, er, ed, zz, zB, zC, kept, il, io, ih, ct, tp, bo, oF, la, mS, mW, xS, xW, now, keeps, kM, fi, fs, rd, at8, costs, ways, reach, hP, hD, ⟨m6, h6⟩, ⟨m4, h4s⟩, hT, hQ, hKR⟩ := hI
  obtain ⟨n0, s0, d0, h0, rfl, rfl, rfl, hPh⟩ := hQ
  refine lv_aload_n hx hb dL_law_849 rfl (lv_at hl 1 rfl) ?_
  have hc := c_X7_bundles l D ca a aR aT aH aD aK aI aC aS aY lt hk hw ho hg he hr hd (nI n0) (nI s0) (nI d0)  _ (hD.subM [0, 7, 8, 9, 10, 11, 12, 13, 14] (by decide) rfl) (s_bundles hPh.1 hPh.2.1 hPh.2.2.1 hPh.s4 hPh.2.2.2.2.2.2.1 lt)
  refine wr_calliK (ws1 := fun zu => WL ca a aR aT aH aD aK aI aC aS aY a8 (zu) rs rc tS tc hk hw ho hg he hr hd (nI n0) (nI s0) (nI d0) ek ew eo eg ee er ed zz zB zC kept il io ih ct tp bo oF la mS mW xS xW now keeps kM lt tp bo fi fs rd at8 costs ways reach) (wr := ([1, 2, 3, 4, 5, 6, 15, 16, 17, 18, 19, 20, 21, 22, 23, 24, 25, 26, 27, 28, 29, 30, 31, 32, 33, 34, 35, 36, 37, 38, 39, 40, 41, 42, 43, 44, 45] : List Nat).filterMap (fun zi => (WL ca a aR aT aH aD aK aI aC aS aY a8 lt rs rc tS tc hk hw ho hg he hr hd (nI n0) (nI s0) (nI d0) ek ew eo eg ee er ed zz zB zC kept il io ih ct tp bo oF la mS mW xS xW now keeps kM lt tp bo fi fs rd at8 costs ways reach : va_W)[zi]?)) (n := 46) (va_runV (As := []) (rest := []) ⟨hx, hb, hml, hown, hts⟩ hc (cwV 0 hts gL_law_X7_bundles rfl rfl rfl (by decide +kernel) ⟨Nat.le_of_ble_eq_true rfl, Nat.le_of_ble_eq_true rfl⟩) (PcX.preV (q := (RX7, TX7, 10)) (ci := 6) (q0 := 0) hK hP rfl rfl (hP.subM [0, 7, 8, 9, 10, 11, 12, 13, 14] rfl)) rfl rfl hl.1 rfl (lv_room (Nat.le_of_ble_eq_true rfl)) dL_law_850 hf0) hP hD hS [0, 7, 8, 9, 10, 11, 12, 13, 14] [1, 2, 3, 4, 5, 6, 15, 16, 17, 18, 19, 20, 21, 22, 23, 24, 25, 26, 27, 28, 29, 30, 31, 32, 33, 34, 35, 36, 37, 38, 39, 40, 41, 42, 43, 44, 45] rfl (fun _ => rfl) rfl (fun _ => rfl) (fun _ => rfl) (fun _ => rfl) (by decide +kernel) (by decide +kernel) (fun r7 zu H1 locs1 hp hP1 hD1 hS1 hk1 => ?_)
  obtain ⟨lt_7, rfl⟩ : ∃ zz, zz = zu := ⟨zu, rfl⟩
  try dsimp only at hp
  have hKR := hKR.frame hk1
  have hP : va_P D vwCl (WL ca a aR aT aH aD aK aI aC aS aY a8 lt_7 rs rc tS tc hk hw ho hg he hr hd (nI n0) (nI s0) (nI d0) ek ew eo eg ee er ed zz zB zC kept il io ih ct tp bo oF la mS mW xS xW now keeps kM lt tp bo fi fs rd at8 costs ways reach) H1 := hP1
  have hD : va_D A (WL ca a aR aT aH aD aK aI aC aS aY a8 lt_7 rs rc tS tc hk hw ho hg he hr hd (nI n0) (nI s0) (nI d0) ek ew eo eg ee er ed zz zB zC kept il io ih ct tp bo oF la mS mW xS xW now keeps kM lt tp bo fi fs rd at8 costs ways reach) := hD1
  have hS := hS1
  clear hP1 hD1 hS1 hk1
  refine lv_aload_n hx hb dL_law_853 rfl (lv_at hl 2 rfl) ?_
  have hc := c_X8_bundles l D ca a8 mS mW xS xW now keeps kM lt tp bo fi fs rd at8 costs ways reach  _ (hD.subM [33, 34, 35, 36, 37, 38, 39, 40, 41, 42, 43, 44, 45] (by decide) rfl) hp
  refine wr_calliK (ws1 := fun zu => WL ca a aR aT aH aD aK aI aC aS aY a8 lt_7 rs rc tS tc hk hw ho hg he hr hd (nI n0) (nI s0) (nI d0) ek ew eo eg ee er ed zz zB zC kept il io ih ct tp bo oF la mS mW xS xW now keeps kM (zu) tp bo fi fs rd at8 costs ways reach) (wr := ([0, 1, 2, 3, 4, 5, 6, 7, 8, 9, 10, 11, 12, 13, 14, 15, 16, 17, 18, 19, 20, 21, 22, 23, 24, 25, 26, 27, 28, 29, 30, 31, 32] : List Nat).filterMap (fun zi => (WL ca a aR aT aH aD aK aI aC aS aY a8 lt_7 rs rc tS tc hk hw ho hg he hr hd (nI n0) (nI s0) (nI d0) ek ew eo eg ee er ed zz zB zC kept il io ih ct tp bo oF la mS mW xS xW now keeps kM lt tp bo fi fs rd at8 costs ways reach : va_W)[zi]?)) (n := 46) (va_runV (As := []) (rest := [.int r7]) ⟨hx, hb, hml, hown, hts⟩ hc (cwV 0 hts gL_law_X8_bundles rfl rfl rfl (by decide +kernel) ⟨Nat.le_of_ble_eq_true rfl, Nat.le_of_ble_eq_true rfl⟩) (PcX.preV (q := (RX8, TX8, 17)) (ci := 7) (q0 := 33) hK hP rfl rfl (hP.subM [33, 34, 35, 36, 37, 38, 39, 40, 41, 42, 43, 44, 45] rfl)) rfl rfl hl.1 rfl (lv_room (Nat.le_of_ble_eq_true rfl)) dL_law_854 hf0) hP hD hS [33, 34, 35, 36, 37, 38, 39, 40, 41, 42, 43, 44, 45] [0, 1, 2, 3, 4, 5, 6, 7, 8, 9, 10, 11, 12, 13, 14, 15, 16, 17, 18, 19, 20, 21, 22, 23, 24, 25, 26, 27, 28, 29, 30, 31, 32] rfl (fun _ => rfl) rfl (fun _ => rfl) (fun _ => rfl) (fun _ => rfl) (by decide +kernel) (by decide +kernel) (fun r8 zu H1 locs1 hp hP1 hD1 hS1 hk1 => ?_)
  obtain ⟨as__8, rfl⟩ : ∃ zz, zz = zu := ⟨zu, rfl⟩
  try dsimp only at hp
  have hKR := hKR.frame hk1
  have hP : va_P D vwCl (WL ca a aR aT aH aD aK aI aC aS aY a8 lt_7 rs rc tS tc hk hw ho hg he hr hd (nI n0) (nI s0) (nI d0) ek ew eo eg ee er ed zz zB zC kept il io ih ct tp bo oF la mS mW xS xW now keeps kM as__8 tp bo fi fs rd at8 costs ways reach) H1 := hP1
  have hD : va_D A (WL ca a aR aT aH aD aK aI aC aS aY a8 lt_7 rs rc tS tc hk hw ho hg he hr hd (nI n0) (nI s0) (nI d0) ek ew eo eg ee er ed zz zB zC kept il io ih ct tp bo oF la mS mW xS xW now keeps kM as__8 tp bo fi fs rd at8 costs ways reach) := hD1
  have hS := hS1
  clear hP1 hD1 hS1 hk1
  obtain ⟨hre, hlt⟩ := hp
  subst hlt
  refine lv_icmp_eq (tgt := 1265) hx hb dL_law_857 (by decide) (fun _ => ?_) (fun hne => absurd hre hne)
  exact W.widen (Nat.le_add_right _ _) (Nat.le_add_right _ _) (kk _ _ ⟨_, _, _, _, _, _, _, _, _, _, _, _, _, _, _, _, _, _, _, _, _, _, _, _, _, _, _, _, _, _, _, _, _, _, _, _, _, _, _, _, _, _, _, _, _, _, _, _, hP, hD, ⟨_, h6⟩, ⟨_, h4s⟩, hT, ⟨n0, s0, d0, h0, rfl, rfl, rfl, hPh⟩, hKR⟩ hS)
set_option maxHeartbeats 4000000 in
set_option maxRecDepth 100000 in
theorem lw_c22 (l : Launch) (C0 : LawC p s m meth c D ca sa sd A b L xs) (hl : lv_has ls 4 [(0, .ref b), (1, .ref (a 0)), (2, .ref (a8 0)), (3, .int x)]) (h1 : vp_in (x + 1) L) (h2 : vp_in (x + 2) L) (h3 : vp_in (x + 3) L) (h4 : vp_in (x + 4) L) (h5 : vp_in (x + 5) L) (hf0 : cn + 0 ≤ room_1.cells ∧ sn + 0 ≤ room_1.slots) (hf8 : cn + 8 ≤ room_1.cells ∧ sn + 122 ≤ room_1.slots) (kk : LwG p l e s m below meth c Q A b ls (Inv D ca A a aR aT aH aD aK aI aC aS aY a8) (cn + 8) (sn + 130) 1265) : LwG p l e s m below meth c Q A b ls (Inv D ca A a aR aT aH aD aK aI aC aS aY a8) cn sn 862 := by
  obtain ⟨hx, hb, hr, hml, hown, hts, hX, hbl, hbA, hA, hK, hSX⟩ := C0
  intro Hh locs hI hS
  obtain ⟨lt, rs, rc, tS, tc, hk, hw, ho, hg, he, hr, hd, sz, sB, dC, ek, ew, eo, eg, ee, er, ed, zz, zB, zC, kept, il, io, ih, ct, tp, bo, oF, la, mS, mW, xS, xW, now, keeps, kM, fi, fs, rd, at8, costs, ways, reach, hP, hD, ⟨m6, h6⟩, ⟨m4, h4s⟩, hT, hQ, hKR⟩ := hI
  obtain ⟨n0, s0, d0, h0, rfl, rfl, rfl, hPh⟩ := hQ
  refine lv_aload_n hx hb dL_law_862 rfl (lv_at hl 1 rfl) ?_
  refine lv_aload_n hx hb dL_law_863 rfl (lv_at hl 0 rfl) ?_
  refine lv_iload_n hx hb dL_law_864 rfl (lv_at hl 3 rfl) ?_
  refine lv_iconst (v := (1)) hx hb dL_law_865 (by decide) ?_
  refine lv_iadd hx hb dL_law_866 ?_
  refine va_sld hx hb hX hbl hbA hS h1 dL_law_867 ?_
  have hc := c_X7_longest l D ca a aR aT aH aD aK aI aC aS aY lt 6 240 (nI 40) rs rc hk hw ho hg he hr hd (nI n0) (nI s0) (nI d0) (xs (x + 1).toNatClampNeg) _ (hD.subM [0, 1, 2, 3, 7, 8, 9, 10, 11, 12, 13, 14] (by decide) rfl) (s_longest hPh.1 hPh.2.1 hPh.2.2.1 h6 fi fs (xs (x + 1).toNatClampNeg))
  refine wr_calliK (ws1 := fun zu => WL ca a aR aT aH aD aK aI aC aS aY a8 lt (zu.1) (zu.2) tS tc hk hw ho hg he hr hd (nI n0) (nI s0) (nI d0) ek ew eo eg ee er ed zz zB zC kept il io ih ct tp bo oF la mS mW xS xW now keeps kM lt tp bo fi fs rd at8 costs ways reach) (wr := ([4, 5, 6, 15, 16, 17, 18, 19, 20, 21, 22, 23, 24, 25, 26, 27, 28, 29, 30, 31, 32, 33, 34, 35, 36, 37, 38, 39, 40, 41, 42, 43, 44, 45] : List Nat).filterMap (fun zi => (WL ca a aR aT aH aD aK aI aC aS aY a8 lt rs rc tS tc hk hw ho hg he hr hd (nI n0) (nI s0) (nI d0) ek ew eo eg ee er ed zz zB zC kept il io ih ct tp bo oF la mS mW xS xW now keeps kM lt tp bo fi fs rd at8 costs ways reach : va_W)[zi]?)) (n := 46) (va_runV (As := [.int ((xs (x + 1).toNatClampNeg))]) (rest := []) ⟨hx, hb, hml, hown, hts⟩ hc (cwV 1 hts gL_law_X7_longest rfl rfl rfl (by decide +kernel) ⟨Nat.le_of_ble_eq_true rfl, Nat.le_of_ble_eq_true rfl⟩) (PcX.preV (q := (RX7, TX7, 10)) (ci := 6) (q0 := 0) hK hP rfl rfl (hP.subM [0, 1, 2, 3, 7, 8, 9, 10, 11, 12, 13, 14] rfl)) rfl rfl hl.1 rfl (lv_room (Nat.le_of_ble_eq_true rfl)) dL_law_868 hf0) hP hD hS [0, 1, 2, 3, 7, 8, 9, 10, 11, 12, 13, 14] [4, 5, 6, 15, 16, 17, 18, 19, 20, 21, 22, 23, 24, 25, 26, 27, 28, 29, 30, 31, 32, 33, 34, 35, 36, 37, 38, 39, 40, 41, 42, 43, 44, 45] rfl (fun _ => rfl) rfl (fun _ => rfl) (fun _ => rfl) (fun _ => rfl) (by decide +kernel) (by decide +kernel) (fun r7 zu H1 locs1 hp hP1 hD1 hS1 hk1 => ?_)
  obtain ⟨rs_7, rc_7⟩ := zu
  try dsimp only at hp
  have hKR := hKR.frame hk1
  have hP : va_P D vwCl (WL ca a aR aT aH aD aK aI aC aS aY a8 lt rs_7 rc_7 tS tc hk hw ho hg he hr hd (nI n0) (nI s0) (nI d0) ek ew eo eg ee er ed zz zB zC kept il io ih ct tp bo oF la mS mW xS xW now keeps kM lt tp bo fi fs rd at8 costs ways reach) H1 := hP1
  have hD : va_D A (WL ca a aR aT aH aD aK aI aC aS aY a8 lt rs_7 rc_7 tS tc hk hw ho hg he hr hd (nI n0) (nI s0) (nI d0) ek ew eo eg ee er ed zz zB zC kept il io ih ct tp bo oF la mS mW xS xW now keeps kM lt tp bo fi fs rd at8 costs ways reach) := hD1
  have hS := hS1
  clear hP1 hD1 hS1 hk1
  refine lv_aload_n hx hb dL_law_871 rfl (lv_at hl 2 rfl) ?_
  refine lv_aload_n hx hb dL_law_872 rfl (lv_at hl 0 rfl) ?_
  refine lv_iload_n hx hb dL_law_873 rfl (lv_at hl 3 rfl) ?_
  refine lv_iconst (v := (1)) hx hb dL_law_874 (by decide) ?_
  refine lv_iadd hx hb dL_law_875 ?_
  refine va_sld hx hb hX hbl hbA hS h1 dL_law_876 ?_
  have hc := c_X8_longest l D ca a8 mS mW xS xW now keeps kM lt tp bo fi fs rd at8 costs ways reach (xs (x + 1).toNatClampNeg) _ (hD.subM [33, 34, 35, 36, 37, 38, 39, 40, 41, 42, 43, 44, 45] (by decide) rfl) hp
  refine wr_calliK (ws1 := fun zu => WL ca a aR aT aH aD aK aI aC aS aY a8 lt rs_7 rc_7 tS tc hk hw ho hg he hr hd (nI n0) (nI s0) (nI d0) ek ew eo eg ee er ed zz zB zC kept il io ih ct tp bo oF la (zu.1) (zu.2.1) xS xW now keeps kM lt tp bo (zu.2.2.1) (zu.2.2.2) rd at8 costs ways reach) (wr := ([0, 1, 2, 3, 4, 5, 6, 7, 8, 9, 10, 11, 12, 13, 14, 15, 16, 17, 18, 19, 20, 21, 22, 23, 24, 25, 26, 27, 28, 29, 30, 31, 32] : List Nat).filterMap (fun zi => (WL ca a aR aT aH aD aK aI aC aS aY a8 lt rs_7 rc_7 tS tc hk hw ho hg he hr hd (nI n0) (nI s0) (nI d0) ek ew eo eg ee er ed zz zB zC kept il io ih ct tp bo oF la mS mW xS xW now keeps kM lt tp bo fi fs rd at8 costs ways reach : va_W)[zi]?)) (n := 46) (va_runV (As := [.int ((xs (x + 1).toNatClampNeg))]) (rest := [.int r7]) ⟨hx, hb, hml, hown, hts⟩ hc (cwV 1 hts gL_law_X8_longest rfl rfl rfl (by decide +kernel) ⟨Nat.le_of_ble_eq_true rfl, Nat.le_of_ble_eq_true rfl⟩) (PcX.preV (q := (RX8, TX8, 17)) (ci := 7) (q0 := 33) hK hP rfl rfl (hP.subM [33, 34, 35, 36, 37, 38, 39, 40, 41, 42, 43, 44, 45] rfl)) rfl rfl hl.1 rfl (lv_room (Nat.le_of_ble_eq_true rfl)) dL_law_877 hf0) hP hD hS [33, 34, 35, 36, 37, 38, 39, 40, 41, 42, 43, 44, 45] [0, 1, 2, 3, 4, 5, 6, 7, 8, 9, 10, 11, 12, 13, 14, 15, 16, 17, 18, 19, 20, 21, 22, 23, 24, 25, 26, 27, 28, 29, 30, 31, 32] rfl (fun _ => rfl) rfl (fun _ => rfl) (fun _ => rfl) (fun _ => rfl) (by decide +kernel) (by decide +kernel) (fun r8 zu H1 locs1 hp hP1 hD1 hS1 hk1 => ?_)
  obtain ⟨mS_8, mW_8, fi_8, fs_8⟩ := zu
  try dsimp only at hp
  have hKR := hKR.frame hk1
  have hP : va_P D vwCl (WL ca a aR aT aH aD aK aI aC aS aY a8 lt rs_7 rc_7 tS tc hk hw ho hg he hr hd (nI n0) (nI s0) (nI d0) ek ew eo eg ee er ed zz zB zC kept il io ih ct tp bo oF la mS_8 mW_8 xS xW now keeps kM lt tp bo fi_8 fs_8 rd at8 costs ways reach) H1 := hP1
  have hD : va_D A (WL ca a aR aT aH aD aK aI aC aS aY a8 lt rs_7 rc_7 tS tc hk hw ho hg he hr hd (nI n0) (nI s0) (nI d0) ek ew eo eg ee er ed zz zB zC kept il io ih ct tp bo oF la mS_8 mW_8 xS xW now keeps kM lt tp bo fi_8 fs_8 rd at8 costs ways reach) := hD1
  have hS := hS1
  clear hP1 hD1 hS1 hk1
  obtain ⟨hre, hE6, hf1, hf2⟩ := hp
  have hT : TL oF la fs_8 fi_8 := by rw [hf1, hf2]; exact hT
  refine lv_icmp_eq (tgt := 1265) hx hb dL_law_880 (by decide) (fun _ => ?_) (fun hne => absurd hre hne)
  exact W.widen (Nat.le_add_right _ _) (Nat.le_add_right _ _) (kk _ _ ⟨_, _, _, _, _, _, _, _, _, _, _, _, _, _, _, _, _, _, _, _, _, _, _, _, _, _, _, _, _, _, _, _, _, _, _, _, _, _, _, _, _, _, _, _, _, _, _, _, hP, hD, hE6, ⟨_, h4s⟩, hT, ⟨n0, s0, d0, h0, rfl, rfl, rfl, hPh⟩, hKR⟩ hS)
end LWC
