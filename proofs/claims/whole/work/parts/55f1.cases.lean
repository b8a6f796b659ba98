/-! the law's cases -/
section LWC
variable {p : Program} {e : Env} {s : State} {m : MethodId} {below : List Frame} {meth : Method} {c : Code} {Q : State → Prop} {D : va_G} {ca : Nat → ClassId} {sa sd : Nat} {A : Nat → Prop} {b L : Nat} {xs : Nat → Int32} {a aR aT aH aD : Nat → Nat} {aK : Nat} {aI aC aS aY a8 : Nat → Nat} {x : Int32} {ls : Array Slot} {cn sn : Nat}
set_option maxHeartbeats 4000000 in
set_option maxRecDepth 100000 in
theorem lw_c37 (l : Launch) (C0 : LawC p s m meth c D ca sa sd A b L xs) (hl : lv_has ls 4 [(0, .ref b), (1, .ref (a 0)), (2, .ref (a8 0)), (3, .int x)]) (h1 : vp_in (x + 1) L) (h2 : vp_in (x + 2) L) (h3 : vp_in (x + 3) L) (h4 : vp_in (x + 4) L) (h5 : vp_in (x + 5) L) (hf0 : cn + 0 ≤ room_1.cells ∧ sn + 0 ≤ room_1.slots) (hf8 : cn + 8 ≤ room_1.cells ∧ sn + 122 ≤ room_1.slots) (kk : LwG p l e s m below meth c Q A b ls (Inv D ca A a aR aT aH aD aK aI aC aS aY a8) (cn + 8) (sn + 130) 1265) : LwG p l e s m below meth c Q A b ls (Inv D ca A a aR aT aH aD aK aI aC aS aY a8) cn sn 1178 := by
  obtain ⟨hx, hb, hr, hml, hown, hts, hX, hbl, hbA, hA, hK, hSX⟩ := C0
  intro Hh locs hI hS
  obtain ⟨lt, rs, rc, tS, tc, hk, hw, ho, hg, he, hr, hd, sz, sB, dC, ek, ew, eo, eg, ee, er, ed, zz, zB, zC, kept, il, io, ih, ct, tp, bo, oF, la, mS, mW, xS, xW, now, keeps, kM, fi, fs, rd, at8, costs, ways, reach, hP, hD, ⟨m6, h6⟩, ⟨m4, h4s⟩, hT, hQ, hKR⟩ := hI
  obtain ⟨n0, s0, d0, h0, rfl, rfl, rfl, hPh⟩ := hQ
  refine lv_aload_n hx hb dL_law_1178 rfl (lv_at hl 1 rfl) ?_
  have hc := c_X7_lower l D ca a aR aT aH aD aK aI aC aS aY lt tp bo  (fun zr => zr = bo) rfl
  refine rd_calll (va_runV (As := []) (rest := []) ⟨hx, hb, hml, hown, hts⟩ hc (cwV 0 hts gL_law_X7_lower rfl rfl rfl (by decide +kernel) ⟨Nat.le_of_ble_eq_true rfl, Nat.le_of_ble_eq_true rfl⟩) (PcX.preV (q := (RX7, TX7, 10)) (ci := 6) (q0 := 0) hK hP rfl rfl (hP.subM [0, 30] rfl)) rfl rfl hl.1 rfl (lv_room (Nat.le_of_ble_eq_true rfl)) dL_law_1179 hf0) (fun r7 hp => ?_)
  rw [hp]
  refine lv_aload_n hx hb dL_law_1182 rfl (lv_at hl 2 rfl) ?_
  have hc := c_X8_lower l D ca a8 mS mW xS xW now keeps kM lt tp bo fi fs rd at8 costs ways reach  (fun zr => zr = bo) rfl
  refine rd_calll (va_runV (As := []) (rest := [.long bo]) ⟨hx, hb, hml, hown, hts⟩ hc (cwV 0 hts gL_law_X8_lower rfl rfl rfl (by decide +kernel) ⟨Nat.le_of_ble_eq_true rfl, Nat.le_of_ble_eq_true rfl⟩) (PcX.preV (q := (RX8, TX8, 17)) (ci := 7) (q0 := 33) hK hP rfl rfl (hP.subM [33, 34, 35, 36, 37, 38, 39, 40, 41, 42, 43, 44, 45] rfl)) rfl rfl hl.1 rfl (lv_room (Nat.le_of_ble_eq_true rfl)) dL_law_1183 hf0) (fun r8 hp => ?_)
  rw [hp]
  have hre : bo = bo := rfl
  refine W.lcmp hx hb dL_law_1186 ?_
  refine lv_if_eq (tgt := 1265) hx hb dL_law_1187 (by decide) (fun _ => ?_) (fun hne => absurd (by rw [hre]; exact lg_self _) hne)
  exact W.widen (Nat.le_add_right _ _) (Nat.le_add_right _ _) (kk _ _ ⟨_, _, _, _, _, _, _, _, _, _, _, _, _, _, _, _, _, _, _, _, _, _, _, _, _, _, _, _, _, _, _, _, _, _, _, _, _, _, _, _, _, _, _, _, _, _, _, _, hP, hD, ⟨_, h6⟩, ⟨_, h4s⟩, hT, ⟨n0, s0, d0, h0, rfl, rfl, rfl, hPh⟩, hKR⟩ hS)
set_option maxHeartbeats 4000000 in
set_option maxRecDepth 100000 in
theorem lw_c38 (l : Launch) (C0 : LawC p s m meth c D ca sa sd A b L xs) (hl : lv_has ls 4 [(0, .ref b), (1, .ref (a 0)), (2, .ref (a8 0)), (3, .int x)]) (h1 : vp_in (x + 1) L) (h2 : vp_in (x + 2) L) (h3 : vp_in (x + 3) L) (h4 : vp_in (x + 4) L) (h5 : vp_in (x + 5) L) (hf0 : cn + 0 ≤ room_1.cells ∧ sn + 0 ≤ room_1.slots) (hf8 : cn + 8 ≤ room_1.cells ∧ sn + 122 ≤ room_1.slots) (kk : LwG p l e s m below meth c Q A b ls (Inv D ca A a aR aT aH aD aK aI aC aS aY a8) (cn + 8) (sn + 130) 1265) : LwG p l e s m below meth c Q A b ls (Inv D ca A a aR aT aH aD aK aI aC aS aY a8) cn sn 1192 := by
  obtain ⟨hx, hb, hr, hml, hown, hts, hX, hbl, hbA, hA, hK, hSX⟩ := C0
  intro Hh locs hI hS
  obtain ⟨lt, rs, rc, tS, tc, hk, hw, ho, hg, he, hr, hd, sz, sB, dC, ek, ew, eo, eg, ee, er, ed, zz, zB, zC, kept, il, io, ih, ct, tp, bo, oF, la, mS, mW, xS, xW, now, keeps, kM, fi, fs, rd, at8, costs, ways, reach, hP, hD, ⟨m6, h6⟩, ⟨m4, h4s⟩, hT, hQ, hKR⟩ := hI
  obtain ⟨n0, s0, d0, h0, rfl, rfl, rfl, hPh⟩ := hQ
  refine lv_aload_n hx hb dL_law_1192 rfl (lv_at hl 1 rfl) ?_
  refine lv_aload_n hx hb dL_law_1193 rfl (lv_at hl 0 rfl) ?_
  refine lv_iload_n hx hb dL_law_1194 rfl (lv_at hl 3 rfl) ?_
  refine lv_iconst (v := (1)) hx hb dL_law_1195 (by decide) ?_
  refine lv_iadd hx hb dL_law_1196 ?_
  refine va_sld hx hb hX hbl hbA hS h1 dL_law_1197 ?_
  have hc := c_X7_count l D ca a aR aT aH aD aK aI aC aS aY lt 6 240 (nI 40) rs rc 4 320 (nI 80) tS tc hk hw ho hg he hr hd (nI n0) (nI s0) (nI d0) kept (xs (x + 1).toNatClampNeg) _ (s_count hPh.1 hPh.2.1 hPh.2.2.1 hPh.s4 hPh.2.2.2.2.2.2.1 hPh.2.2.2.2.2.1 h6 h4s hKR.KP (xs (x + 1).toNatClampNeg))
  refine rd_calli (va_runV (As := [.int ((xs (x + 1).toNatClampNeg))]) (rest := []) ⟨hx, hb, hml, hown, hts⟩ hc (cwV 1 hts gL_law_X7_count rfl rfl rfl (by decide +kernel) ⟨Nat.le_of_ble_eq_true rfl, Nat.le_of_ble_eq_true rfl⟩) (PcX.preV (q := (RX7, TX7, 10)) (ci := 6) (q0 := 0) hK hP rfl rfl (hP.subM [0, 1, 2, 3, 4, 5, 6, 7, 8, 9, 10, 11, 12, 13, 14, 23] rfl)) rfl rfl hl.1 rfl (lv_room (Nat.le_of_ble_eq_true rfl)) dL_law_1198 hf0) (fun r7 hp => ?_)
  try dsimp only at hp
  refine lv_aload_n hx hb dL_law_1201 rfl (lv_at hl 2 rfl) ?_
  refine lv_aload_n hx hb dL_law_1202 rfl (lv_at hl 0 rfl) ?_
  refine lv_iload_n hx hb dL_law_1203 rfl (lv_at hl 3 rfl) ?_
  refine lv_iconst (v := (1)) hx hb dL_law_1204 (by decide) ?_
  refine lv_iadd hx hb dL_law_1205 ?_
  refine va_sld hx hb hX hbl hbA hS h1 dL_law_1206 ?_
  have hc := c_X8_count l D ca a8 mS mW xS xW now keeps kM lt tp bo fi fs rd at8 costs ways reach (xs (x + 1).toNatClampNeg) _ hp
  refine rd_calli (va_runV (As := [.int ((xs (x + 1).toNatClampNeg))]) (rest := [.int r7]) ⟨hx, hb, hml, hown, hts⟩ hc (cwV 1 hts gL_law_X8_count rfl rfl rfl (by decide +kernel) ⟨Nat.le_of_ble_eq_true rfl, Nat.le_of_ble_eq_true rfl⟩) (PcX.preV (q := (RX8, TX8, 17)) (ci := 7) (q0 := 33) hK hP rfl rfl (hP.subM [33, 34, 35, 36, 37, 38, 39, 40, 41, 42, 43, 44, 45] rfl)) rfl rfl hl.1 rfl (lv_room (Nat.le_of_ble_eq_true rfl)) dL_law_1207 hf0) (fun r8 hp => ?_)
  try dsimp only at hp
  have hre := hp
  refine lv_icmp_eq (tgt := 1265) hx hb dL_law_1210 (by decide) (fun _ => ?_) (fun hne => absurd hre hne)
  exact W.widen (Nat.le_add_right _ _) (Nat.le_add_right _ _) (kk _ _ ⟨_, _, _, _, _, _, _, _, _, _, _, _, _, _, _, _, _, _, _, _, _, _, _, _, _, _, _, _, _, _, _, _, _, _, _, _, _, _, _, _, _, _, _, _, _, _, _, _, hP, hD, ⟨_, h6⟩, ⟨_, h4s⟩, hT, ⟨n0, s0, d0, h0, rfl, rfl, rfl, hPh⟩, hKR⟩ hS)
set_option maxHeartbeats 4000000 in
set_option maxRecDepth 100000 in
theorem lw_c39 (l : Launch) (C0 : LawC p s m meth c D ca sa sd A b L xs) (hl : lv_has ls 4 [(0, .ref b), (1, .ref (a 0)), (2, .ref (a8 0)), (3, .int x)]) (h1 : vp_in (x + 1) L) (h2 : vp_in (x + 2) L) (h3 : vp_in (x + 3) L) (h4 : vp_in (x + 4) L) (h5 : vp_in (x + 5) L) (hf0 : cn + 0 ≤ room_1.cells ∧ sn + 0 ≤ room_1.slots) (hf8 : cn + 8 ≤ room_1.cells ∧ sn + 122 ≤ room_1.slots) (kk : LwG p l e s m below meth c Q A b ls (Inv D ca A a aR aT aH aD aK aI aC aS aY a8) (cn + 8) (sn + 130) 1265) : LwG p l e s m below meth c Q A b ls (Inv D ca A a aR aT aH aD aK aI aC aS aY a8) cn sn 1215 := by
  obtain ⟨hx, hb, hr, hml, hown, hts, hX, hbl, hbA, hA, hK, hSX⟩ := C0
  intro Hh locs hI hS
  obtain ⟨lt, rs, rc, tS, tc, hk, hw, ho, hg, he, hr, hd, sz, sB, dC, ek, ew, eo, eg, ee, er, ed, zz, zB, zC, kept, il, io, ih, ct, tp, bo, oF, la, mS, mW, xS, xW, now, keeps, kM, fi, fs, rd, at8, costs, ways, reach, hP, hD, ⟨m6, h6⟩, ⟨m4, h4s⟩, hT, hQ, hKR⟩ := hI
  obtain ⟨n0, s0, d0, h0, rfl, rfl, rfl, hPh⟩ := hQ
  refine lv_aload_n hx hb dL_law_1215 rfl (lv_at hl 1 rfl) ?_
  have hc := c_X7_finding l D ca a aR aT aH aD aK aI aC aS aY lt oF la  (fun zr => zr = la) rfl
  refine rd_calli (va_runV (As := []) (rest := []) ⟨hx, hb, hml, hown, hts⟩ hc (cwV 0 hts gL_law_X7_finding rfl rfl rfl (by decide +kernel) ⟨Nat.le_of_ble_eq_true rfl, Nat.le_of_ble_eq_true rfl⟩) (PcX.preV (q := (RX7, TX7, 10)) (ci := 6) (q0 := 0) hK hP rfl rfl (hP.subM [0, 31, 32] rfl)) rfl rfl hl.1 rfl (lv_room (Nat.le_of_ble_eq_true rfl)) dL_law_1216 hf0) (fun r7 hp => ?_)
  rw [hp]
  refine lv_aload_n hx hb dL_law_1219 rfl (lv_at hl 2 rfl) ?_
  have hc := c_X8_finding l D ca a8 mS mW xS xW now keeps kM lt tp bo fi fs rd at8 costs ways reach  (fun zr => zr = fi) rfl
  refine rd_calli (va_runV (As := []) (rest := [.int la]) ⟨hx, hb, hml, hown, hts⟩ hc (cwV 0 hts gL_law_X8_finding rfl rfl rfl (by decide +kernel) ⟨Nat.le_of_ble_eq_true rfl, Nat.le_of_ble_eq_true rfl⟩) (PcX.preV (q := (RX8, TX8, 17)) (ci := 7) (q0 := 33) hK hP rfl rfl (hP.subM [33, 34, 35, 36, 37, 38, 39, 40, 41, 42, 43, 44, 45] rfl)) rfl rfl hl.1 rfl (lv_room (Nat.le_of_ble_eq_true rfl)) dL_law_1220 hf0) (fun r8 hp => ?_)
  rw [hp]
  have hre : la = fi := hT.1
  refine lv_icmp_eq (tgt := 1265) hx hb dL_law_1223 (by decide) (fun _ => ?_) (fun hne => absurd hre hne)
  exact W.widen (Nat.le_add_right _ _) (Nat.le_add_right _ _) (kk _ _ ⟨_, _, _, _, _, _, _, _, _, _, _, _, _, _, _, _, _, _, _, _, _, _, _, _, _, _, _, _, _, _, _, _, _, _, _, _, _, _, _, _, _, _, _, _, _, _, _, _, hP, hD, ⟨_, h6⟩, ⟨_, h4s⟩, hT, ⟨n0, s0, d0, h0, rfl, rfl, rfl, hPh⟩, hKR⟩ hS)
set_option maxHeartbeats 4000000 in
set_option maxRecDepth 100000 in
theorem lw_c40 (l : Launch) (C0 : LawC p s m meth c D ca sa sd A b L xs) (hl : lv_has ls 4 [(0, .ref b), (1, .ref (a 0)), (2, .ref (a8 0)), (3, .int x)]) (h1 : vp_in (x + 1) L) (h2 : vp_in (x + 2) L) (h3 : vp_in (x + 3) L) (h4 : vp_in (x + 4) L) (h5 : vp_in (x + 5) L) (hf0 : cn + 0 ≤ room_1.cells ∧ sn + 0 ≤ room_1.slots) (hf8 : cn + 8 ≤ room_1.cells ∧ sn + 122 ≤ room_1.slots) (kk : LwG p l e s m below meth c Q A b ls (Inv D ca A a aR aT aH aD aK aI aC aS aY a8) (cn + 8) (sn + 130) 1265) : LwG p l e s m below meth c Q A b ls (Inv D ca A a aR aT aH aD aK aI aC aS aY a8) cn sn 1228 := by
  obtain ⟨hx, hb, hr, hml, hown, hts, hX, hbl, hbA, hA, hK, hSX⟩ := C0
  intro Hh locs hI hS
  obtain ⟨lt, rs, rc, tS, tc, hk, hw, ho, hg, he, hr, hd, sz, sB, dC, ek, ew, eo, eg, ee, er, ed, zz, zB, zC, kept, il, io, ih, ct, tp, bo, oF, la, mS, mW, xS, xW, now, keeps, kM, fi, fs, rd, at8, costs, ways, reach, hP, hD, ⟨m6, h6⟩, ⟨m4, h4s⟩, hT, hQ, hKR⟩ := hI
  obtain ⟨n0, s0, d0, h0, rfl, rfl, rfl, hPh⟩ := hQ
  refine lv_aload_n hx hb dL_law_1228 rfl (lv_at hl 1 rfl) ?_
  refine lv_aload_n hx hb dL_law_1229 rfl (lv_at hl 0 rfl) ?_
  refine lv_iload_n hx hb dL_law_1230 rfl (lv_at hl 3 rfl) ?_
  refine lv_iconst (v := (1)) hx hb dL_law_1231 (by decide) ?_
  refine lv_iadd hx hb dL_law_1232 ?_
  refine va_sld hx hb hX hbl hbA hS h1 dL_law_1233 ?_
  have hc := c_X7_findings l D ca a aR aT aH aD aK aI aC aS aY lt oF la (xs (x + 1).toNatClampNeg) _ (s_findings hT (xs (x + 1).toNatClampNeg))
  refine rd_calli (va_runV (As := [.int ((xs (x + 1).toNatClampNeg))]) (rest := []) ⟨hx, hb, hml, hown, hts⟩ hc (cwV 1 hts gL_law_X7_findings rfl rfl rfl (by decide +kernel) ⟨Nat.le_of_ble_eq_true rfl, Nat.le_of_ble_eq_true rfl⟩) (PcX.preV (q := (RX7, TX7, 10)) (ci := 6) (q0 := 0) hK hP rfl rfl (hP.subM [0, 31, 32] rfl)) rfl rfl hl.1 rfl (lv_room (Nat.le_of_ble_eq_true rfl)) dL_law_1234 hf0) (fun r7 hp => ?_)
  try dsimp only at hp
  refine lv_aload_n hx hb dL_law_1237 rfl (lv_at hl 2 rfl) ?_
  refine lv_aload_n hx hb dL_law_1238 rfl (lv_at hl 0 rfl) ?_
  refine lv_iload_n hx hb dL_law_1239 rfl (lv_at hl 3 rfl) ?_
  refine lv_iconst (v := (1)) hx hb dL_law_1240 (by decide) ?_
  refine lv_iadd hx hb dL_law_1241 ?_
  refine va_sld hx hb hX hbl hbA hS h1 dL_law_1242 ?_
  have hc := c_X8_findings l D ca a8 mS mW xS xW now keeps kM lt tp bo fi fs rd at8 costs ways reach (xs (x + 1).toNatClampNeg) _ hp
  refine rd_calli (va_runV (As := [.int ((xs (x + 1).toNatClampNeg))]) (rest := [.int r7]) ⟨hx, hb, hml, hown, hts⟩ hc (cwV 1 hts gL_law_X8_findings rfl rfl rfl (by decide +kernel) ⟨Nat.le_of_ble_eq_true rfl, Nat.le_of_ble_eq_true rfl⟩) (PcX.preV (q := (RX8, TX8, 17)) (ci := 7) (q0 := 33) hK hP rfl rfl (hP.subM [33, 34, 35, 36, 37, 38, 39, 40, 41, 42, 43, 44, 45] rfl)) rfl rfl hl.1 rfl (lv_room (Nat.le_of_ble_eq_true rfl)) dL_law_1243 hf0) (fun r8 hp => ?_)
  try dsimp only at hp
  have hre := hp
  refine lv_icmp_eq (tgt := 1265) hx hb dL_law_1246 (by decide) (fun _ => ?_) (fun hne => absurd hre hne)
  exact W.widen (Nat.le_add_right _ _) (Nat.le_add_right _ _) (kk _ _ ⟨_, _, _, _, _, _, _, _, _, _, _, _, _, _, _, _, _, _, _, _, _, _, _, _, _, _, _, _, _, _, _, _, _, _, _, _, _, _, _, _, _, _, _, _, _, _, _, _, hP, hD, ⟨_, h6⟩, ⟨_, h4s⟩, hT, ⟨n0, s0, d0, h0, rfl, rfl, rfl, hPh⟩, hKR⟩ hS)
set_option maxHeartbeats 4000000 in
set_option maxRecDepth 100000 in
theorem lw_c41 (l : Launch) (C0 : LawC p s m meth c D ca sa sd A b L xs) (hl : lv_has ls 4 [(0, .ref b), (1, .ref (a 0)), (2, .ref (a8 0)), (3, .int x)]) (h1 : vp_in (x + 1) L) (h2 : vp_in (x + 2) L) (h3 : vp_in (x + 3) L) (h4 : vp_in (x + 4) L) (h5 : vp_in (x + 5) L) (hf0 : cn + 0 ≤ room_1.cells ∧ sn + 0 ≤ room_1.slots) (hf8 : cn + 8 ≤ room_1.cells ∧ sn + 122 ≤ room_1.slots) (kk : LwG p l e s m below meth c Q A b ls (Inv D ca A a aR aT aH aD aK aI aC aS aY a8) (cn + 8) (sn + 130) 1265) : LwG p l e s m below meth c Q A b ls (Inv D ca A a aR aT aH aD aK aI aC aS aY a8) cn sn 1251 := by
  obtain ⟨hx, hb, hr, hml, hown, hts, hX, hbl, hbA, hA, hK, hSX⟩ := C0
  intro Hh locs hI hS
  obtain ⟨lt, rs, rc, tS, tc, hk, hw, ho, hg, he, hr, hd, sz, sB, dC, ek, ew, eo, eg, ee, er, ed, zz, zB, zC, kept, il, io, ih, ct, tp, bo, oF, la, mS, mW, xS, xW, now, keeps, kM, fi, fs, rd, at8, costs, ways, reach, hP, hD, ⟨m6, h6⟩, ⟨m4, h4s⟩, hT, hQ, hKR⟩ := hI
  obtain ⟨n0, s0, d0, h0, rfl, rfl, rfl, hPh⟩ := hQ
  refine lv_aload_n hx hb dL_law_1251 rfl (lv_at hl 1 rfl) ?_
  have hc := c_X7_digest l D ca a aR aT aH aD aK aI aC aS aY lt 6 240 (nI 40) rs rc 4 320 (nI 80) tS tc hk hw ho hg he hr hd (nI n0) (nI s0) (nI d0) kept (fun k => keeps (115 * k + 1))  _ (s_digest hPh.1 hPh.2.1 hPh.2.2.1 hPh.s4 hPh.2.2.2.2.2.2.1 hPh.2.2.2.2.2.1 h6 h4s hKR.KD)
  refine rd_calll (va_runV (As := []) (rest := []) ⟨hx, hb, hml, hown, hts⟩ hc (cwV 0 hts gL_law_X7_digest rfl rfl rfl (by decide +kernel) ⟨Nat.le_of_ble_eq_true rfl, Nat.le_of_ble_eq_true rfl⟩) (PcQ.preV (q := (RX7, TX7, 10)) (ci := 6) (q0 := 0) hK hKR.KQ hP rfl rfl (hP.subM [0, 1, 2, 3, 4, 5, 6, 7, 8, 9, 10, 11, 12, 13, 14, 23] rfl)) rfl rfl hl.1 rfl (lv_room (Nat.le_of_ble_eq_true rfl)) dL_law_1252 hf0) (fun r7 hp => ?_)
  try dsimp only at hp
  refine lv_aload_n hx hb dL_law_1255 rfl (lv_at hl 2 rfl) ?_
  have hc := c_X8_digest l D ca a8 mS mW xS xW now keeps kM lt tp bo fi fs rd at8 costs ways reach  _ hp
  refine rd_calll (va_runV (As := []) (rest := [.long r7]) ⟨hx, hb, hml, hown, hts⟩ hc (cwV 0 hts gL_law_X8_digest rfl rfl rfl (by decide +kernel) ⟨Nat.le_of_ble_eq_true rfl, Nat.le_of_ble_eq_true rfl⟩) (PcX.preV (q := (RX8, TX8, 17)) (ci := 7) (q0 := 33) hK hP rfl rfl (hP.subM [33, 34, 35, 36, 37, 38, 39, 40, 41, 42, 43, 44, 45] rfl)) rfl rfl hl.1 rfl (lv_room (Nat.le_of_ble_eq_true rfl)) dL_law_1256 hf0) (fun r8 hp => ?_)
  try dsimp only at hp
  have hre := hp
  refine W.lcmp hx hb dL_law_1259 ?_
  refine lv_if_eq (tgt := 1265) hx hb dL_law_1260 (by decide) (fun _ => ?_) (fun hne => absurd (by rw [hre]; exact lg_self _) hne)
  exact W.widen (Nat.le_add_right _ _) (Nat.le_add_right _ _) (kk _ _ ⟨_, _, _, _, _, _, _, _, _, _, _, _, _, _, _, _, _, _, _, _, _, _, _, _, _, _, _, _, _, _, _, _, _, _, _, _, _, _, _, _, _, _, _, _, _, _, _, _, hP, hD, ⟨_, h6⟩, ⟨_, h4s⟩, hT, ⟨n0, s0, d0, h0, rfl, rfl, rfl, hPh⟩, hKR⟩ hS)
end LWC
