/-! the law's cases keep and on -/
theorem nI_cl3 (j : Nat) (hj : j < 3) : (nI j).toNatClampNeg = j := by
  rcases (show j = 0 ∨ j = 1 ∨ j = 2 by omega) with rfl | rfl | rfl <;> rfl
theorem cpy_in (j x9 : Nat) (hx : x9 < 115) (now keeps : Nat → Int32) : va_cpy now keeps 0 (115 * j) 115 (115 * j + x9) = now x9 := by
  show (if 115 * j ≤ 115 * j + x9 ∧ 115 * j + x9 < 115 * j + 115 then now (0 + (115 * j + x9 - 115 * j)) else keeps (115 * j + x9)) = now x9
  rw [if_pos ⟨by omega, by omega⟩]
  exact congrArg now (by omega)
theorem cpy_out (j i x9 : Nat) (hij : i ≠ j) (hx : x9 < 115) (now keeps : Nat → Int32) : va_cpy now keeps 0 (115 * j) 115 (115 * i + x9) = keeps (115 * i + x9) := by
  show (if 115 * j ≤ 115 * i + x9 ∧ 115 * i + x9 < 115 * j + 115 then now (0 + (115 * i + x9 - 115 * j)) else keeps (115 * i + x9)) = keeps (115 * i + x9)
  rw [if_neg (by omega)]
theorem KRelA.frame1 {D : va_G} {ca : Nat → ClassId} {A : Nat → Prop} {bL : List Nat} {ad : Nat → Nat → Nat} {kept : Nat → Option Nat} {kM keeps : Nat → Int32} {H H1 : Heap} (h : KRelA D ca A bL ad kept kM keeps H) (hk : ∀ q : Nat, q < H.size → ¬ q ∈ bL → H1[q]? = H[q]?) : KRelA D ca A bL ad kept kM keeps H1 := h.frame hk
section LWC
variable {p : Program} {e : Env} {s : State} {m : MethodId} {below : List Frame} {meth : Method} {c : Code} {Q : State → Prop} {D : va_G} {ca : Nat → ClassId} {sa sd : Nat} {A : Nat → Prop} {b L : Nat} {xs : Nat → Int32} {a aR aT aH aD : Nat → Nat} {aK : Nat} {aI aC aS aY a8 : Nat → Nat} {x : Int32} {ls : Array Slot} {cn sn : Nat}
set_option maxHeartbeats 8000000 in
set_option maxRecDepth 100000 in
theorem lw_c16 (l : Launch) (C0 : LawC p s m meth c D ca sa sd A b L xs) (hl : lv_has ls 4 [(0, .ref b), (1, .ref (a 0)), (2, .ref (a8 0)), (3, .int x)]) (h1 : vp_in (x + 1) L) (h2 : vp_in (x + 2) L) (h3 : vp_in (x + 3) L) (h4 : vp_in (x + 4) L) (h5 : vp_in (x + 5) L) (hf0 : cn + 0 ≤ room_1.cells ∧ sn + 0 ≤ room_1.slots) (hf8 : cn + 8 ≤ room_1.cells ∧ sn + 122 ≤ room_1.slots) (kk : LwG p l e s m below meth c Q A b ls (Inv D ca A a aR aT aH aD aK aI aC aS aY a8) (cn + 8) (sn + 130) 1265) : LwG p l e s m below meth c Q A b ls (Inv D ca A a aR aT aH aD aK aI aC aS aY a8) cn sn 734 := by
  obtain ⟨hx, hb, hr, hml, hown, hts, hX, hbl, hbA, hA, hK, hSX⟩ := C0
  intro Hh locs hI hS
  obtain ⟨lt, rs, rc, tS, tc, hk, hw, ho, hg, he, hr, hd, sz, sB, dC, ek, ew, eo, eg, ee, er, ed, zz, zB, zC, kept, il, io, ih, ct, tp, bo, oF, la, mS, mW, xS, xW, now, keeps, kM, fi, fs, rd, at8, costs, ways, reach, hP, hD, ⟨m6, h6⟩, ⟨m4, h4s⟩, hT, hQ, hKR⟩ := hI
  obtain ⟨n0, s0, d0, h0, rfl, rfl, rfl, hPh⟩ := hQ
  refine lv_aload_n hx hb dL_law_734 rfl (lv_at hl 1 rfl) ?_
  refine lv_aload_n hx hb dL_law_735 rfl (lv_at hl 0 rfl) ?_
  refine lv_iload_n hx hb dL_law_736 rfl (lv_at hl 3 rfl) ?_
  refine lv_iconst (v := (1)) hx hb dL_law_737 (by decide) ?_
  refine lv_iadd hx hb dL_law_738 ?_
  refine va_sld hx hb hX hbl hbA hS h1 dL_law_739 ?_
  have hQ0 : HQ hk hw ho hg he hr hd (nI n0) (nI s0) (nI d0) now := ⟨n0, s0, d0, h0, rfl, rfl, rfl, hPh⟩
  by_cases hbad : (xs (x + 1).toNatClampNeg) < 0 ∨ nI 3 ≤ (xs (x + 1).toNatClampNeg) ∨ n0 = 0
  · have hc := c_X7_keepA l D ca a aR aT aH aD aK aI aC aS aY lt hk hw ho hg he hr hd (nI n0) (nI s0) (nI d0) kept (xs (x + 1).toNatClampNeg) _ (s_keepA hPh.2.2.1.1 hPh.2.1.1 keeps kM (xs (x + 1).toNatClampNeg) hbad)
    refine rd_calli (va_runV (As := [.int (xs (x + 1).toNatClampNeg)]) (rest := []) ⟨hx, hb, hml, hown, hts⟩ hc (cwV 1 hts gL_law_X7_keep rfl rfl rfl (by decide +kernel) ⟨Nat.le_of_ble_eq_true rfl, Nat.le_of_ble_eq_true rfl⟩) (PcX.preV (q := (RX7, TX7, 10)) (ci := 6) (q0 := 0) hK hP rfl rfl (hP.subM [0, 7, 8, 9, 10, 11, 12, 13, 14, 23] rfl)) rfl rfl hl.1 rfl (lv_room (Nat.le_of_ble_eq_true rfl)) dL_law_740 hf0) (fun r7 hp => ?_)
    try dsimp only at hp
    refine lv_aload_n hx hb dL_law_743 rfl (lv_at hl 2 rfl) ?_
    refine lv_aload_n hx hb dL_law_744 rfl (lv_at hl 0 rfl) ?_
    refine lv_iload_n hx hb dL_law_745 rfl (lv_at hl 3 rfl) ?_
    refine lv_iconst (v := (1)) hx hb dL_law_746 (by decide) ?_
    refine lv_iadd hx hb dL_law_747 ?_
    refine va_sld hx hb hX hbl hbA hS h1 dL_law_748 ?_
    have hc := c_X8_keep l D ca a8 mS mW xS xW now keeps kM lt tp bo fi fs rd at8 costs ways reach (xs (x + 1).toNatClampNeg) _ (hD.subM [33, 34, 35, 36, 37, 38, 39, 40, 41, 42, 43, 44, 45] (by decide) rfl) hp
    refine wr_calliK (ws1 := fun zu => WL ca a aR aT aH aD aK aI aC aS aY a8 lt rs rc tS tc hk hw ho hg he hr hd (nI n0) (nI s0) (nI d0) ek ew eo eg ee er ed zz zB zC kept il io ih ct tp bo oF la mS mW xS xW now (zu.1) (zu.2) lt tp bo fi fs rd at8 costs ways reach) (wr := ([0, 1, 2, 3, 4, 5, 6, 7, 8, 9, 10, 11, 12, 13, 14, 15, 16, 17, 18, 19, 20, 21, 22, 23, 24, 25, 26, 27, 28, 29, 30, 31, 32] : List Nat).filterMap (fun zi => (WL ca a aR aT aH aD aK aI aC aS aY a8 lt rs rc tS tc hk hw ho hg he hr hd (nI n0) (nI s0) (nI d0) ek ew eo eg ee er ed zz zB zC kept il io ih ct tp bo oF la mS mW xS xW now keeps kM lt tp bo fi fs rd at8 costs ways reach : va_W)[zi]?)) (n := 46) (va_runV (As := [.int ((xs (x + 1).toNatClampNeg))]) (rest := [.int r7]) ⟨hx, hb, hml, hown, hts⟩ hc (cwV 1 hts gL_law_X8_keep rfl rfl rfl (by decide +kernel) ⟨Nat.le_of_ble_eq_true rfl, Nat.le_of_ble_eq_true rfl⟩) (PcX.preV (q := (RX8, TX8, 17)) (ci := 7) (q0 := 33) hK hP rfl rfl (hP.subM [33, 34, 35, 36, 37, 38, 39, 40, 41, 42, 43, 44, 45] rfl)) rfl rfl hl.1 rfl (lv_room (Nat.le_of_ble_eq_true rfl)) dL_law_749 hf0) hP hD hS [33, 34, 35, 36, 37, 38, 39, 40, 41, 42, 43, 44, 45] [0, 1, 2, 3, 4, 5, 6, 7, 8, 9, 10, 11, 12, 13, 14, 15, 16, 17, 18, 19, 20, 21, 22, 23, 24, 25, 26, 27, 28, 29, 30, 31, 32] rfl (fun _ => rfl) rfl (fun _ => rfl) (fun _ => rfl) (fun _ => rfl) (by decide +kernel) (by decide +kernel) (fun r8 zu H1 locs1 hp hP1 hD1 hS1 hk1 => ?_)
    obtain ⟨keeps_8, kM_8⟩ := zu
    try dsimp only at hp
    have hKR := hKR.frame hk1
    have hP : va_P D vwCl (WL ca a aR aT aH aD aK aI aC aS aY a8 lt rs rc tS tc hk hw ho hg he hr hd (nI n0) (nI s0) (nI d0) ek ew eo eg ee er ed zz zB zC kept il io ih ct tp bo oF la mS mW xS xW now keeps_8 kM_8 lt tp bo fi fs rd at8 costs ways reach) H1 := hP1
    have hD : va_D A (WL ca a aR aT aH aD aK aI aC aS aY a8 lt rs rc tS tc hk hw ho hg he hr hd (nI n0) (nI s0) (nI d0) ek ew eo eg ee er ed zz zB zC kept il io ih ct tp bo oF la mS mW xS xW now keeps_8 kM_8 lt tp bo fi fs rd at8 costs ways reach) := hD1
    have hS := hS1
    clear hP1 hD1 hS1 hk1
    obtain ⟨hre, hk1, hk2⟩ := hp
    have hKR : KRel D ca A (LL a aR aT aH aD aK aI aC aS aY a8) kept kM_8 keeps_8 H1 := (by rw [hk1, hk2]; exact hKR)
    refine lv_icmp_eq (tgt := 1265) hx hb dL_law_752 (by decide) (fun _ => ?_) (fun hne => absurd hre hne)
    exact W.widen (Nat.le_add_right _ _) (Nat.le_add_right _ _) (kk _ _ ⟨_, _, _, _, _, _, _, _, _, _, _, _, _, _, _, _, _, _, _, _, _, _, _, _, _, _, _, _, _, _, _, _, _, _, _, _, _, _, _, _, _, _, _, _, _, _, _, _, hP, hD, ⟨_, h6⟩, ⟨_, h4s⟩, hT, ⟨n0, s0, d0, h0, rfl, rfl, rfl, hPh⟩, hKR⟩ hS)
  · have hn0 : n0 ≠ 0 := fun z => hbad (Or.inr (Or.inr z))
    have hn12 : n0 ≤ 12 := hPh.2.2.1.1
    have hz0 : ¬ nI n0 = 0 := nI_ne0 (by omega) (by omega)
    obtain ⟨j, hj, hjv⟩ := vp_in_of (in3 (fun z => hbad (Or.inl z)) (fun z => hbad (Or.inr (Or.inl z)))) (by decide)
    obtain ⟨ad, hKA⟩ := hKR.told
    rcases hKA.1 j hj with ⟨hn, hmn⟩ | ⟨hs, hm, hDp, pk, pw, po, pg, pe, pr, pd, ps, pb, pc_, hQp, hPp⟩
    · have hin : vp_in (xs (x + 1).toNatClampNeg) 3 := by rw [hjv]; exact nI_in hj (by decide)
      have htn : (xs (x + 1).toNatClampNeg).toNatClampNeg = j := by rw [hjv]; exact nI_cl3 j hj
      have hkn : kept (xs (x + 1).toNatClampNeg).toNatClampNeg = none := by rw [htn]; exact hn
      have hc := c_X7_keepN l D ca a aR aT aH aD aK aI aC aS aY Hh.size lt hk hw ho hg he hr hd (nI n0) (nI s0) (nI d0) kept (xs (x + 1).toNatClampNeg) hin hkn hz0
      have hPc := hP.subM (wc := (W_X7 a aR aT aH aD aK aI aC aS aY lt) ++ (W_X1 ca aH hk hw ho hg he hr hd (nI n0) (nI s0) (nI d0)) ++ (W_K ca aK kept)) [0, 7, 8, 9, 10, 11, 12, 13, 14, 23] rfl
      have hDc := hD.subM (wc := (W_X7 a aR aT aH aD aK aI aC aS aY lt) ++ (W_X1 ca aH hk hw ho hg he hr hd (nI n0) (nI s0) (nI d0)) ++ (W_K ca aK kept)) [0, 7, 8, 9, 10, 11, 12, 13, 14, 23] (by decide) rfl
      have hFc := va_free (wc := (W_X7 a aR aT aH aD aK aI aC aS aY lt) ++ (W_X1 ca aH hk hw ho hg he hr hd (nI n0) (nI s0) (nI d0)) ++ (W_K ca aK kept)) hD hS hA [0, 7, 8, 9, 10, 11, 12, 13, 14, 23] rfl
      refine va_calli (va_runV (As := [.int (xs (x + 1).toNatClampNeg)]) (rest := []) ⟨hx, hb, hml, hown, hts⟩ hc (cwV 1 hts gL_law_X7_keep rfl rfl rfl (by decide +kernel) ⟨Nat.le_of_ble_eq_true rfl, Nat.le_of_ble_eq_true rfl⟩) (PcI.preV (q := (RX7, TX7, 10)) (ci := 6) (q0 := 0) hK hP rfl rfl hPc hDc) rfl rfl hl.1 rfl (lv_room (Nat.le_of_ble_eq_true rfl)) dL_law_740 hf8) hS (fun q _ h => hFc q h) hFc (fun r7 zu t H1 locs1 ht hvm hwr hB hz1 hk1 hS => ?_)
      obtain ⟨ap, rfl⟩ : ∃ zz, zz = zu := ⟨zu, rfl⟩
      obtain ⟨hP1, hD1⟩ := hB
      rw [ht] at hP1
      try dsimp only at hwr
      have hP1 : va_P D vwCl (((W_X7 a aR aT aH aD aK aI aC aS aY lt) ++ (W_X1 ca aH hk hw ho hg he hr hd (nI n0) (nI s0) (nI d0)) ++ (W_K ca aK (va_up kept (xs (x + 1).toNatClampNeg).toNatClampNeg (some (ap 0))))) ++ (W_X1 ca ap (va_cpy hk (fun _ => 0) 0 0 12) (va_cpy hw (fun _ => 0) 0 0 12) (va_cpy ho (fun _ => 0) 0 0 12) (va_cpy hg (fun _ => 0) 0 0 12) (va_cpy he (fun _ => 0) 0 0 12) (va_cpy hr (fun _ => 0) 0 0 12) (va_cpy hd (fun _ => 0) 0 0 40) (nI n0) (nI s0) (nI d0))) H1 := hP1
      have hD1 : va_D (va_A ((W_X7 a aR aT aH aD aK aI aC aS aY lt) ++ (W_X1 ca aH hk hw ho hg he hr hd (nI n0) (nI s0) (nI d0)) ++ (W_K ca aK kept)) Hh.size) (((W_X7 a aR aT aH aD aK aI aC aS aY lt) ++ (W_X1 ca aH hk hw ho hg he hr hd (nI n0) (nI s0) (nI d0)) ++ (W_K ca aK (va_up kept (xs (x + 1).toNatClampNeg).toNatClampNeg (some (ap 0))))) ++ (W_X1 ca ap (va_cpy hk (fun _ => 0) 0 0 12) (va_cpy hw (fun _ => 0) 0 0 12) (va_cpy ho (fun _ => 0) 0 0 12) (va_cpy hg (fun _ => 0) 0 0 12) (va_cpy he (fun _ => 0) 0 0 12) (va_cpy hr (fun _ => 0) 0 0 12) (va_cpy hd (fun _ => 0) 0 0 40) (nI n0) (nI s0) (nI d0))) := hD1
      obtain ⟨hPj, hDj⟩ := va_join (wr := ([1, 2, 3, 4, 5, 6, 15, 16, 17, 18, 19, 20, 21, 22, 24, 25, 26, 27, 28, 29, 30, 31, 32, 33, 34, 35, 36, 37, 38, 39, 40, 41, 42, 43, 44, 45] : List Nat).filterMap (fun zi => (WL ca a aR aT aH aD aK aI aC aS aY a8 lt rs rc tS tc hk hw ho hg he hr hd (nI n0) (nI s0) (nI d0) ek ew eo eg ee er ed zz zB zC kept il io ih ct tp bo oF la mS mW xS xW now keeps kM lt tp bo fi fs rd at8 costs ways reach : va_W)[zi]?)) (w1 := ((W_X7 a aR aT aH aD aK aI aC aS aY lt) ++ (W_X1 ca aH hk hw ho hg he hr hd (nI n0) (nI s0) (nI d0)) ++ (W_K ca aK (va_up kept (xs (x + 1).toNatClampNeg).toNatClampNeg (some (ap 0))))) ++ (W_X1 ca ap (va_cpy hk (fun _ => 0) 0 0 12) (va_cpy hw (fun _ => 0) 0 0 12) (va_cpy ho (fun _ => 0) 0 0 12) (va_cpy hg (fun _ => 0) 0 0 12) (va_cpy he (fun _ => 0) 0 0 12) (va_cpy hr (fun _ => 0) 0 0 12) (va_cpy hd (fun _ => 0) 0 0 40) (nI n0) (nI s0) (nI d0))) hP hD [0, 7, 8, 9, 10, 11, 12, 13, 14, 23] [1, 2, 3, 4, 5, 6, 15, 16, 17, 18, 19, 20, 21, 22, 24, 25, 26, 27, 28, 29, 30, 31, 32, 33, 34, 35, 36, 37, 38, 39, 40, 41, 42, 43, 44, 45] rfl rfl (by decide) (by decide) hk1 hFc hP1 hD1
      have hPn : va_P D vwCl (WL ca a aR aT aH aD aK aI aC aS aY a8 lt rs rc tS tc hk hw ho hg he hr hd (nI n0) (nI s0) (nI d0) ek ew eo eg ee er ed zz zB zC (va_up kept (xs (x + 1).toNatClampNeg).toNatClampNeg (some (ap 0))) il io ih ct tp bo oF la mS mW xS xW now keeps kM lt tp bo fi fs rd at8 costs ways reach) H1 := hPj.subM [36, 0, 1, 2, 3, 4, 5, 37, 38, 39, 40, 41, 42, 43, 44, 6, 7, 8, 9, 10, 11, 12, 13, 45, 14, 15, 16, 17, 18, 19, 20, 21, 22, 23, 24, 25, 26, 27, 28, 29, 30, 31, 32, 33, 34, 35] rfl
      have hDn : va_D A ((WL ca a aR aT aH aD aK aI aC aS aY a8 lt rs rc tS tc hk hw ho hg he hr hd (nI n0) (nI s0) (nI d0) ek ew eo eg ee er ed zz zB zC (va_up kept (xs (x + 1).toNatClampNeg).toNatClampNeg (some (ap 0))) il io ih ct tp bo oF la mS mW xS xW now keeps kM lt tp bo fi fs rd at8 costs ways reach) ++ (W_X1 ca ap (va_cpy hk (fun _ => 0) 0 0 12) (va_cpy hw (fun _ => 0) 0 0 12) (va_cpy ho (fun _ => 0) 0 0 12) (va_cpy hg (fun _ => 0) 0 0 12) (va_cpy he (fun _ => 0) 0 0 12) (va_cpy hr (fun _ => 0) 0 0 12) (va_cpy hd (fun _ => 0) 0 0 40) (nI n0) (nI s0) (nI d0))) := hDj.sub [36, 0, 1, 2, 3, 4, 5, 37, 38, 39, 40, 41, 42, 43, 44, 6, 7, 8, 9, 10, 11, 12, 13, 45, 14, 15, 16, 17, 18, 19, 20, 21, 22, 23, 24, 25, 26, 27, 28, 29, 30, 31, 32, 33, 34, 35, 46, 47, 48, 49, 50, 51, 52, 53] (by decide) rfl
      have hPp : va_P D vwCl (W_X1 ca ap (va_cpy hk (fun _ => 0) 0 0 12) (va_cpy hw (fun _ => 0) 0 0 12) (va_cpy ho (fun _ => 0) 0 0 12) (va_cpy hg (fun _ => 0) 0 0 12) (va_cpy he (fun _ => 0) 0 0 12) (va_cpy hr (fun _ => 0) 0 0 12) (va_cpy hd (fun _ => 0) 0 0 40) (nI n0) (nI s0) (nI d0)) H1 := hPj.subM [46, 47, 48, 49, 50, 51, 52, 53] rfl
      have hDp : va_D A (dm (LL a aR aT aH aD aK aI aC aS aY a8 ++ aL8 ap)) := dm_of hDn rfl
      have hDl : va_D A (WL ca a aR aT aH aD aK aI aC aS aY a8 lt rs rc tS tc hk hw ho hg he hr hd (nI n0) (nI s0) (nI d0) ek ew eo eg ee er ed zz zB zC (va_up kept (xs (x + 1).toNatClampNeg).toNatClampNeg (some (ap 0))) il io ih ct tp bo oF la mS mW xS xW now keeps kM lt tp bo fi fs rd at8 costs ways reach) := hDn.sub [0, 1, 2, 3, 4, 5, 6, 7, 8, 9, 10, 11, 12, 13, 14, 15, 16, 17, 18, 19, 20, 21, 22, 23, 24, 25, 26, 27, 28, 29, 30, 31, 32, 33, 34, 35, 36, 37, 38, 39, 40, 41, 42, 43, 44, 45] (by decide) rfl
      have hnew : ∀ q ∈ aL8 ap, Hh.size ≤ q := by
        intro q hq
        have hDq : va_D (va_A ((W_X7 a aR aT aH aD aK aI aC aS aY lt) ++ (W_X1 ca aH hk hw ho hg he hr hd (nI n0) (nI s0) (nI d0)) ++ (W_K ca aK kept)) Hh.size) (W_X1 ca ap (va_cpy hk (fun _ => 0) 0 0 12) (va_cpy hw (fun _ => 0) 0 0 12) (va_cpy ho (fun _ => 0) 0 0 12) (va_cpy hg (fun _ => 0) 0 0 12) (va_cpy he (fun _ => 0) 0 0 12) (va_cpy hr (fun _ => 0) 0 0 12) (va_cpy hd (fun _ => 0) 0 0 40) (nI n0) (nI s0) (nI d0)) := hD1.sub [10, 11, 12, 13, 14, 15, 16, 17] (by decide) rfl
        rcases dm_in (dm_of hDq rfl : va_D _ (dm (aL8 ap))) hq with ⟨kq, eq_, h⟩ | h
        · obtain ⟨i, e9, -, h2, h3⟩ := adr_in (ws := WL ca a aR aT aH aD aK aI aC aS aY a8 lt rs rc tS tc hk hw ho hg he hr hd (nI n0) (nI s0) (nI d0) ek ew eo eg ee er ed zz zB zC kept il io ih ct tp bo oF la mS mW xS xW now keeps kM lt tp bo fi fs rd at8 costs ways reach) (wc := (W_X7 a aR aT aH aD aK aI aC aS aY lt) ++ (W_X1 ca aH hk hw ho hg he hr hd (nI n0) (nI s0) (nI d0)) ++ (W_K ca aK kept)) [0, 7, 8, 9, 10, 11, 12, 13, 14, 23] rfl (List.mem_map.mpr ⟨(q, eq_), List.mem_of_getElem? h, rfl⟩ : q ∈ ((W_X7 a aR aT aH aD aK aI aC aS aY lt) ++ (W_X1 ca aH hk hw ho hg he hr hd (nI n0) (nI s0) (nI d0)) ++ (W_K ca aK kept) : va_W).map Prod.fst)
          exact absurd (List.mem_map.mpr ⟨e9, List.mem_of_getElem? h2, h3⟩ : q ∈ (WL ca a aR aT aH aD aK aI aC aS aY a8 lt rs rc tS tc hk hw ho hg he hr hd (nI n0) (nI s0) (nI d0) ek ew eo eg ee er ed zz zB zC kept il io ih ct tp bo oF la mS mW xS xW now keeps kM lt tp bo fi fs rd at8 costs ways reach : va_W).map Prod.fst) (dm_apart hDp hq)
        · exact h
      have hKA1 : KRelA D ca A (LL a aR aT aH aD aK aI aC aS aY a8) ad kept kM keeps H1 := by
        refine hKA.frame1 fun q hq hn => hk1 q hq fun h => ?_
        rcases h with ⟨kq, eq_, h⟩ | h
        · obtain ⟨i, e9, -, h2, h3⟩ := adr_in (ws := WL ca a aR aT aH aD aK aI aC aS aY a8 lt rs rc tS tc hk hw ho hg he hr hd (nI n0) (nI s0) (nI d0) ek ew eo eg ee er ed zz zB zC kept il io ih ct tp bo oF la mS mW xS xW now keeps kM lt tp bo fi fs rd at8 costs ways reach) (wc := (W_X7 a aR aT aH aD aK aI aC aS aY lt) ++ (W_X1 ca aH hk hw ho hg he hr hd (nI n0) (nI s0) (nI d0)) ++ (W_K ca aK kept)) [0, 7, 8, 9, 10, 11, 12, 13, 14, 23] rfl (List.mem_map.mpr ⟨(q, eq_), List.mem_of_getElem? h, rfl⟩ : q ∈ ((W_X7 a aR aT aH aD aK aI aC aS aY lt) ++ (W_X1 ca aH hk hw ho hg he hr hd (nI n0) (nI s0) (nI d0)) ++ (W_K ca aK kept) : va_W).map Prod.fst)
          exact hn (List.mem_map.mpr ⟨e9, List.mem_of_getElem? h2, h3⟩ : q ∈ (WL ca a aR aT aH aD aK aI aC aS aY a8 lt rs rc tS tc hk hw ho hg he hr hd (nI n0) (nI s0) (nI d0) ek ew eo eg ee er ed zz zB zC kept il io ih ct tp bo oF la mS mW xS xW now keeps kM lt tp bo fi fs rd at8 costs ways reach : va_W).map Prod.fst)
        · omega
      have hold : ∀ i, i < 3 → i ≠ j → ¬ kept i = none → va_D A (dm (aL8 (ad i) ++ aL8 ap)) := by
        intro i hi ei hni
        rcases hKA.1 i hi with ⟨h, -⟩ | ⟨-, -, c9, d9⟩
        · exact absurd h hni
        · exact dm_fresh (dm_left c9) (dm_left hDp) d9.lt hnew
      have hKR := hKA1
      have hP := hPn
      have hD := hDl
      have hsb := (e_mkeep hPh.2.2.1.1 hPh.2.1.1 hn0 keeps kM hj (fun a' keeps' kM' => r7 = a' ∧ keeps' = va_cpy now keeps 0 (115 * j) 115 ∧ kM' = upd kM j 1)).mpr ⟨hwr.trans hPh.2.2.2.2.2.1.symm, rfl, rfl⟩
      rw [← hjv] at hsb
      clear hPj hDj hP1 hD1 hPn hDl hk1 hz1 hFc hPc hDc
      refine lv_aload_n hx hb dL_law_743 rfl (lv_at hl 2 rfl) ?_
      refine lv_aload_n hx hb dL_law_744 rfl (lv_at hl 0 rfl) ?_
      refine lv_iload_n hx hb dL_law_745 rfl (lv_at hl 3 rfl) ?_
      refine lv_iconst (v := (1)) hx hb dL_law_746 (by decide) ?_
      refine lv_iadd hx hb dL_law_747 ?_
      refine va_sld hx hb hX hbl hbA hS h1 dL_law_748 ?_
      have hc := c_X8_keep l D ca a8 mS mW xS xW now keeps kM lt tp bo fi fs rd at8 costs ways reach (xs (x + 1).toNatClampNeg) _ (hD.subM [33, 34, 35, 36, 37, 38, 39, 40, 41, 42, 43, 44, 45] (by decide) rfl) hsb
      refine wr_calliK (ws1 := fun zu => WL ca a aR aT aH aD aK aI aC aS aY a8 lt rs rc tS tc hk hw ho hg he hr hd (nI n0) (nI s0) (nI d0) ek ew eo eg ee er ed zz zB zC (va_up kept (xs (x + 1).toNatClampNeg).toNatClampNeg (some (ap 0))) il io ih ct tp bo oF la mS mW xS xW now (zu.1) (zu.2) lt tp bo fi fs rd at8 costs ways reach) (wr := ([0, 1, 2, 3, 4, 5, 6, 7, 8, 9, 10, 11, 12, 13, 14, 15, 16, 17, 18, 19, 20, 21, 22, 23, 24, 25, 26, 27, 28, 29, 30, 31, 32] : List Nat).filterMap (fun zi => (WL ca a aR aT aH aD aK aI aC aS aY a8 lt rs rc tS tc hk hw ho hg he hr hd (nI n0) (nI s0) (nI d0) ek ew eo eg ee er ed zz zB zC (va_up kept (xs (x + 1).toNatClampNeg).toNatClampNeg (some (ap 0))) il io ih ct tp bo oF la mS mW xS xW now keeps kM lt tp bo fi fs rd at8 costs ways reach : va_W)[zi]?)) (n := 46) (va_runV (As := [.int ((xs (x + 1).toNatClampNeg))]) (rest := [.int r7]) ⟨hx, hb, hml, hown, hts⟩ hc (cwV 1 hts gL_law_X8_keep rfl rfl rfl (by decide +kernel) ⟨Nat.le_of_ble_eq_true rfl, Nat.le_of_ble_eq_true rfl⟩) (PcX.preV (q := (RX8, TX8, 17)) (ci := 7) (q0 := 33) hK hP rfl rfl (hP.subM [33, 34, 35, 36, 37, 38, 39, 40, 41, 42, 43, 44, 45] rfl)) rfl rfl hl.1 rfl (lv_room (Nat.le_of_ble_eq_true rfl)) dL_law_749 hf8) hP hD hS [33, 34, 35, 36, 37, 38, 39, 40, 41, 42, 43, 44, 45] [0, 1, 2, 3, 4, 5, 6, 7, 8, 9, 10, 11, 12, 13, 14, 15, 16, 17, 18, 19, 20, 21, 22, 23, 24, 25, 26, 27, 28, 29, 30, 31, 32] rfl (fun _ => rfl) rfl (fun _ => rfl) (fun _ => rfl) (fun _ => rfl) (by decide +kernel) (by decide +kernel) (fun r8 zu H1 locs1 hp hP1 hD1 hS1 hk1 => ?_)
      obtain ⟨keeps_8, kM_8⟩ := zu
      try dsimp only at hp
      have hkf := hk1
      have hPp := hPp.kept (fun kq q hq => hkf _ ((hPp kq q hq).lt) (dm_apart hDp (List.mem_map.mpr ⟨q, List.mem_of_getElem? hq, rfl⟩ : q.1 ∈ (W_X1 ca ap (va_cpy hk (fun _ => 0) 0 0 12) (va_cpy hw (fun _ => 0) 0 0 12) (va_cpy ho (fun _ => 0) 0 0 12) (va_cpy hg (fun _ => 0) 0 0 12) (va_cpy he (fun _ => 0) 0 0 12) (va_cpy hr (fun _ => 0) 0 0 12) (va_cpy hd (fun _ => 0) 0 0 40) (nI n0) (nI s0) (nI d0)).map Prod.fst)))
      have hKR := hKR.frame hkf
      have hP : va_P D vwCl (WL ca a aR aT aH aD aK aI aC aS aY a8 lt rs rc tS tc hk hw ho hg he hr hd (nI n0) (nI s0) (nI d0) ek ew eo eg ee er ed zz zB zC (va_up kept (xs (x + 1).toNatClampNeg).toNatClampNeg (some (ap 0))) il io ih ct tp bo oF la mS mW xS xW now keeps_8 kM_8 lt tp bo fi fs rd at8 costs ways reach) H1 := hP1
      have hD : va_D A (WL ca a aR aT aH aD aK aI aC aS aY a8 lt rs rc tS tc hk hw ho hg he hr hd (nI n0) (nI s0) (nI d0) ek ew eo eg ee er ed zz zB zC (va_up kept (xs (x + 1).toNatClampNeg).toNatClampNeg (some (ap 0))) il io ih ct tp bo oF la mS mW xS xW now keeps_8 kM_8 lt tp bo fi fs rd at8 costs ways reach) := hD1
      have hS := hS1
      clear hP1 hD1 hS1 hk1
      obtain ⟨hre, hke, hkm⟩ := hp
      subst hke
      subst hkm
      have hkp : ((va_up kept (xs (x + 1).toNatClampNeg).toNatClampNeg (some (ap 0)))) j = some (ap 0) := by show (if j = (xs (x + 1).toNatClampNeg).toNatClampNeg then some (ap 0) else kept j) = some (ap 0); rw [if_pos htn.symm]
      have hKR := hKR.make (kept' := (va_up kept (xs (x + 1).toNatClampNeg).toNatClampNeg (some (ap 0)))) hold (fun i ei => by show (if i = (xs (x + 1).toNatClampNeg).toNatClampNeg then some (ap 0) else kept i) = kept i; rw [if_neg (fun z => ei (z.trans htn))]) hkp (kM' := upd kM j 1) (fun i ei => by show (if i = j then (1 : Int32) else kM i) = kM i; rw [if_neg ei]) (by show ¬ (if j = j then (1 : Int32) else kM j) = 0; rw [if_pos rfl]; decide) (keeps' := va_cpy now keeps 0 (115 * j) 115) (fun i x9 ei hx9 => cpy_out j i x9 ei hx9 now keeps) hDp ((HQ.cpy hQ0).ext (fun x9 hx9 => cpy_in j x9 hx9 now keeps)) hPp
      refine lv_icmp_eq (tgt := 1265) hx hb dL_law_752 (by decide) (fun _ => ?_) (fun hne => absurd hre hne)
      exact W.widen (Nat.le_refl _) (Nat.add_le_add_left (by decide) _) (kk _ _ ⟨_, _, _, _, _, _, _, _, _, _, _, _, _, _, _, _, _, _, _, _, _, _, _, _, _, _, _, _, _, _, _, _, _, _, _, _, _, _, _, _, _, _, _, _, _, _, _, _, hP, hD, ⟨_, h6⟩, ⟨_, h4s⟩, hT, ⟨n0, s0, d0, h0, rfl, rfl, rfl, hPh⟩, hKR⟩ hS)
    · have hsb := s_keepB (hQ0) hz0 kept keeps kM pk pw po pg pe pr pd ps pb pc_ hj hs
      rw [← hjv] at hsb
      have hP2 : va_P D vwCl ((WL ca a aR aT aH aD aK aI aC aS aY a8 lt rs rc tS tc hk hw ho hg he hr hd (nI n0) (nI s0) (nI d0) ek ew eo eg ee er ed zz zB zC kept il io ih ct tp bo oF la mS mW xS xW now keeps kM lt tp bo fi fs rd at8 costs ways reach) ++ (W_X1 ca (ad j) pk pw po pg pe pr pd ps pb pc_)) Hh := hP.app hPp
      have hD2 : va_D A ((WL ca a aR aT aH aD aK aI aC aS aY a8 lt rs rc tS tc hk hw ho hg he hr hd (nI n0) (nI s0) (nI d0) ek ew eo eg ee er ed zz zB zC kept il io ih ct tp bo oF la mS mW xS xW now keeps kM lt tp bo fi fs rd at8 costs ways reach) ++ (W_X1 ca (ad j) pk pw po pg pe pr pd ps pb pc_)) := dm_to hDp rfl
      have hc := c_X7_keepB l D ca a aR aT aH aD aK aI aC aS aY (ad j) lt hk hw ho hg he hr hd (nI n0) (nI s0) (nI d0) kept pk pw po pg pe pr pd ps pb pc_ (xs (x + 1).toNatClampNeg) _ (hD2.subM [0, 7, 8, 9, 10, 11, 12, 13, 14, 23, 46, 47, 48, 49, 50, 51, 52, 53] (by decide) rfl) hsb
      refine wr_calliK (ws1 := fun zu => (WL ca a aR aT aH aD aK aI aC aS aY a8 lt rs rc tS tc hk hw ho hg he hr hd (nI n0) (nI s0) (nI d0) ek ew eo eg ee er ed zz zB zC kept il io ih ct tp bo oF la mS mW xS xW now keeps kM lt tp bo fi fs rd at8 costs ways reach) ++ (W_X1 ca (ad j) (zu.1) (zu.2.1) (zu.2.2.1) (zu.2.2.2.1) (zu.2.2.2.2.1) (zu.2.2.2.2.2.1) (zu.2.2.2.2.2.2.1) (zu.2.2.2.2.2.2.2.1) (zu.2.2.2.2.2.2.2.2.1) (zu.2.2.2.2.2.2.2.2.2))) (wr := ([1, 2, 3, 4, 5, 6, 15, 16, 17, 18, 19, 20, 21, 22, 24, 25, 26, 27, 28, 29, 30, 31, 32, 33, 34, 35, 36, 37, 38, 39, 40, 41, 42, 43, 44, 45] : List Nat).filterMap (fun zi => (((WL ca a aR aT aH aD aK aI aC aS aY a8 lt rs rc tS tc hk hw ho hg he hr hd (nI n0) (nI s0) (nI d0) ek ew eo eg ee er ed zz zB zC kept il io ih ct tp bo oF la mS mW xS xW now keeps kM lt tp bo fi fs rd at8 costs ways reach) ++ (W_X1 ca (ad j) pk pw po pg pe pr pd ps pb pc_)) : va_W)[zi]?)) (n := 54) (va_runV (As := [.int (xs (x + 1).toNatClampNeg)]) (rest := []) ⟨hx, hb, hml, hown, hts⟩ hc (cwV 1 hts gL_law_X7_keep rfl rfl rfl (by decide +kernel) ⟨Nat.le_of_ble_eq_true rfl, Nat.le_of_ble_eq_true rfl⟩) (PcX.preV (q := (RX7, TX7, 10)) (ci := 6) (q0 := 0) hK hP2 rfl rfl (hP2.subM [0, 7, 8, 9, 10, 11, 12, 13, 14, 23, 46, 47, 48, 49, 50, 51, 52, 53] rfl)) rfl rfl hl.1 rfl (lv_room (Nat.le_of_ble_eq_true rfl)) dL_law_740 hf0) hP2 hD2 hS [0, 7, 8, 9, 10, 11, 12, 13, 14, 23, 46, 47, 48, 49, 50, 51, 52, 53] [1, 2, 3, 4, 5, 6, 15, 16, 17, 18, 19, 20, 21, 22, 24, 25, 26, 27, 28, 29, 30, 31, 32, 33, 34, 35, 36, 37, 38, 39, 40, 41, 42, 43, 44, 45] rfl (fun _ => rfl) rfl (fun _ => rfl) (fun _ => rfl) (fun _ => rfl) (by decide +kernel) (by decide +kernel) (fun r7 zu H1 locs1 hp hP1 hD1 hS1 hk1 => ?_)
      obtain ⟨z1, z2, z3, z4, z5, z6, z7, z8, z9, z0⟩ := zu
      try dsimp only at hp
      have hKR := hKA.drop hj (by rw [hs]; exact fun z => nomatch z) hk1
      have hP1 : va_P D vwCl ((WL ca a aR aT aH aD aK aI aC aS aY a8 lt rs rc tS tc hk hw ho hg he hr hd (nI n0) (nI s0) (nI d0) ek ew eo eg ee er ed zz zB zC kept il io ih ct tp bo oF la mS mW xS xW now keeps kM lt tp bo fi fs rd at8 costs ways reach) ++ (W_X1 ca (ad j) z1 z2 z3 z4 z5 z6 z7 z8 z9 z0)) H1 := hP1
      have hPp := hP1.subM (wc := W_X1 ca (ad j) z1 z2 z3 z4 z5 z6 z7 z8 z9 z0) [46, 47, 48, 49, 50, 51, 52, 53] rfl
      have hP : va_P D vwCl (WL ca a aR aT aH aD aK aI aC aS aY a8 lt rs rc tS tc hk hw ho hg he hr hd (nI n0) (nI s0) (nI d0) ek ew eo eg ee er ed zz zB zC kept il io ih ct tp bo oF la mS mW xS xW now keeps kM lt tp bo fi fs rd at8 costs ways reach) H1 := hP1.subM [0, 1, 2, 3, 4, 5, 6, 7, 8, 9, 10, 11, 12, 13, 14, 15, 16, 17, 18, 19, 20, 21, 22, 23, 24, 25, 26, 27, 28, 29, 30, 31, 32, 33, 34, 35, 36, 37, 38, 39, 40, 41, 42, 43, 44, 45] rfl
      have hS := hS1
      clear hP1 hD1 hS1 hk1 hP2 hD2
      refine lv_aload_n hx hb dL_law_743 rfl (lv_at hl 2 rfl) ?_
      refine lv_aload_n hx hb dL_law_744 rfl (lv_at hl 0 rfl) ?_
      refine lv_iload_n hx hb dL_law_745 rfl (lv_at hl 3 rfl) ?_
      refine lv_iconst (v := (1)) hx hb dL_law_746 (by decide) ?_
      refine lv_iadd hx hb dL_law_747 ?_
      refine va_sld hx hb hX hbl hbA hS h1 dL_law_748 ?_
      have hc := c_X8_keep l D ca a8 mS mW xS xW now keeps kM lt tp bo fi fs rd at8 costs ways reach (xs (x + 1).toNatClampNeg) _ (hD.subM [33, 34, 35, 36, 37, 38, 39, 40, 41, 42, 43, 44, 45] (by decide) rfl) hp
      refine wr_calliK (ws1 := fun zu => WL ca a aR aT aH aD aK aI aC aS aY a8 lt rs rc tS tc hk hw ho hg he hr hd (nI n0) (nI s0) (nI d0) ek ew eo eg ee er ed zz zB zC kept il io ih ct tp bo oF la mS mW xS xW now (zu.1) (zu.2) lt tp bo fi fs rd at8 costs ways reach) (wr := ([0, 1, 2, 3, 4, 5, 6, 7, 8, 9, 10, 11, 12, 13, 14, 15, 16, 17, 18, 19, 20, 21, 22, 23, 24, 25, 26, 27, 28, 29, 30, 31, 32] : List Nat).filterMap (fun zi => (WL ca a aR aT aH aD aK aI aC aS aY a8 lt rs rc tS tc hk hw ho hg he hr hd (nI n0) (nI s0) (nI d0) ek ew eo eg ee er ed zz zB zC kept il io ih ct tp bo oF la mS mW xS xW now keeps kM lt tp bo fi fs rd at8 costs ways reach : va_W)[zi]?)) (n := 46) (va_runV (As := [.int ((xs (x + 1).toNatClampNeg))]) (rest := [.int r7]) ⟨hx, hb, hml, hown, hts⟩ hc (cwV 1 hts gL_law_X8_keep rfl rfl rfl (by decide +kernel) ⟨Nat.le_of_ble_eq_true rfl, Nat.le_of_ble_eq_true rfl⟩) (PcX.preV (q := (RX8, TX8, 17)) (ci := 7) (q0 := 33) hK hP rfl rfl (hP.subM [33, 34, 35, 36, 37, 38, 39, 40, 41, 42, 43, 44, 45] rfl)) rfl rfl hl.1 rfl (lv_room (Nat.le_of_ble_eq_true rfl)) dL_law_749 hf0) hP hD hS [33, 34, 35, 36, 37, 38, 39, 40, 41, 42, 43, 44, 45] [0, 1, 2, 3, 4, 5, 6, 7, 8, 9, 10, 11, 12, 13, 14, 15, 16, 17, 18, 19, 20, 21, 22, 23, 24, 25, 26, 27, 28, 29, 30, 31, 32] rfl (fun _ => rfl) rfl (fun _ => rfl) (fun _ => rfl) (fun _ => rfl) (by decide +kernel) (by decide +kernel) (fun r8 zu H1 locs1 hp hP1 hD1 hS1 hk1 => ?_)
      obtain ⟨keeps_8, kM_8⟩ := zu
      try dsimp only at hp
      have hkf := hk1
      have hPp := hPp.kept (fun kq q hq => hkf _ ((hPp kq q hq).lt) (dm_apart hDp (List.mem_map.mpr ⟨q, List.mem_of_getElem? hq, rfl⟩ : q.1 ∈ (W_X1 ca (ad j) z1 z2 z3 z4 z5 z6 z7 z8 z9 z0).map Prod.fst)))
      have hKR := hKR.frame hkf
      have hP : va_P D vwCl (WL ca a aR aT aH aD aK aI aC aS aY a8 lt rs rc tS tc hk hw ho hg he hr hd (nI n0) (nI s0) (nI d0) ek ew eo eg ee er ed zz zB zC kept il io ih ct tp bo oF la mS mW xS xW now keeps_8 kM_8 lt tp bo fi fs rd at8 costs ways reach) H1 := hP1
      have hD : va_D A (WL ca a aR aT aH aD aK aI aC aS aY a8 lt rs rc tS tc hk hw ho hg he hr hd (nI n0) (nI s0) (nI d0) ek ew eo eg ee er ed zz zB zC kept il io ih ct tp bo oF la mS mW xS xW now keeps_8 kM_8 lt tp bo fi fs rd at8 costs ways reach) := hD1
      have hS := hS1
      clear hP1 hD1 hS1 hk1
      obtain ⟨hre, hQp, hcc, hke, hkm⟩ := hp
      subst hkm
      have hKR := hKR.make (kept' := kept) (fun i hi ei hn => hKA.2 i j hi hj ei (fun z => hn (by show (if i = j then none else kept i) = none; rw [if_neg ei]; exact z)) (by rw [hs]; exact fun z => nomatch z)) (fun i ei => (if_neg ei).symm) hs (kM' := upd kM j 1) (fun i ei => by show (if i = j then (1 : Int32) else kM i) = if i = j then 0 else kM i; rw [if_neg ei, if_neg ei]) (by show ¬ (if j = j then (1 : Int32) else kM j) = 0; rw [if_pos rfl]; decide) hke hDp hQp hPp
      refine lv_icmp_eq (tgt := 1265) hx hb dL_law_752 (by decide) (fun _ => ?_) (fun hne => absurd hre hne)
      exact W.widen (Nat.le_add_right _ _) (Nat.le_add_right _ _) (kk _ _ ⟨_, _, _, _, _, _, _, _, _, _, _, _, _, _, _, _, _, _, _, _, _, _, _, _, _, _, _, _, _, _, _, _, _, _, _, _, _, _, _, _, _, _, _, _, _, _, _, _, hP, hD, ⟨_, h6⟩, ⟨_, h4s⟩, hT, ⟨n0, s0, d0, h0, rfl, rfl, rfl, hPh⟩, hKR⟩ hS)
set_option maxHeartbeats 8000000 in
set_option maxRecDepth 100000 in
theorem lw_c17 (l : Launch) (C0 : LawC p s m meth c D ca sa sd A b L xs) (hl : lv_has ls 4 [(0, .ref b), (1, .ref (a 0)), (2, .ref (a8 0)), (3, .int x)]) (h1 : vp_in (x + 1) L) (h2 : vp_in (x + 2) L) (h3 : vp_in (x + 3) L) (h4 : vp_in (x + 4) L) (h5 : vp_in (x + 5) L) (hf0 : cn + 0 ≤ room_1.cells ∧ sn + 0 ≤ room_1.slots) (hf8 : cn + 8 ≤ room_1.cells ∧ sn + 122 ≤ room_1.slots) (kk : LwG p l e s m below meth c Q A b ls (Inv D ca A a aR aT aH aD aK aI aC aS aY a8) (cn + 8) (sn + 130) 1265) : LwG p l e s m below meth c Q A b ls (Inv D ca A a aR aT aH aD aK aI aC aS aY a8) cn sn 757 := by
  obtain ⟨hx, hb, hr, hml, hown, hts, hX, hbl, hbA, hA, hK, hSX⟩ := C0
  intro Hh locs hI hS
  obtain ⟨lt, rs, rc, tS, tc, hk, hw, ho, hg, he, hr, hd, sz, sB, dC, ek, ew, eo, eg, ee, er, ed, zz, zB, zC, kept, il, io, ih, ct, tp, bo, oF, la, mS, mW, xS, xW, now, keeps, kM, fi, fs, rd, at8, costs, ways, reach, hP, hD, ⟨m6, h6⟩, ⟨m4, h4s⟩, hT, hQ, hKR⟩ := hI
  obtain ⟨n0, s0, d0, h0, rfl, rfl, rfl, hPh⟩ := hQ
  refine lv_aload_n hx hb dL_law_757 rfl (lv_at hl 1 rfl) ?_
  refine lv_aload_n hx hb dL_law_758 rfl (lv_at hl 0 rfl) ?_
  refine lv_iload_n hx hb dL_law_759 rfl (lv_at hl 3 rfl) ?_
  refine lv_iconst (v := (1)) hx hb dL_law_760 (by decide) ?_
  refine lv_iadd hx hb dL_law_761 ?_
  refine va_sld hx hb hX hbl hbA hS h1 dL_law_762 ?_
  have hQ0 : HQ hk hw ho hg he hr hd (nI n0) (nI s0) (nI d0) now := ⟨n0, s0, d0, h0, rfl, rfl, rfl, hPh⟩
  by_cases hbad : (xs (x + 1).toNatClampNeg) < 0 ∨ nI 3 ≤ (xs (x + 1).toNatClampNeg) ∨ ∃ j : Nat, j < 3 ∧ (xs (x + 1).toNatClampNeg) = nI j ∧ kept j = none ∧ kM j = 0
  · have hc := c_X7_onA l D ca a aR aT aH aD aK aI aC aS aY lt hk hw ho hg he hr hd (nI n0) (nI s0) (nI d0) kept oF la (xs (x + 1).toNatClampNeg) _ (hD.subM [0, 7, 8, 9, 10, 11, 12, 13, 14, 23, 31, 32] (by decide) rfl) (s_onA hQ0 hT kept keeps kM (xs (x + 1).toNatClampNeg) hbad)
    refine wr_calliK (ws1 := fun zu => WL ca a aR aT aH aD aK aI aC aS aY a8 lt rs rc tS tc hk hw ho hg he hr hd (nI n0) (nI s0) (nI d0) ek ew eo eg ee er ed zz zB zC kept il io ih ct tp bo (zu.1) (zu.2) mS mW xS xW now keeps kM lt tp bo fi fs rd at8 costs ways reach) (wr := ([1, 2, 3, 4, 5, 6, 15, 16, 17, 18, 19, 20, 21, 22, 24, 25, 26, 27, 28, 29, 30, 33, 34, 35, 36, 37, 38, 39, 40, 41, 42, 43, 44, 45] : List Nat).filterMap (fun zi => (WL ca a aR aT aH aD aK aI aC aS aY a8 lt rs rc tS tc hk hw ho hg he hr hd (nI n0) (nI s0) (nI d0) ek ew eo eg ee er ed zz zB zC kept il io ih ct tp bo oF la mS mW xS xW now keeps kM lt tp bo fi fs rd at8 costs ways reach : va_W)[zi]?)) (n := 46) (va_runV (As := [.int (xs (x + 1).toNatClampNeg)]) (rest := []) ⟨hx, hb, hml, hown, hts⟩ hc (cwV 1 hts gL_law_X7_on rfl rfl rfl (by decide +kernel) ⟨Nat.le_of_ble_eq_true rfl, Nat.le_of_ble_eq_true rfl⟩) (PcX.preV (q := (RX7, TX7, 10)) (ci := 6) (q0 := 0) hK hP rfl rfl (hP.subM [0, 7, 8, 9, 10, 11, 12, 13, 14, 23, 31, 32] rfl)) rfl rfl hl.1 rfl (lv_room (Nat.le_of_ble_eq_true rfl)) dL_law_763 hf0) hP hD hS [0, 7, 8, 9, 10, 11, 12, 13, 14, 23, 31, 32] [1, 2, 3, 4, 5, 6, 15, 16, 17, 18, 19, 20, 21, 22, 24, 25, 26, 27, 28, 29, 30, 33, 34, 35, 36, 37, 38, 39, 40, 41, 42, 43, 44, 45] rfl (fun _ => rfl) rfl (fun _ => rfl) (fun _ => rfl) (fun _ => rfl) (by decide +kernel) (by decide +kernel) (fun r7 zu H1 locs1 hp hP1 hD1 hS1 hk1 => ?_)
    obtain ⟨oF_7, la_7⟩ := zu
    try dsimp only at hp
    have hKR := hKR.frame hk1
    have hP : va_P D vwCl (WL ca a aR aT aH aD aK aI aC aS aY a8 lt rs rc tS tc hk hw ho hg he hr hd (nI n0) (nI s0) (nI d0) ek ew eo eg ee er ed zz zB zC kept il io ih ct tp bo oF_7 la_7 mS mW xS xW now keeps kM lt tp bo fi fs rd at8 costs ways reach) H1 := hP1
    have hD : va_D A (WL ca a aR aT aH aD aK aI aC aS aY a8 lt rs rc tS tc hk hw ho hg he hr hd (nI n0) (nI s0) (nI d0) ek ew eo eg ee er ed zz zB zC kept il io ih ct tp bo oF_7 la_7 mS mW xS xW now keeps kM lt tp bo fi fs rd at8 costs ways reach) := hD1
    have hS := hS1
    clear hP1 hD1 hS1 hk1
    refine lv_aload_n hx hb dL_law_766 rfl (lv_at hl 2 rfl) ?_
    refine lv_aload_n hx hb dL_law_767 rfl (lv_at hl 0 rfl) ?_
    refine lv_iload_n hx hb dL_law_768 rfl (lv_at hl 3 rfl) ?_
    refine lv_iconst (v := (1)) hx hb dL_law_769 (by decide) ?_
    refine lv_iadd hx hb dL_law_770 ?_
    refine va_sld hx hb hX hbl hbA hS h1 dL_law_771 ?_
    have hc := c_X8_on l D ca a8 mS mW xS xW now keeps kM lt tp bo fi fs rd at8 costs ways reach (xs (x + 1).toNatClampNeg) _ (hD.subM [33, 34, 35, 36, 37, 38, 39, 40, 41, 42, 43, 44, 45] (by decide) rfl) hp
    refine wr_calliK (ws1 := fun zu => WL ca a aR aT aH aD aK aI aC aS aY a8 lt rs rc tS tc hk hw ho hg he hr hd (nI n0) (nI s0) (nI d0) ek ew eo eg ee er ed zz zB zC kept il io ih ct tp bo oF_7 la_7 mS mW xS xW (zu.1) keeps kM lt tp bo (zu.2.1) (zu.2.2) rd at8 costs ways reach) (wr := ([0, 1, 2, 3, 4, 5, 6, 7, 8, 9, 10, 11, 12, 13, 14, 15, 16, 17, 18, 19, 20, 21, 22, 23, 24, 25, 26, 27, 28, 29, 30, 31, 32] : List Nat).filterMap (fun zi => (WL ca a aR aT aH aD aK aI aC aS aY a8 lt rs rc tS tc hk hw ho hg he hr hd (nI n0) (nI s0) (nI d0) ek ew eo eg ee er ed zz zB zC kept il io ih ct tp bo oF_7 la_7 mS mW xS xW now keeps kM lt tp bo fi fs rd at8 costs ways reach : va_W)[zi]?)) (n := 46) (va_runV (As := [.int ((xs (x + 1).toNatClampNeg))]) (rest := [.int r7]) ⟨hx, hb, hml, hown, hts⟩ hc (cwV 1 hts gL_law_X8_on rfl rfl rfl (by decide +kernel) ⟨Nat.le_of_ble_eq_true rfl, Nat.le_of_ble_eq_true rfl⟩) (PcX.preV (q := (RX8, TX8, 17)) (ci := 7) (q0 := 33) hK hP rfl rfl (hP.subM [33, 34, 35, 36, 37, 38, 39, 40, 41, 42, 43, 44, 45] rfl)) rfl rfl hl.1 rfl (lv_room (Nat.le_of_ble_eq_true rfl)) dL_law_772 hf0) hP hD hS [33, 34, 35, 36, 37, 38, 39, 40, 41, 42, 43, 44, 45] [0, 1, 2, 3, 4, 5, 6, 7, 8, 9, 10, 11, 12, 13, 14, 15, 16, 17, 18, 19, 20, 21, 22, 23, 24, 25, 26, 27, 28, 29, 30, 31, 32] rfl (fun _ => rfl) rfl (fun _ => rfl) (fun _ => rfl) (fun _ => rfl) (by decide +kernel) (by decide +kernel) (fun r8 zu H1 locs1 hp hP1 hD1 hS1 hk1 => ?_)
    obtain ⟨now_8, fi_8, fs_8⟩ := zu
    try dsimp only at hp
    have hKR := hKR.frame hk1
    have hP : va_P D vwCl (WL ca a aR aT aH aD aK aI aC aS aY a8 lt rs rc tS tc hk hw ho hg he hr hd (nI n0) (nI s0) (nI d0) ek ew eo eg ee er ed zz zB zC kept il io ih ct tp bo oF_7 la_7 mS mW xS xW now_8 keeps kM lt tp bo fi_8 fs_8 rd at8 costs ways reach) H1 := hP1
    have hD : va_D A (WL ca a aR aT aH aD aK aI aC aS aY a8 lt rs rc tS tc hk hw ho hg he hr hd (nI n0) (nI s0) (nI d0) ek ew eo eg ee er ed zz zB zC kept il io ih ct tp bo oF_7 la_7 mS mW xS xW now_8 keeps kM lt tp bo fi_8 fs_8 rd at8 costs ways reach) := hD1
    have hS := hS1
    clear hP1 hD1 hS1 hk1
    obtain ⟨hre, hnw, hT⟩ := hp
    have hQ : HQ hk hw ho hg he hr hd (nI n0) (nI s0) (nI d0) now_8 := by rw [hnw]; exact hQ0
    refine lv_icmp_eq (tgt := 1265) hx hb dL_law_775 (by decide) (fun _ => ?_) (fun hne => absurd hre hne)
    exact W.widen (Nat.le_add_right _ _) (Nat.le_add_right _ _) (kk _ _ ⟨_, _, _, _, _, _, _, _, _, _, _, _, _, _, _, _, _, _, _, _, _, _, _, _, _, _, _, _, _, _, _, _, _, _, _, _, _, _, _, _, _, _, _, _, _, _, _, _, hP, hD, ⟨_, h6⟩, ⟨_, h4s⟩, hT, hQ, hKR⟩ hS)
  · obtain ⟨j, hj, hjv⟩ := vp_in_of (in3 (fun z => hbad (Or.inl z)) (fun z => hbad (Or.inr (Or.inl z)))) (by decide)
    obtain ⟨ad, hKA⟩ := hKR.told
    rcases hKA.1 j hj with ⟨hn, hmn⟩ | ⟨hs, hm, hDp, pk, pw, po, pg, pe, pr, pd, ps, pb, pc_, hQp, hPp⟩
    · exact absurd (Or.inr (Or.inr ⟨j, hj, hjv, hn, hmn⟩)) hbad
    · have hsb := s_onB hQ0 hT kept keeps kM pk pw po pg pe pr pd ps pb pc_ hj hs hm hQp
      rw [← hjv] at hsb
      have hP2 : va_P D vwCl ((WL ca a aR aT aH aD aK aI aC aS aY a8 lt rs rc tS tc hk hw ho hg he hr hd (nI n0) (nI s0) (nI d0) ek ew eo eg ee er ed zz zB zC kept il io ih ct tp bo oF la mS mW xS xW now keeps kM lt tp bo fi fs rd at8 costs ways reach) ++ (W_X1 ca (ad j) pk pw po pg pe pr pd ps pb pc_)) Hh := hP.app hPp
      have hD2 : va_D A ((WL ca a aR aT aH aD aK aI aC aS aY a8 lt rs rc tS tc hk hw ho hg he hr hd (nI n0) (nI s0) (nI d0) ek ew eo eg ee er ed zz zB zC kept il io ih ct tp bo oF la mS mW xS xW now keeps kM lt tp bo fi fs rd at8 costs ways reach) ++ (W_X1 ca (ad j) pk pw po pg pe pr pd ps pb pc_)) := dm_to hDp rfl
      have hc := c_X7_onB l D ca a aR aT aH aD aK aI aC aS aY (ad j) lt hk hw ho hg he hr hd (nI n0) (nI s0) (nI d0) kept oF la pk pw po pg pe pr pd ps pb pc_ (xs (x + 1).toNatClampNeg) _ (hD2.subM [0, 7, 8, 9, 10, 11, 12, 13, 14, 23, 31, 32, 46, 47, 48, 49, 50, 51, 52, 53] (by decide) rfl) hsb
      refine wr_calliK (ws1 := fun zu => (WL ca a aR aT aH aD aK aI aC aS aY a8 lt rs rc tS tc (zu.1) (zu.2.1) (zu.2.2.1) (zu.2.2.2.1) (zu.2.2.2.2.1) (zu.2.2.2.2.2.1) (zu.2.2.2.2.2.2.1) (zu.2.2.2.2.2.2.2.1) (zu.2.2.2.2.2.2.2.2.1) (zu.2.2.2.2.2.2.2.2.2) ek ew eo eg ee er ed zz zB zC kept il io ih ct tp bo oF la mS mW xS xW now keeps kM lt tp bo fi fs rd at8 costs ways reach) ++ (W_X1 ca (ad j) pk pw po pg pe pr pd ps pb pc_)) (wr := ([1, 2, 3, 4, 5, 6, 15, 16, 17, 18, 19, 20, 21, 22, 24, 25, 26, 27, 28, 29, 30, 33, 34, 35, 36, 37, 38, 39, 40, 41, 42, 43, 44, 45] : List Nat).filterMap (fun zi => (((WL ca a aR aT aH aD aK aI aC aS aY a8 lt rs rc tS tc hk hw ho hg he hr hd (nI n0) (nI s0) (nI d0) ek ew eo eg ee er ed zz zB zC kept il io ih ct tp bo oF la mS mW xS xW now keeps kM lt tp bo fi fs rd at8 costs ways reach) ++ (W_X1 ca (ad j) pk pw po pg pe pr pd ps pb pc_)) : va_W)[zi]?)) (n := 54) (va_runV (As := [.int (xs (x + 1).toNatClampNeg)]) (rest := []) ⟨hx, hb, hml, hown, hts⟩ hc (cwV 1 hts gL_law_X7_on rfl rfl rfl (by decide +kernel) ⟨Nat.le_of_ble_eq_true rfl, Nat.le_of_ble_eq_true rfl⟩) (PcX.preV (q := (RX7, TX7, 10)) (ci := 6) (q0 := 0) hK hP2 rfl rfl (hP2.subM [0, 7, 8, 9, 10, 11, 12, 13, 14, 23, 31, 32, 46, 47, 48, 49, 50, 51, 52, 53] rfl)) rfl rfl hl.1 rfl (lv_room (Nat.le_of_ble_eq_true rfl)) dL_law_763 hf0) hP2 hD2 hS [0, 7, 8, 9, 10, 11, 12, 13, 14, 23, 31, 32, 46, 47, 48, 49, 50, 51, 52, 53] [1, 2, 3, 4, 5, 6, 15, 16, 17, 18, 19, 20, 21, 22, 24, 25, 26, 27, 28, 29, 30, 33, 34, 35, 36, 37, 38, 39, 40, 41, 42, 43, 44, 45] rfl (fun _ => rfl) rfl (fun _ => rfl) (fun _ => rfl) (fun _ => rfl) (by decide +kernel) (by decide +kernel) (fun r7 zu H1 locs1 hp hP1 hD1 hS1 hk1 => ?_)
      obtain ⟨z1, z2, z3, z4, z5, z6, z7, z8, z9, z0⟩ := zu
      try dsimp only at hp
      have hP1 : va_P D vwCl ((WL ca a aR aT aH aD aK aI aC aS aY a8 lt rs rc tS tc z1 z2 z3 z4 z5 z6 z7 z8 z9 z0 ek ew eo eg ee er ed zz zB zC kept il io ih ct tp bo oF la mS mW xS xW now keeps kM lt tp bo fi fs rd at8 costs ways reach) ++ (W_X1 ca (ad j) pk pw po pg pe pr pd ps pb pc_)) H1 := hP1
      have hD1 : va_D A ((WL ca a aR aT aH aD aK aI aC aS aY a8 lt rs rc tS tc z1 z2 z3 z4 z5 z6 z7 z8 z9 z0 ek ew eo eg ee er ed zz zB zC kept il io ih ct tp bo oF la mS mW xS xW now keeps kM lt tp bo fi fs rd at8 costs ways reach) ++ (W_X1 ca (ad j) pk pw po pg pe pr pd ps pb pc_)) := hD1
      have hPp := hP1.subM (wc := W_X1 ca (ad j) pk pw po pg pe pr pd ps pb pc_) [46, 47, 48, 49, 50, 51, 52, 53] rfl
      have hKR := (hKA.keep hj (by rw [hs]; exact fun z => nomatch z) hk1 ⟨pk, pw, po, pg, pe, pr, pd, ps, pb, pc_, hQp, hPp⟩).close
      have hP : va_P D vwCl (WL ca a aR aT aH aD aK aI aC aS aY a8 lt rs rc tS tc z1 z2 z3 z4 z5 z6 z7 z8 z9 z0 ek ew eo eg ee er ed zz zB zC kept il io ih ct tp bo oF la mS mW xS xW now keeps kM lt tp bo fi fs rd at8 costs ways reach) H1 := hP1.subM [0, 1, 2, 3, 4, 5, 6, 7, 8, 9, 10, 11, 12, 13, 14, 15, 16, 17, 18, 19, 20, 21, 22, 23, 24, 25, 26, 27, 28, 29, 30, 31, 32, 33, 34, 35, 36, 37, 38, 39, 40, 41, 42, 43, 44, 45] rfl
      have hD : va_D A (WL ca a aR aT aH aD aK aI aC aS aY a8 lt rs rc tS tc z1 z2 z3 z4 z5 z6 z7 z8 z9 z0 ek ew eo eg ee er ed zz zB zC kept il io ih ct tp bo oF la mS mW xS xW now keeps kM lt tp bo fi fs rd at8 costs ways reach) := hD1.sub [0, 1, 2, 3, 4, 5, 6, 7, 8, 9, 10, 11, 12, 13, 14, 15, 16, 17, 18, 19, 20, 21, 22, 23, 24, 25, 26, 27, 28, 29, 30, 31, 32, 33, 34, 35, 36, 37, 38, 39, 40, 41, 42, 43, 44, 45] (by decide) rfl
      have hS := hS1
      clear hP1 hD1 hS1 hk1 hP2 hD2
      refine lv_aload_n hx hb dL_law_766 rfl (lv_at hl 2 rfl) ?_
      refine lv_aload_n hx hb dL_law_767 rfl (lv_at hl 0 rfl) ?_
      refine lv_iload_n hx hb dL_law_768 rfl (lv_at hl 3 rfl) ?_
      refine lv_iconst (v := (1)) hx hb dL_law_769 (by decide) ?_
      refine lv_iadd hx hb dL_law_770 ?_
      refine va_sld hx hb hX hbl hbA hS h1 dL_law_771 ?_
      have hc := c_X8_on l D ca a8 mS mW xS xW now keeps kM lt tp bo fi fs rd at8 costs ways reach (xs (x + 1).toNatClampNeg) _ (hD.subM [33, 34, 35, 36, 37, 38, 39, 40, 41, 42, 43, 44, 45] (by decide) rfl) hp
      refine wr_calliK (ws1 := fun zu => WL ca a aR aT aH aD aK aI aC aS aY a8 lt rs rc tS tc z1 z2 z3 z4 z5 z6 z7 z8 z9 z0 ek ew eo eg ee er ed zz zB zC kept il io ih ct tp bo oF la mS mW xS xW (zu.1) keeps kM lt tp bo (zu.2.1) (zu.2.2) rd at8 costs ways reach) (wr := ([0, 1, 2, 3, 4, 5, 6, 7, 8, 9, 10, 11, 12, 13, 14, 15, 16, 17, 18, 19, 20, 21, 22, 23, 24, 25, 26, 27, 28, 29, 30, 31, 32] : List Nat).filterMap (fun zi => (WL ca a aR aT aH aD aK aI aC aS aY a8 lt rs rc tS tc z1 z2 z3 z4 z5 z6 z7 z8 z9 z0 ek ew eo eg ee er ed zz zB zC kept il io ih ct tp bo oF la mS mW xS xW now keeps kM lt tp bo fi fs rd at8 costs ways reach : va_W)[zi]?)) (n := 46) (va_runV (As := [.int ((xs (x + 1).toNatClampNeg))]) (rest := [.int r7]) ⟨hx, hb, hml, hown, hts⟩ hc (cwV 1 hts gL_law_X8_on rfl rfl rfl (by decide +kernel) ⟨Nat.le_of_ble_eq_true rfl, Nat.le_of_ble_eq_true rfl⟩) (PcX.preV (q := (RX8, TX8, 17)) (ci := 7) (q0 := 33) hK hP rfl rfl (hP.subM [33, 34, 35, 36, 37, 38, 39, 40, 41, 42, 43, 44, 45] rfl)) rfl rfl hl.1 rfl (lv_room (Nat.le_of_ble_eq_true rfl)) dL_law_772 hf0) hP hD hS [33, 34, 35, 36, 37, 38, 39, 40, 41, 42, 43, 44, 45] [0, 1, 2, 3, 4, 5, 6, 7, 8, 9, 10, 11, 12, 13, 14, 15, 16, 17, 18, 19, 20, 21, 22, 23, 24, 25, 26, 27, 28, 29, 30, 31, 32] rfl (fun _ => rfl) rfl (fun _ => rfl) (fun _ => rfl) (fun _ => rfl) (by decide +kernel) (by decide +kernel) (fun r8 zu H1 locs1 hp hP1 hD1 hS1 hk1 => ?_)
      obtain ⟨now_8, fi_8, fs_8⟩ := zu
      try dsimp only at hp
      have hKR := hKR.frame hk1
      have hP : va_P D vwCl (WL ca a aR aT aH aD aK aI aC aS aY a8 lt rs rc tS tc z1 z2 z3 z4 z5 z6 z7 z8 z9 z0 ek ew eo eg ee er ed zz zB zC kept il io ih ct tp bo oF la mS mW xS xW now_8 keeps kM lt tp bo fi_8 fs_8 rd at8 costs ways reach) H1 := hP1
      have hD : va_D A (WL ca a aR aT aH aD aK aI aC aS aY a8 lt rs rc tS tc z1 z2 z3 z4 z5 z6 z7 z8 z9 z0 ek ew eo eg ee er ed zz zB zC kept il io ih ct tp bo oF la mS mW xS xW now_8 keeps kM lt tp bo fi_8 fs_8 rd at8 costs ways reach) := hD1
      have hS := hS1
      clear hP1 hD1 hS1 hk1
      obtain ⟨hre, hQ, hf1, hf2⟩ := hp
      have hT : TL oF la fs_8 fi_8 := by rw [hf1, hf2]; exact hT
      refine lv_icmp_eq (tgt := 1265) hx hb dL_law_775 (by decide) (fun _ => ?_) (fun hne => absurd hre hne)
      exact W.widen (Nat.le_add_right _ _) (Nat.le_add_right _ _) (kk _ _ ⟨_, _, _, _, _, _, _, _, _, _, _, _, _, _, _, _, _, _, _, _, _, _, _, _, _, _, _, _, _, _, _, _, _, _, _, _, _, _, _, _, _, _, _, _, _, _, _, _, hP, hD, ⟨_, h6⟩, ⟨_, h4s⟩, hT, hQ, hKR⟩ hS)
end LWC
