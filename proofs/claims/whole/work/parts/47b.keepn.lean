/-! keep, where nothing was kept yet: a new heap -/
def rm_X7_keepN : Room := { frames := 2, cells := 8, slots := 122, locals := 61 }
theorem k_X7_keepN_1 : Cond.fieldLink RX7 24 "IronedQuarrels" "heap" "LIronedQuarrels$Heap;" ∈ wsX7_keep := List.mem_of_getElem? (i := 1) (by decide +kernel)
theorem k_X7_keepN_2 : Cond.fieldLink RX7 31 "IronedQuarrels" "kept" "[LIronedQuarrels$Heap;" ∈ wsX7_keep := List.mem_of_getElem? (i := 2) (by decide +kernel)
theorem k_X7_keepN_3 : Cond.classLink RX7 21 RX1 ∈ wsX7_keep := List.mem_of_getElem? (i := 3) (by decide +kernel)
theorem k_X7_keepN_4 : Cond.instantiable RX1 10 ∈ wsX7_keep := List.mem_of_getElem? (i := 4) (by decide +kernel)
theorem k_X7_keepN_5 : Cond.initialized RX1 ∈ wsX7_keep := List.mem_of_getElem? (i := 5) (by decide +kernel)
theorem k_X7_keepN_11 : Cond.instanceMethod yX1_init ∈ wsX7_keep := List.mem_of_getElem? (i := 11) (by decide +kernel)
theorem hi_X7_keepN_X1 : ∀ w ∈ wsX10, w ∈ wsX7_keep := fun w h => List.mem_cons_of_mem _ (List.mem_append_right _ h)
theorem hi_X7_keepN_X7 : ∀ w ∈ wsX70, w ∈ wsX7_keep := fun w h => List.mem_cons_of_mem _ (List.mem_append_left _ (List.mem_append_right _ h))
set_option maxHeartbeats 8000000 in
set_option maxRecDepth 100000 in
theorem c_X7_keepN (l : Launch) (D : va_G) (ca : Nat → ClassId) (a aR aT aH aD : Nat → Nat) (aK : Nat) (aI aC aS aY : Nat → Nat) (sz : Nat) (lastTold : Int32) (kinds whos toWhoms topics weights answered deeds : Nat → Int32) (size saidBits deedCount : Int32) (kept : Nat → Option Nat) (k : Int32) (hi : vp_in k 3) (hn : kept k.toNatClampNeg = none) (hz : ¬ size = 0) : Met l yX7_keep wsX7_keep rm_X7_keepN (PcI eT D ca sz [.ref (a 0), .int k] ((W_X7 a aR aT aH aD aK aI aC aS aY lastTold) ++ (W_X1 ca aH kinds whos toWhoms topics weights answered deeds size saidBits deedCount) ++ (W_K ca aK kept))) (va_Qi (fun (zr : Int32) (_ : Nat → Nat) => zr = deedCount) (fun ap zt => va_P D vwCl ((W_X7 a aR aT aH aD aK aI aC aS aY lastTold) ++ (W_X1 ca aH kinds whos toWhoms topics weights answered deeds size saidBits deedCount) ++ (W_K ca aK (va_up kept k.toNatClampNeg (some (ap 0)))) ++ (W_X1 ca ap (va_cpy kinds (fun _ => 0) 0 0 12) (va_cpy whos (fun _ => 0) 0 0 12) (va_cpy toWhoms (fun _ => 0) 0 0 12) (va_cpy topics (fun _ => 0) 0 0 12) (va_cpy weights (fun _ => 0) 0 0 12) (va_cpy answered (fun _ => 0) 0 0 12) (va_cpy deeds (fun _ => 0) 0 0 40) size saidBits deedCount)) zt.heap ∧ va_D (va_A ((W_X7 a aR aT aH aD aK aI aC aS aY lastTold) ++ (W_X1 ca aH kinds whos toWhoms topics weights answered deeds size saidBits deedCount) ++ (W_K ca aK kept)) sz) ((W_X7 a aR aT aH aD aK aI aC aS aY lastTold) ++ (W_X1 ca aH kinds whos toWhoms topics weights answered deeds size saidBits deedCount) ++ (W_K ca aK (va_up kept k.toNatClampNeg (some (ap 0)))) ++ (W_X1 ca ap (va_cpy kinds (fun _ => 0) 0 0 12) (va_cpy whos (fun _ => 0) 0 0 12) (va_cpy toWhoms (fun _ => 0) 0 0 12) (va_cpy topics (fun _ => 0) 0 0 12) (va_cpy weights (fun _ => 0) 0 0 12) (va_cpy answered (fun _ => 0) 0 0 12) (va_cpy deeds (fun _ => 0) 0 0 40) size saidBits deedCount))) (va_A ((W_X7 a aR aT aH aD aK aI aC aS aY lastTold) ++ (W_X1 ca aH kinds whos toWhoms topics weights answered deeds size saidBits deedCount) ++ (W_K ca aK kept)) sz)) 8 122 (va_A ((W_X7 a aR aT aH aD aK aI aC aS aY lastTold) ++ (W_X1 ca aH kinds whos toWhoms topics weights answered deeds size saidBits deedCount) ++ (W_K ca aK kept)) sz) := by
  have h0 : ¬ k < 0 := fun z => hi (Or.inl z)
  have h3 : k < 3 := by obtain ⟨j, hj, rfl⟩ := vp_in_of hi (by decide); exact nI_lt (b := 3) hj (by decide)
  refine Met.ofW (cc := cX7_keep) (maxL := 3) (ret := (some .int)) (by decide) rfl ?_
  intro zp ze zs zm za zb zt zc z1 B hml hv
  obtain ⟨rfl, hsz, hP, hK, hD0, -⟩ := hv
  have hx := B.exec
  have hb := B.bytes
  have hr := B.returns
  have hts := atoms_spec (ws := wsX7_keep) B.pre
  have hown : zs.vm.findClass RX7 = some zm.cls := findClass_of_methodNamed B.named
  have hlocks := B.notSynchronized
  subst hsz
  have hD := hD0.self (sz := zs.heap.size)
  generalize hAe : va_A ((W_X7 a aR aT aH aD aK aI aC aS aY lastTold) ++ (W_X1 ca aH kinds whos toWhoms topics weights answered deeds size saidBits deedCount) ++ (W_K ca aK kept)) zs.heap.size = A at hD ⊢
  have hA : ∀ q : Nat, zs.heap.size ≤ q → A q := fun q h => by rw [← hAe]; exact Or.inr h
  have hS : va_S A zs.heap zs.heap [] := va_S.rf
  have hl := lv_entry ([.ref (a 0), .int k]) (n := 3) (Nat.le_of_ble_eq_true rfl)
  rw [lg_entry_eq]
  generalize (lg_sl ([.ref (a 0), .int k]) ++ List.replicate (3 - (lg_sl ([.ref (a 0), .int k])).length) Slot.unset).toArray = ls at hl ⊢
  replace hl : lv_has ls 3 [(0, .ref (a 0)), (1, .int k)] := hl
  show W zp l ze rm_X7_keepN zs zm ([.ref (a 0), .int k] : List Value).toArray zb zt zc zs.heap [] 0 0 (MQ zb (va_Qi (fun (zr : Int32) (_ : Nat → Nat) => zr = deedCount) (fun ap zt => va_P D vwCl ((W_X7 a aR aT aH aD aK aI aC aS aY lastTold) ++ (W_X1 ca aH kinds whos toWhoms topics weights answered deeds size saidBits deedCount) ++ (W_K ca aK (va_up kept k.toNatClampNeg (some (ap 0)))) ++ (W_X1 ca ap (va_cpy kinds (fun _ => 0) 0 0 12) (va_cpy whos (fun _ => 0) 0 0 12) (va_cpy toWhoms (fun _ => 0) 0 0 12) (va_cpy topics (fun _ => 0) 0 0 12) (va_cpy weights (fun _ => 0) 0 0 12) (va_cpy answered (fun _ => 0) 0 0 12) (va_cpy deeds (fun _ => 0) 0 0 40) size saidBits deedCount)) zt.heap ∧ va_D A ((W_X7 a aR aT aH aD aK aI aC aS aY lastTold) ++ (W_X1 ca aH kinds whos toWhoms topics weights answered deeds size saidBits deedCount) ++ (W_K ca aK (va_up kept k.toNatClampNeg (some (ap 0)))) ++ (W_X1 ca ap (va_cpy kinds (fun _ => 0) 0 0 12) (va_cpy whos (fun _ => 0) 0 0 12) (va_cpy toWhoms (fun _ => 0) 0 0 12) (va_cpy topics (fun _ => 0) 0 0 12) (va_cpy weights (fun _ => 0) 0 0 12) (va_cpy answered (fun _ => 0) 0 0 12) (va_cpy deeds (fun _ => 0) 0 0 40) size saidBits deedCount))) A) ([.ref (a 0), .int k] : List Value).toArray zs 8 122 A) (F0 zm 0 ls [])
  refine lv_iload_n hx hb dX7_keep_0 rfl (lv_at hl 1 rfl) ?_
  refine lv_if_lt (tgt := 9) hx hb dX7_keep_1 (by decide) (fun hc => absurd hc h0) (fun _ => ?_)
  refine lv_iload_n hx hb dX7_keep_4 rfl (lv_at hl 1 rfl) ?_
  refine lv_iconst (v := (3)) hx hb dX7_keep_5 (by decide) ?_
  refine lv_icmp_lt (tgt := 11) hx hb dX7_keep_6 (by decide) (fun _ => ?_) (fun hc => absurd h3 hc)
  refine lv_aload_n hx hb dX7_keep_11 rfl (lv_at hl 0 rfl) ?_
  refine va_get (D := D) (ci := 6) (v := .ref (aH 0)) (C := RX7) (T := TX7) (N := 10) hx hb hts hi_X7_keepN_X7 hown hK.1 hP 0 rfl rfl 2 (by decide) (hts _ k_X7_keepN_1) (fun _ h9 => h9) rfl dX7_keep_12 ?_
  refine rd_calli (va_runV (As := []) (rest := []) ⟨hx, hb, hml, hown, hts⟩ (c_X1_howMany l D ca aH kinds whos toWhoms topics weights answered deeds size saidBits deedCount (fun zr => zr = size) rfl) (cwV 0 hts gX7_keep_X1_howMany rfl rfl rfl (by decide +kernel) ⟨Nat.le_of_ble_eq_true rfl, Nat.le_of_ble_eq_true rfl⟩) (PcX.preV (q := (RX1, TX1, 10)) (ci := 1) (q0 := 1) hK hP rfl rfl (hP.subM [1, 2, 3, 4, 5, 6, 7, 8] rfl)) rfl rfl hl.1 rfl (lv_room (Nat.le_of_ble_eq_true rfl)) dX7_keep_15 ⟨Nat.le_of_ble_eq_true rfl, Nat.le_of_ble_eq_true rfl⟩) (fun r hr0 => ?_)
  subst hr0
  refine lv_if_ne (tgt := 24) hx hb dX7_keep_18 (by decide) (fun _ => ?_) (fun hc => absurd hc hz)
  refine lv_aload_n hx hb dX7_keep_24 rfl (lv_at hl 0 rfl) ?_
  refine va_get (D := D) (ci := 6) (v := .ref aK) (C := RX7) (T := TX7) (N := 10) hx hb hts hi_X7_keepN_X7 hown hK.1 hP 0 rfl rfl 4 (by decide) (hts _ k_X7_keepN_2) (fun _ h9 => h9) rfl dX7_keep_25 ?_
  refine lv_iload_n hx hb dX7_keep_28 rfl (lv_at hl 1 rfl) ?_
  refine x_aldq hx hb hK hP 9 rfl hi dX7_keep_29 ?_
  rw [hn]
  refine lv_astore_n (lv' := [(2, .null), (0, .ref (a 0)), (1, .int k)]) hx hb dX7_keep_30 rfl hl (by decide) rfl (fun ls hl => ?_)
  refine lv_aload_n hx hb dX7_keep_31 rfl (lv_at hl 0 rfl) ?_
  refine lv_ifnonnullN hx hb dX7_keep_32 ?_
  refine va_new (ci := 1) (fs := [.null, .null, .null, .null, .null, .null, .null, .int 0, .int 0, .int 0]) (C := RX1) (T := TX1) (N := 10) hx hb hts hi_X7_keepN_X1 tyX1 tyX1_ok hown (hts _ k_X7_keepN_3) (hts _ k_X7_keepN_4) (hts _ k_X7_keepN_5) hK.1 hP hD hS hA rfl (fun j hj => by rcases (show j = 0 ∨ j = 1 ∨ j = 2 ∨ j = 3 ∨ j = 4 ∨ j = 5 ∨ j = 6 ∨ j = 7 ∨ j = 8 ∨ j = 9 by omega) with rfl | rfl | rfl | rfl | rfl | rfl | rfl | rfl | rfl | rfl <;> rfl) (Nat.le_of_ble_eq_true rfl) (Nat.le_of_ble_eq_true rfl) dX7_keep_35 (fun q35 H hP hD hS => ?_)
  have hP : va_P D vwCl ((W_X7 a aR aT aH aD aK aI aC aS aY lastTold) ++ (W_X1 ca aH kinds whos toWhoms topics weights answered deeds size saidBits deedCount) ++ (W_K ca aK kept) ++ ([(q35, .inr (1, [.null, .null, .null, .null, .null, .null, .null, .int 0, .int 0, .int 0]))])) H := hP
  have hD : va_D A ((W_X7 a aR aT aH aD aK aI aC aS aY lastTold) ++ (W_X1 ca aH kinds whos toWhoms topics weights answered deeds size saidBits deedCount) ++ (W_K ca aK kept) ++ ([(q35, .inr (1, [.null, .null, .null, .null, .null, .null, .null, .int 0, .int 0, .int 0]))])) := hD
  refine W.widen (k := 1) (n := 10) (Nat.le_of_ble_eq_true rfl) (Nat.le_of_ble_eq_true rfl) ?_
  refine lv_dup hx hb dX7_keep_38 rfl ?_
  have hPc := hP.sub (ws' := [(q35, .inr (1, [.null, .null, .null, .null, .null, .null, .null, .int 0, .int 0, .int 0]))]) [10] rfl
  have hDc := hD.sub (ws' := [(q35, .inr (1, [.null, .null, .null, .null, .null, .null, .null, .int 0, .int 0, .int 0]))]) [10] (by decide) rfl
  have hFc := va_free (wc := [(q35, .inr (1, [.null, .null, .null, .null, .null, .null, .null, .int 0, .int 0, .int 0]))]) hD hS hA [10] rfl
  refine va_callv (va_runIN (As := []) (rest := [.ref q35]) ⟨hx, hb, hml, hown, hts⟩ (c_X1_init l D ca q35 H.size) ⟨va_cnB 0 hts gX7_keep_X1_init_n23 rfl rfl rfl (hK.2 (RX7, 23, yX1_init, "IronedQuarrels") (List.mem_of_getElem? (i := 0) rfl)) (hts _ k_X7_keepN_5) (by decide +kernel) ⟨Nat.le_of_ble_eq_true rfl, Nat.le_of_ble_eq_true rfl⟩, rfl, (hts _ k_X7_keepN_11)⟩ (PcI.preS eT.moved trivial hK hPc hDc.any) rfl rfl hl.1 rfl (lv_room (Nat.le_of_ble_eq_true rfl)) dX7_keep_39 ⟨Nat.le_of_ble_eq_true rfl, Nat.le_of_ble_eq_true rfl⟩) hS (fun q _ h => hFc q h) hFc (fun zu t H1 locs ht hvm hw hB hz1 hk1 hS => ?_)
  obtain ⟨ap, rfl⟩ : ∃ zz, zz = zu := ⟨zu, rfl⟩
  obtain ⟨hP1, hD1⟩ := hB
  rw [ht] at hP1
  try dsimp only at hw
  have hP1 : va_P D vwCl (W_X1 ca ap (fun _ => 0) (fun _ => 0) (fun _ => 0) (fun _ => 0) (fun _ => 0) (fun _ => 0) (fun _ => 0) 0 0 0) H1 := hP1
  have hD1 : va_D (va_A ([(q35, .inr (1, [.null, .null, .null, .null, .null, .null, .null, .int 0, .int 0, .int 0]))]) H.size) (W_X1 ca ap (fun _ => 0) (fun _ => 0) (fun _ => 0) (fun _ => 0) (fun _ => 0) (fun _ => 0) (fun _ => 0) 0 0 0) := hD1
  obtain ⟨hP, hD⟩ := va_join (wr := (W_X7 a aR aT aH aD aK aI aC aS aY lastTold) ++ (W_X1 ca aH kinds whos toWhoms topics weights answered deeds size saidBits deedCount) ++ (W_K ca aK kept)) (w1 := W_X1 ca ap (fun _ => 0) (fun _ => 0) (fun _ => 0) (fun _ => 0) (fun _ => 0) (fun _ => 0) (fun _ => 0) 0 0 0) hP hD [10] [0, 1, 2, 3, 4, 5, 6, 7, 8, 9] rfl rfl (by decide) (by decide) hk1 hFc hP1 hD1
  subst hw
  clear hPc hDc hFc hP1 hD1 hk1 hz1
  generalize H1 = H at hP hS ⊢
  have hP : va_P D vwCl ((W_X7 a aR aT aH aD aK aI aC aS aY lastTold) ++ (W_X1 ca aH kinds whos toWhoms topics weights answered deeds size saidBits deedCount) ++ (W_K ca aK kept) ++ (W_X1 ca ap (fun _ => 0) (fun _ => 0) (fun _ => 0) (fun _ => 0) (fun _ => 0) (fun _ => 0) (fun _ => 0) 0 0 0)) H := hP
  have hD : va_D A ((W_X7 a aR aT aH aD aK aI aC aS aY lastTold) ++ (W_X1 ca aH kinds whos toWhoms topics weights answered deeds size saidBits deedCount) ++ (W_K ca aK kept) ++ (W_X1 ca ap (fun _ => 0) (fun _ => 0) (fun _ => 0) (fun _ => 0) (fun _ => 0) (fun _ => 0) (fun _ => 0) 0 0 0)) := hD
  refine W.widen (k := 8) (n := 122) (Nat.le_of_ble_eq_true rfl) (Nat.le_of_ble_eq_true rfl) ?_
  refine lv_astore_n (lv' := [(2, .ref (ap 0)), (0, .ref (a 0)), (1, .int k)]) hx hb dX7_keep_42 rfl hl (by decide) rfl (fun ls hl => ?_)
  refine lv_aload_n hx hb dX7_keep_43 rfl (lv_at hl 1 rfl) ?_
  refine va_get (D := D) (ci := 6) (v := .ref aK) (C := RX7) (T := TX7) (N := 10) hx hb hts hi_X7_keepN_X7 hown hK.1 hP 0 rfl rfl 4 (by decide) (hts _ k_X7_keepN_2) (fun _ h9 => h9) rfl dX7_keep_44 ?_
  refine lv_iload_n hx hb dX7_keep_47 rfl (lv_at hl 2 rfl) ?_
  refine lv_aload_n hx hb dX7_keep_48 rfl (lv_at hl 0 rfl) ?_
  refine va_astq (r := (RX1, TX1, 10)) hx hb hK.1 hP hD hS 9 3 10 1 rfl rfl rfl rfl hi dX7_keep_49 (fun H locs hP hD hS => ?_)
  have hP : va_P D vwCl ((W_X7 a aR aT aH aD aK aI aC aS aY lastTold) ++ (W_X1 ca aH kinds whos toWhoms topics weights answered deeds size saidBits deedCount) ++ (W_K ca aK (va_up kept k.toNatClampNeg (some (ap 0)))) ++ (W_X1 ca ap (fun _ => 0) (fun _ => 0) (fun _ => 0) (fun _ => 0) (fun _ => 0) (fun _ => 0) (fun _ => 0) 0 0 0)) H := hP
  have hD : va_D A ((W_X7 a aR aT aH aD aK aI aC aS aY lastTold) ++ (W_X1 ca aH kinds whos toWhoms topics weights answered deeds size saidBits deedCount) ++ (W_K ca aK (va_up kept k.toNatClampNeg (some (ap 0)))) ++ (W_X1 ca ap (fun _ => 0) (fun _ => 0) (fun _ => 0) (fun _ => 0) (fun _ => 0) (fun _ => 0) (fun _ => 0) 0 0 0)) := hD
  refine lv_aload_n hx hb dX7_keep_50 rfl (lv_at hl 0 rfl) ?_
  refine lv_aload_n hx hb dX7_keep_51 rfl (lv_at hl 1 rfl) ?_
  refine va_get (D := D) (ci := 6) (v := .ref (aH 0)) (C := RX7) (T := TX7) (N := 10) hx hb hts hi_X7_keepN_X7 hown hK.1 hP 0 rfl rfl 2 (by decide) (hts _ k_X7_keepN_1) (fun _ h9 => h9) rfl dX7_keep_52 ?_
  refine wr_callv (ws1 := fun zu => (W_X7 a aR aT aH aD aK aI aC aS aY lastTold) ++ (W_X1 ca aH kinds whos toWhoms topics weights answered deeds size saidBits deedCount) ++ (W_K ca aK (va_up kept k.toNatClampNeg (some (ap 0)))) ++ (W_X1 ca ap zu.1 zu.2.1 zu.2.2.1 zu.2.2.2.1 zu.2.2.2.2.1 zu.2.2.2.2.2.1 zu.2.2.2.2.2.2.1 zu.2.2.2.2.2.2.2.1 zu.2.2.2.2.2.2.2.2.1 zu.2.2.2.2.2.2.2.2.2)) (wr := ([0, 9] : List Nat).filterMap (fun zi => ((W_X7 a aR aT aH aD aK aI aC aS aY lastTold) ++ (W_X1 ca aH kinds whos toWhoms topics weights answered deeds size saidBits deedCount) ++ (W_K ca aK (va_up kept k.toNatClampNeg (some (ap 0)))) ++ (W_X1 ca ap (fun _ => 0) (fun _ => 0) (fun _ => 0) (fun _ => 0) (fun _ => 0) (fun _ => 0) (fun _ => 0) 0 0 0) : va_W)[zi]?)) (n := 18) (va_runV (As := [.ref (aH 0)]) (rest := []) ⟨hx, hb, hml, hown, hts⟩ (c_X1_becomeLike l D ca ap aH (fun _ => 0) (fun _ => 0) (fun _ => 0) (fun _ => 0) (fun _ => 0) (fun _ => 0) (fun _ => 0) 0 0 0 kinds whos toWhoms topics weights answered deeds size saidBits deedCount (fun z1 z2 z3 z4 z5 z6 z7 z8 z9 z0 => z1 = va_cpy kinds (fun _ => 0) 0 0 12 ∧ z2 = va_cpy whos (fun _ => 0) 0 0 12 ∧ z3 = va_cpy toWhoms (fun _ => 0) 0 0 12 ∧ z4 = va_cpy topics (fun _ => 0) 0 0 12 ∧ z5 = va_cpy weights (fun _ => 0) 0 0 12 ∧ z6 = va_cpy answered (fun _ => 0) 0 0 12 ∧ z7 = va_cpy deeds (fun _ => 0) 0 0 40 ∧ z8 = size ∧ z9 = saidBits ∧ z0 = deedCount) (hD.subM [10, 11, 12, 13, 14, 15, 16, 17, 1, 2, 3, 4, 5, 6, 7, 8] (by decide) rfl) ⟨rfl, rfl, rfl, rfl, rfl, rfl, rfl, rfl, rfl, rfl⟩) (cwV 1 hts gX7_keep_X1_becomeLike rfl rfl rfl (by decide +kernel) ⟨Nat.le_of_ble_eq_true rfl, Nat.le_of_ble_eq_true rfl⟩) (PcX.preV (q := (RX1, TX1, 10)) (ci := 1) (q0 := 10) hK hP rfl rfl (hP.subM [10, 11, 12, 13, 14, 15, 16, 17, 1, 2, 3, 4, 5, 6, 7, 8] rfl)) rfl rfl hl.1 rfl (lv_room (Nat.le_of_ble_eq_true rfl)) dX7_keep_55 ⟨Nat.le_of_ble_eq_true rfl, Nat.le_of_ble_eq_true rfl⟩) hP hD hS [10, 11, 12, 13, 14, 15, 16, 17, 1, 2, 3, 4, 5, 6, 7, 8] [0, 9] rfl (fun _ => rfl) rfl (fun _ => rfl) (fun _ => rfl) (fun _ => rfl) (by decide +kernel) (by decide +kernel) (fun zu H locs h hP hD hS => ?_)
  obtain ⟨z1, z2, z3, z4, z5, z6, z7, z8, z9, z0⟩ := zu
  dsimp only at h
  obtain ⟨rfl, rfl, rfl, rfl, rfl, rfl, rfl, rfl, rfl, rfl⟩ := h
  have hP : va_P D vwCl ((W_X7 a aR aT aH aD aK aI aC aS aY lastTold) ++ (W_X1 ca aH kinds whos toWhoms topics weights answered deeds size saidBits deedCount) ++ (W_K ca aK (va_up kept k.toNatClampNeg (some (ap 0)))) ++ (W_X1 ca ap (va_cpy kinds (fun _ => 0) 0 0 12) (va_cpy whos (fun _ => 0) 0 0 12) (va_cpy toWhoms (fun _ => 0) 0 0 12) (va_cpy topics (fun _ => 0) 0 0 12) (va_cpy weights (fun _ => 0) 0 0 12) (va_cpy answered (fun _ => 0) 0 0 12) (va_cpy deeds (fun _ => 0) 0 0 40) size saidBits deedCount)) H := hP
  have hD : va_D A ((W_X7 a aR aT aH aD aK aI aC aS aY lastTold) ++ (W_X1 ca aH kinds whos toWhoms topics weights answered deeds size saidBits deedCount) ++ (W_K ca aK (va_up kept k.toNatClampNeg (some (ap 0)))) ++ (W_X1 ca ap (va_cpy kinds (fun _ => 0) 0 0 12) (va_cpy whos (fun _ => 0) 0 0 12) (va_cpy toWhoms (fun _ => 0) 0 0 12) (va_cpy topics (fun _ => 0) 0 0 12) (va_cpy weights (fun _ => 0) 0 0 12) (va_cpy answered (fun _ => 0) 0 0 12) (va_cpy deeds (fun _ => 0) 0 0 40) size saidBits deedCount)) := hD
  refine lv_aload_n hx hb dX7_keep_58 rfl (lv_at hl 1 rfl) ?_
  refine va_get (D := D) (ci := 6) (v := .ref (aH 0)) (C := RX7) (T := TX7) (N := 10) hx hb hts hi_X7_keepN_X7 hown hK.1 hP 0 rfl rfl 2 (by decide) (hts _ k_X7_keepN_1) (fun _ h9 => h9) rfl dX7_keep_59 ?_
  refine rd_calli (va_runV (As := []) (rest := []) ⟨hx, hb, hml, hown, hts⟩ (c_X1_howManyDeeds l D ca aH kinds whos toWhoms topics weights answered deeds size saidBits deedCount (fun zr => zr = deedCount) rfl) (cwV 0 hts gX7_keep_X1_howManyDeeds rfl rfl rfl (by decide +kernel) ⟨Nat.le_of_ble_eq_true rfl, Nat.le_of_ble_eq_true rfl⟩) (PcX.preV (q := (RX1, TX1, 10)) (ci := 1) (q0 := 1) hK hP rfl rfl (hP.subM [1, 2, 3, 4, 5, 6, 7, 8] rfl)) rfl rfl hl.1 rfl (lv_room (Nat.le_of_ble_eq_true rfl)) dX7_keep_62 ⟨Nat.le_of_ble_eq_true rfl, Nat.le_of_ble_eq_true rfl⟩) (fun r hr0 => ?_)
  subst hr0
  exact W.iret (v := r) hx hb hr (fun zt ht hW => ⟨⟨r, ap, rfl, rfl, by rw [ht]; exact hP, hD⟩, hS.F ht⟩) hS.2.2 dX7_keep_65
