-- IronedQuarrels$Company.suspects(LIronedQuarrels$Heap;I)I
def wb_X0_suspects_37 (heap_toWhoms : Nat → Int32) (i : Int32) (post : Int32 → Prop) (x3 : Int32) : Prop :=
  wp_X1_toWhomOf heap_toWhoms i (fun r3 => wp_X7_bit r3 (fun r4 => post (x3 &&& (r4 ^^^ (-1 : Int32)))))
def wp_X0_suspects (heap_whos : Nat → Int32) (heap_toWhoms : Nat → Int32) (heap_answered : Nat → Int32) (heap_size : Int32) (i : Int32) (post : Int32 → Prop) : Prop :=
  wp_X1_answeredBy heap_answered i (fun r1 => wp_X1_hasNumber heap_size r1 (fun r2 => (r2 = 0 → (wb_X0_suspects_37 heap_toWhoms i post (63 : Int32))) ∧ (¬ r2 = 0 → (wp_X1_toldAhead heap_toWhoms i (fun r5 => wp_X1_whoOf heap_whos r1 (fun r6 => wp_X7_bit r6 (fun r7 => wb_X0_suspects_37 heap_toWhoms i post (r5 &&& (r7 ^^^ (-1 : Int32))))))))))
def rm_X0_suspects : Room := { frames := 2, cells := 0, slots := 0, locals := 43 }
theorem k_X0_suspects_17 : Cond.static yX7_bit ∈ wsX0_suspects := List.mem_of_getElem? (i := 17) (by decide +kernel)
theorem k_X0_suspects_18 : Cond.initialized RX7 ∈ wsX0_suspects := List.mem_of_getElem? (i := 18) (by decide +kernel)
theorem hi_X0_suspects_X1 : ∀ w ∈ wsX10, w ∈ wsX0_suspects := fun w h => List.mem_cons_of_mem _ (List.mem_append_right _ h)
set_option maxHeartbeats 4000000 in
set_option maxRecDepth 100000 in
theorem c_X0_suspects (l : Launch) (D : va_G) (ca : Nat → ClassId) (a : Nat → Nat) (a_heap : Nat → Nat) (this_tells : Nat → Int32) (heap_kinds : Nat → Int32) (heap_whos : Nat → Int32) (heap_toWhoms : Nat → Int32) (heap_topics : Nat → Int32) (heap_weights : Nat → Int32) (heap_answered : Nat → Int32) (heap_deeds : Nat → Int32) (heap_size : Int32) (heap_saidBits : Int32) (heap_deedCount : Int32) (i : Int32) (post : Int32 → Prop) (h : wp_X0_suspects heap_whos heap_toWhoms heap_answered heap_size i post) : Met l yX0_suspects wsX0_suspects rm_X0_suspects (PcX D ca [.ref (a 0), .ref (a_heap 0), .int i] ((W_X0 ca a this_tells) ++ (W_X1 ca a_heap heap_kinds heap_whos heap_toWhoms heap_topics heap_weights heap_answered heap_deeds heap_size heap_saidBits heap_deedCount))) (rdI post) 0 0 (fun _ => False) := by
  refine Met.ofW (cc := cX0_suspects) (maxL := 5) (ret := (some .int)) (by decide) rfl ?_
  intro zp ze zs zm za zb zt zc z1 B hml hv
  obtain ⟨rfl, hP, hK⟩ := hv
  have hx := B.exec
  have hb := B.bytes
  have hr := B.returns
  have hts := atoms_spec (ws := wsX0_suspects) B.pre
  have hown : zs.vm.findClass RX0 = some zm.cls := findClass_of_methodNamed B.named
  have hlocks := B.notSynchronized
  have hl := lv_entry ([.ref (a 0), .ref (a_heap 0), .int i]) (n := 5) (Nat.le_of_ble_eq_true rfl)
  rw [lg_entry_eq]
  generalize (lg_sl ([.ref (a 0), .ref (a_heap 0), .int i]) ++ List.replicate (5 - (lg_sl ([.ref (a 0), .ref (a_heap 0), .int i])).length) Slot.unset).toArray = ls at hl ⊢
  replace hl : lv_has ls 5 [(0, .ref (a 0)), (1, .ref (a_heap 0)), (2, .int i)] := hl
  show W zp l ze rm_X0_suspects zs zm ([.ref (a 0), .ref (a_heap 0), .int i] : List Value).toArray zb zt zc zs.heap [] 0 0 (MQ zb (rdI post) ([.ref (a 0), .ref (a_heap 0), .int i] : List Value).toArray zs 0 0 (fun _ => False)) (F0 zm 0 ls [])
  have w_37 : ∀ (x3 : Int32), wb_X0_suspects_37 heap_toWhoms i post x3 → ∀ ls : Array Slot, lv_has ls 5 [(1, .ref (a_heap 0)), (2, .int i), (3, .int x3)] → W zp l ze rm_X0_suspects zs zm ([.ref (a 0), .ref (a_heap 0), .int i] : List Value).toArray zb zt zc zs.heap [] 0 0 (MQ zb (rdI post) ([.ref (a 0), .ref (a_heap 0), .int i] : List Value).toArray zs 0 0 (fun _ => False)) (F0 zm 37 ls []) := by
    intro x3 h ls hl
    unfold wb_X0_suspects_37 at h
    refine lv_iload_n hx hb dX0_suspects_37 rfl (lv_at hl 2 rfl) ?_
    refine lv_aload_n hx hb dX0_suspects_38 rfl (lv_at hl 0 rfl) ?_
    refine lv_iload_n hx hb dX0_suspects_39 rfl (lv_at hl 1 rfl) ?_
    refine rd_calli (va_runV (As := [.int i]) (rest := [.int x3]) ⟨hx, hb, hml, hown, hts⟩ (c_X1_toWhomOf l D ca a_heap heap_kinds heap_whos heap_toWhoms heap_topics heap_weights heap_answered heap_deeds heap_size heap_saidBits heap_deedCount i _ h) (cwV 1 hts gX0_suspects_X1_toWhomOf rfl rfl rfl (by decide +kernel) ⟨Nat.le_of_ble_eq_true rfl, Nat.le_of_ble_eq_true rfl⟩) (PcX.preV (q := (RX1, TX1, 10)) (ci := 1) (q0 := 2) hK hP rfl rfl (hP.subM [2, 3, 4, 5, 6, 7, 8, 9] rfl)) rfl rfl hl.1 rfl (lv_room (Nat.le_of_ble_eq_true rfl)) dX0_suspects_40 ⟨Nat.le_of_ble_eq_true rfl, Nat.le_of_ble_eq_true rfl⟩) (fun r3 h => ?_)
    try dsimp only at h
    refine rd_calli (va_runSN (As := [.int r3]) (rest := [.int x3]) ⟨hx, hb, hml, hown, hts⟩ (c_X7_bit l D ca   r3 _ h) ⟨va_cnB 1 hts gX0_suspects_X7_bit_n31 rfl rfl rfl (hK.2 (RX0, 31, yX7_bit, "IronedQuarrels") (List.mem_of_getElem? (i := 7) rfl)) (hts _ k_X0_suspects_18) (by decide +kernel) ⟨Nat.le_of_ble_eq_true rfl, Nat.le_of_ble_eq_true rfl⟩, hts _ k_X0_suspects_17, trivial⟩ (PcX.preS hK (fun k q h => by simp at h)) rfl rfl hl.1 rfl (lv_room (Nat.le_of_ble_eq_true rfl)) dX0_suspects_43 ⟨Nat.le_of_ble_eq_true rfl, Nat.le_of_ble_eq_true rfl⟩) (fun r4 h => ?_)
    try dsimp only at h
    refine lv_iconst (v := (-1)) hx hb dX0_suspects_46 (by decide) ?_
    refine lv_ixor hx hb dX0_suspects_47 ?_
    refine lv_iand hx hb dX0_suspects_48 ?_
    exact W.iret (v := x3 &&& (r4 ^^^ (-1 : Int32))) hx hb hr (fun t ht hW => ⟨x3 &&& (r4 ^^^ (-1 : Int32)), rfl, h, ht⟩) (fun q hq => absurd hq List.not_mem_nil) dX0_suspects_49
  unfold wp_X0_suspects at h
  refine lv_bipush (v := (63)) hx hb dX0_suspects_0 (by decide) ?_
  refine lv_istore_n (lv' := [(3, .int (63 : Int32)), (0, .ref (a 0)), (1, .ref (a_heap 0)), (2, .int i)]) hx hb dX0_suspects_2 rfl hl (by decide) rfl (fun ls hl => ?_)
  refine lv_aload_n hx hb dX0_suspects_3 rfl (lv_at hl 2 rfl) ?_
  refine lv_iload_n hx hb dX0_suspects_4 rfl (lv_at hl 3 rfl) ?_
  refine rd_calli (va_runV (As := [.int i]) (rest := []) ⟨hx, hb, hml, hown, hts⟩ (c_X1_answeredBy l D ca a_heap heap_kinds heap_whos heap_toWhoms heap_topics heap_weights heap_answered heap_deeds heap_size heap_saidBits heap_deedCount i _ h) (cwV 1 hts gX0_suspects_X1_answeredBy rfl rfl rfl (by decide +kernel) ⟨Nat.le_of_ble_eq_true rfl, Nat.le_of_ble_eq_true rfl⟩) (PcX.preV (q := (RX1, TX1, 10)) (ci := 1) (q0 := 2) hK hP rfl rfl (hP.subM [2, 3, 4, 5, 6, 7, 8, 9] rfl)) rfl rfl hl.1 rfl (lv_room (Nat.le_of_ble_eq_true rfl)) dX0_suspects_5 ⟨Nat.le_of_ble_eq_true rfl, Nat.le_of_ble_eq_true rfl⟩) (fun r1 h => ?_)
  try dsimp only at h
  refine lv_istore (lv' := [(4, .int r1), (3, .int (63 : Int32)), (0, .ref (a 0)), (1, .ref (a_heap 0)), (2, .int i)]) hx hb dX0_suspects_8 hl (by decide) rfl (fun ls hl => ?_)
  refine lv_aload_n hx hb dX0_suspects_10 rfl (lv_at hl 3 rfl) ?_
  refine lv_iload hx hb dX0_suspects_11 (lv_at hl 0 rfl) ?_
  refine rd_callz (va_runV (As := [.int r1]) (rest := []) ⟨hx, hb, hml, hown, hts⟩ (c_X1_hasNumber l D ca a_heap heap_kinds heap_whos heap_toWhoms heap_topics heap_weights heap_answered heap_deeds heap_size heap_saidBits heap_deedCount r1 _ h) (cwV 1 hts gX0_suspects_X1_hasNumber rfl rfl rfl (by decide +kernel) ⟨Nat.le_of_ble_eq_true rfl, Nat.le_of_ble_eq_true rfl⟩) (PcX.preV (q := (RX1, TX1, 10)) (ci := 1) (q0 := 2) hK hP rfl rfl (hP.subM [2, 3, 4, 5, 6, 7, 8, 9] rfl)) rfl rfl hl.1 rfl (lv_room (Nat.le_of_ble_eq_true rfl)) dX0_suspects_13 ⟨Nat.le_of_ble_eq_true rfl, Nat.le_of_ble_eq_true rfl⟩) (fun r2 h hz_r2 => ?_)
  try dsimp only at h
  refine lv_if_eq (tgt := 37) hx hb dX0_suspects_16 (by decide) (fun hc => ?_) (fun hc => ?_)
  · have h := h.1 hc
    exact w_37  (63 : Int32) h ls (lv_sub hl [3, 4, 1] rfl)
  · have h := h.2 hc
    refine lv_aload_n hx hb dX0_suspects_19 rfl (lv_at hl 3 rfl) ?_
    refine lv_iload_n hx hb dX0_suspects_20 rfl (lv_at hl 4 rfl) ?_
    refine rd_calli (va_runV (As := [.int i]) (rest := []) ⟨hx, hb, hml, hown, hts⟩ (c_X1_toldAhead l D ca a_heap heap_kinds heap_whos heap_toWhoms heap_topics heap_weights heap_answered heap_deeds heap_size heap_saidBits heap_deedCount i _ h) (cwV 1 hts gX0_suspects_X1_toldAhead rfl rfl rfl (by decide +kernel) ⟨Nat.le_of_ble_eq_true rfl, Nat.le_of_ble_eq_true rfl⟩) (PcX.preV (q := (RX1, TX1, 10)) (ci := 1) (q0 := 2) hK hP rfl rfl (hP.subM [2, 3, 4, 5, 6, 7, 8, 9] rfl)) rfl rfl hl.1 rfl (lv_room (Nat.le_of_ble_eq_true rfl)) dX0_suspects_21 ⟨Nat.le_of_ble_eq_true rfl, Nat.le_of_ble_eq_true rfl⟩) (fun r5 h => ?_)
    try dsimp only at h
    refine lv_aload_n hx hb dX0_suspects_24 rfl (lv_at hl 3 rfl) ?_
    refine lv_iload hx hb dX0_suspects_25 (lv_at hl 0 rfl) ?_
    refine rd_calli (va_runV (As := [.int r1]) (rest := [.int r5]) ⟨hx, hb, hml, hown, hts⟩ (c_X1_whoOf l D ca a_heap heap_kinds heap_whos heap_toWhoms heap_topics heap_weights heap_answered heap_deeds heap_size heap_saidBits heap_deedCount r1 _ h) (cwV 1 hts gX0_suspects_X1_whoOf rfl rfl rfl (by decide +kernel) ⟨Nat.le_of_ble_eq_true rfl, Nat.le_of_ble_eq_true rfl⟩) (PcX.preV (q := (RX1, TX1, 10)) (ci := 1) (q0 := 2) hK hP rfl rfl (hP.subM [2, 3, 4, 5, 6, 7, 8, 9] rfl)) rfl rfl hl.1 rfl (lv_room (Nat.le_of_ble_eq_true rfl)) dX0_suspects_27 ⟨Nat.le_of_ble_eq_true rfl, Nat.le_of_ble_eq_true rfl⟩) (fun r6 h => ?_)
    try dsimp only at h
    refine rd_calli (va_runSN (As := [.int r6]) (rest := [.int r5]) ⟨hx, hb, hml, hown, hts⟩ (c_X7_bit l D ca   r6 _ h) ⟨va_cnB 1 hts gX0_suspects_X7_bit_n31 rfl rfl rfl (hK.2 (RX0, 31, yX7_bit, "IronedQuarrels") (List.mem_of_getElem? (i := 7) rfl)) (hts _ k_X0_suspects_18) (by decide +kernel) ⟨Nat.le_of_ble_eq_true rfl, Nat.le_of_ble_eq_true rfl⟩, hts _ k_X0_suspects_17, trivial⟩ (PcX.preS hK (fun k q h => by simp at h)) rfl rfl hl.1 rfl (lv_room (Nat.le_of_ble_eq_true rfl)) dX0_suspects_30 ⟨Nat.le_of_ble_eq_true rfl, Nat.le_of_ble_eq_true rfl⟩) (fun r7 h => ?_)
    try dsimp only at h
    refine lv_iconst (v := (-1)) hx hb dX0_suspects_33 (by decide) ?_
    refine lv_ixor hx hb dX0_suspects_34 ?_
    refine lv_iand hx hb dX0_suspects_35 ?_
    refine lv_istore_n (lv' := [(3, .int (r5 &&& (r7 ^^^ (-1 : Int32)))), (4, .int r1), (0, .ref (a 0)), (1, .ref (a_heap 0)), (2, .int i)]) hx hb dX0_suspects_36 rfl hl (by decide) rfl (fun ls hl => ?_)
    exact w_37  (r5 &&& (r7 ^^^ (-1 : Int32))) h ls (lv_sub hl [3, 4, 0] rfl)

-- IronedQuarrels$Ironing.canGo(II)Z
def wp_X2_canGo (holders : Nat → Int32) (i : Int32) (left : Int32) (post : Int32 → Prop) : Prop :=
  wp_X7_hasBit left i (fun r1 => (r1 = 0 → (post (0 : Int32))) ∧ (¬ r1 = 0 → (vp_in i 12 ∧ (¬ ((holders i.toNatClampNeg) &&& left) = 0 → (post (0 : Int32))) ∧ (((holders i.toNatClampNeg) &&& left) = 0 → (post (1 : Int32))))))
def rm_X2_canGo : Room := { frames := 1, cells := 0, slots := 0, locals := 21 }
theorem k_X2_canGo_1 : Cond.fieldLink RX2 18 "IronedQuarrels$Ironing" "holders" "[I" ∈ wsX2_canGo := List.mem_of_getElem? (i := 1) (by decide +kernel)
theorem k_X2_canGo_2 : Cond.static yX7_hasBit ∈ wsX2_canGo := List.mem_of_getElem? (i := 2) (by decide +kernel)
theorem k_X2_canGo_3 : Cond.initialized RX7 ∈ wsX2_canGo := List.mem_of_getElem? (i := 3) (by decide +kernel)
theorem hi_X2_canGo_X2 : ∀ w ∈ wsX20, w ∈ wsX2_canGo := fun w h => List.mem_cons_of_mem _ (List.mem_append_right _ h)
set_option maxHeartbeats 4000000 in
set_option maxRecDepth 100000 in
theorem c_X2_canGo (l : Launch) (D : va_G) (ca : Nat → ClassId) (a : Nat → Nat) (least : Nat → Int32) (others : Nat → Int32) (holders : Nat → Int32) (i : Int32) (left : Int32) (post : Int32 → Prop) (h : wp_X2_canGo holders i left post) : Met l yX2_canGo wsX2_canGo rm_X2_canGo (PcX D ca [.ref (a 0), .int i, .int left] (W_X2 ca a least others holders)) (rdZ post) 0 0 (fun _ => False) := by
  refine Met.ofW (cc := cX2_canGo) (maxL := 3) (ret := (some .boolean)) (by decide) rfl ?_
  intro zp ze zs zm za zb zt zc z1 B hml hv
  obtain ⟨rfl, hP, hK⟩ := hv
  have hx := B.exec
  have hb := B.bytes
  have hr := B.returns
  have hts := atoms_spec (ws := wsX2_canGo) B.pre
  have hown : zs.vm.findClass RX2 = some zm.cls := findClass_of_methodNamed B.named
  have hlocks := B.notSynchronized
  have hl := lv_entry ([.ref (a 0), .int i, .int left]) (n := 3) (Nat.le_of_ble_eq_true rfl)
  rw [lg_entry_eq]
  generalize (lg_sl ([.ref (a 0), .int i, .int left]) ++ List.replicate (3 - (lg_sl ([.ref (a 0), .int i, .int left])).length) Slot.unset).toArray = ls at hl ⊢
  replace hl : lv_has ls 3 [(0, .ref (a 0)), (1, .int i), (2, .int left)] := hl
  show W zp l ze rm_X2_canGo zs zm ([.ref (a 0), .int i, .int left] : List Value).toArray zb zt zc zs.heap [] 0 0 (MQ zb (rdZ post) ([.ref (a 0), .int i, .int left] : List Value).toArray zs 0 0 (fun _ => False)) (F0 zm 0 ls [])
  unfold wp_X2_canGo at h
  refine lv_iload_n hx hb dX2_canGo_0 rfl (lv_at hl 2 rfl) ?_
  refine lv_iload_n hx hb dX2_canGo_1 rfl (lv_at hl 1 rfl) ?_
  refine rd_callz (va_runSN (As := [.int left, .int i]) (rest := []) ⟨hx, hb, hml, hown, hts⟩ (c_X7_hasBit l D ca   left i _ h) ⟨va_cnB 2 hts gX2_canGo_X7_hasBit_n54 rfl rfl rfl (hK.2 (RX2, 54, yX7_hasBit, "IronedQuarrels") (List.mem_of_getElem? (i := 9) rfl)) (hts _ k_X2_canGo_3) (by decide +kernel) ⟨Nat.le_of_ble_eq_true rfl, Nat.le_of_ble_eq_true rfl⟩, hts _ k_X2_canGo_2, trivial⟩ (PcX.preS hK (fun k q h => by simp at h)) rfl rfl hl.1 rfl (lv_room (Nat.le_of_ble_eq_true rfl)) dX2_canGo_2 ⟨Nat.le_of_ble_eq_true rfl, Nat.le_of_ble_eq_true rfl⟩) (fun r1 h hz_r1 => ?_)
  try dsimp only at h
  refine lv_if_eq (tgt := 23) hx hb dX2_canGo_5 (by decide) (fun hc => ?_) (fun hc => ?_)
  · have h := h.1 hc
    refine lv_iconst (v := (0)) hx hb dX2_canGo_23 (by decide) ?_
    exact W.zret (v := (0 : Int32)) hx hb hr nar0 (fun t ht hW => ⟨(0 : Int32), rfl, ⟨h, nar0⟩, ht⟩) (fun q hq => absurd hq List.not_mem_nil) dX2_canGo_24
  · have h := h.2 hc
    refine lv_aload_n hx hb dX2_canGo_8 rfl (lv_at hl 0 rfl) ?_
    refine va_get (D := D) (ci := 2) (v := .ref (a 3)) (C := RX2) (T := TX2) (N := 3) hx hb hts hi_X2_canGo_X2 hown hK.1 hP 0 rfl rfl 2 (by decide) (hts _ k_X2_canGo_1) (fun _ h9 => h9) rfl dX2_canGo_9 ?_
    refine lv_iload_n hx hb dX2_canGo_12 rfl (lv_at hl 1 rfl) ?_
    obtain ⟨hi, h⟩ := h
    refine x_iald (v := holders i.toNatClampNeg) hx hb hK hP 3 rfl hi rfl dX2_canGo_13 ?_
    refine lv_iload_n hx hb dX2_canGo_14 rfl (lv_at hl 2 rfl) ?_
    refine lv_iand hx hb dX2_canGo_15 ?_
    refine lv_if_ne (tgt := 23) hx hb dX2_canGo_16 (by decide) (fun hc => ?_) (fun hc => ?_)
    · have h := h.1 hc
      refine lv_iconst (v := (0)) hx hb dX2_canGo_23 (by decide) ?_
      exact W.zret (v := (0 : Int32)) hx hb hr nar0 (fun t ht hW => ⟨(0 : Int32), rfl, ⟨h, nar0⟩, ht⟩) (fun q hq => absurd hq List.not_mem_nil) dX2_canGo_24
    · have h := h.2 hc
      refine lv_iconst (v := (1)) hx hb dX2_canGo_19 (by decide) ?_
      refine lv_goto (tgt := 24) hx hb dX2_canGo_20 (by decide) ?_
      exact W.zret (v := (1 : Int32)) hx hb hr nar1 (fun t ht hW => ⟨(1 : Int32), rfl, ⟨h, nar1⟩, ht⟩) (fun q hq => absurd hq List.not_mem_nil) dX2_canGo_24

-- IronedQuarrels$Ironing.costFrom(LIronedQuarrels$Heap;II)I
def wp_X2_costFrom (this_least : Nat → Int32) (this_others : Nat → Int32) (heap_kinds : Nat → Int32) (heap_topics : Nat → Int32) (heap_weights : Nat → Int32) (i : Int32) (left : Int32) (post : Int32 → Prop) : Prop :=
  vp_in i 12 ∧ wp_J6_bitCount_0f7a4 ((this_others i.toNatClampNeg) &&& left) (fun r1 => wp_X1_priceAtHeat heap_kinds heap_topics heap_weights i r1 (fun r2 => wp_X7_bit i (fun r3 => vp_in (left &&& (r3 ^^^ (-1 : Int32))) 4096 ∧ post (r2 + (this_least (left &&& (r3 ^^^ (-1 : Int32))).toNatClampNeg)))))
def rm_X2_costFrom : Room := { frames := 1, cells := 0, slots := 0, locals := 22 }
theorem k_X2_costFrom_1 : Cond.fieldLink RX2 15 "IronedQuarrels$Ironing" "others" "[I" ∈ wsX2_costFrom := List.mem_of_getElem? (i := 1) (by decide +kernel)
theorem k_X2_costFrom_2 : Cond.fieldLink RX2 9 "IronedQuarrels$Ironing" "least" "[I" ∈ wsX2_costFrom := List.mem_of_getElem? (i := 2) (by decide +kernel)
theorem k_X2_costFrom_18 : Cond.static yX7_bit ∈ wsX2_costFrom := List.mem_of_getElem? (i := 18) (by decide +kernel)
theorem k_X2_costFrom_19 : Cond.initialized RX7 ∈ wsX2_costFrom := List.mem_of_getElem? (i := 19) (by decide +kernel)
theorem hi_X2_costFrom_X1 : ∀ w ∈ wsX10, w ∈ wsX2_costFrom := fun w h => List.mem_cons_of_mem _ (List.mem_append_right _ h)
theorem hi_X2_costFrom_X2 : ∀ w ∈ wsX20, w ∈ wsX2_costFrom := fun w h => List.mem_cons_of_mem _ (List.mem_append_left _ (List.mem_append_right _ h))
set_option maxHeartbeats 4000000 in
set_option maxRecDepth 100000 in
theorem c_X2_costFrom (l : Launch) (D : va_G) (ca : Nat → ClassId) (a : Nat → Nat) (a_heap : Nat → Nat) (this_least : Nat → Int32) (this_others : Nat → Int32) (this_holders : Nat → Int32) (heap_kinds : Nat → Int32) (heap_whos : Nat → Int32) (heap_toWhoms : Nat → Int32) (heap_topics : Nat → Int32) (heap_weights : Nat → Int32) (heap_answered : Nat → Int32) (heap_deeds : Nat → Int32) (heap_size : Int32) (heap_saidBits : Int32) (heap_deedCount : Int32) (i : Int32) (left : Int32) (post : Int32 → Prop) (h : wp_X2_costFrom this_least this_others heap_kinds heap_topics heap_weights i left post) : Met l yX2_costFrom wsX2_costFrom rm_X2_costFrom (PcX D ca [.ref (a 0), .ref (a_heap 0), .int i, .int left] ((W_X2 ca a this_least this_others this_holders) ++ (W_X1 ca a_heap heap_kinds heap_whos heap_toWhoms heap_topics heap_weights heap_answered heap_deeds heap_size heap_saidBits heap_deedCount))) (rdI post) 0 0 (fun _ => False) := by
  refine Met.ofW (cc := cX2_costFrom) (maxL := 4) (ret := (some .int)) (by decide) rfl ?_
  intro zp ze zs zm za zb zt zc z1 B hml hv
  obtain ⟨rfl, hP, hK⟩ := hv
  have hx := B.exec
  have hb := B.bytes
  have hr := B.returns
  have hts := atoms_spec (ws := wsX2_costFrom) B.pre
  have hown : zs.vm.findClass RX2 = some zm.cls := findClass_of_methodNamed B.named
  have hlocks := B.notSynchronized
  have hl := lv_entry ([.ref (a 0), .ref (a_heap 0), .int i, .int left]) (n := 4) (Nat.le_of_ble_eq_true rfl)
  rw [lg_entry_eq]
  generalize (lg_sl ([.ref (a 0), .ref (a_heap 0), .int i, .int left]) ++ List.replicate (4 - (lg_sl ([.ref (a 0), .ref (a_heap 0), .int i, .int left])).length) Slot.unset).toArray = ls at hl ⊢
  replace hl : lv_has ls 4 [(0, .ref (a 0)), (1, .ref (a_heap 0)), (2, .int i), (3, .int left)] := hl
  show W zp l ze rm_X2_costFrom zs zm ([.ref (a 0), .ref (a_heap 0), .int i, .int left] : List Value).toArray zb zt zc zs.heap [] 0 0 (MQ zb (rdI post) ([.ref (a 0), .ref (a_heap 0), .int i, .int left] : List Value).toArray zs 0 0 (fun _ => False)) (F0 zm 0 ls [])
  unfold wp_X2_costFrom at h
  refine lv_aload_n hx hb dX2_costFrom_0 rfl (lv_at hl 1 rfl) ?_
  refine lv_iload_n hx hb dX2_costFrom_1 rfl (lv_at hl 2 rfl) ?_
  refine lv_aload_n hx hb dX2_costFrom_2 rfl (lv_at hl 0 rfl) ?_
  refine va_get (D := D) (ci := 2) (v := .ref (a 2)) (C := RX2) (T := TX2) (N := 3) hx hb hts hi_X2_costFrom_X2 hown hK.1 hP 0 rfl rfl 1 (by decide) (hts _ k_X2_costFrom_1) (fun _ h9 => h9) rfl dX2_costFrom_3 ?_
  refine lv_iload_n hx hb dX2_costFrom_6 rfl (lv_at hl 2 rfl) ?_
  obtain ⟨hi, h⟩ := h
  refine x_iald (v := this_others i.toNatClampNeg) hx hb hK hP 2 rfl hi rfl dX2_costFrom_7 ?_
  refine lv_iload_n hx hb dX2_costFrom_8 rfl (lv_at hl 3 rfl) ?_
  refine lv_iand hx hb dX2_costFrom_9 ?_
  refine rd_calli (va_runS (As := [.int ((this_others i.toNatClampNeg) &&& left)]) (rest := [.int i, .ref (a_heap 0)]) ⟨hx, hb, hml, hown, hts⟩ (c_J6_bitCount_0f7a4 l D ca   ((this_others i.toNatClampNeg) &&& left) _ h) (va_cwS 1 hts gX2_costFrom_J6_bitCount_0f7a4 rfl rfl rfl (by decide +kernel) ⟨Nat.le_of_ble_eq_true rfl, Nat.le_of_ble_eq_true rfl⟩) (PcX.preS hK (fun k q h => by simp at h)) rfl rfl hl.1 rfl (lv_room (Nat.le_of_ble_eq_true rfl)) dX2_costFrom_10 ⟨Nat.le_of_ble_eq_true rfl, Nat.le_of_ble_eq_true rfl⟩) (fun r1 h => ?_)
  try dsimp only at h
  refine rd_calli (va_runV (As := [.int i, .int r1]) (rest := []) ⟨hx, hb, hml, hown, hts⟩ (c_X1_priceAtHeat l D ca a_heap heap_kinds heap_whos heap_toWhoms heap_topics heap_weights heap_answered heap_deeds heap_size heap_saidBits heap_deedCount i r1 _ h) (cwV 2 hts gX2_costFrom_X1_priceAtHeat rfl rfl rfl (by decide +kernel) ⟨Nat.le_of_ble_eq_true rfl, Nat.le_of_ble_eq_true rfl⟩) (PcX.preV (q := (RX1, TX1, 10)) (ci := 1) (q0 := 4) hK hP rfl rfl (hP.subM [4, 5, 6, 7, 8, 9, 10, 11] rfl)) rfl rfl hl.1 rfl (lv_room (Nat.le_of_ble_eq_true rfl)) dX2_costFrom_13 ⟨Nat.le_of_ble_eq_true rfl, Nat.le_of_ble_eq_true rfl⟩) (fun r2 h => ?_)
  try dsimp only at h
  refine lv_aload_n hx hb dX2_costFrom_16 rfl (lv_at hl 0 rfl) ?_
  refine va_get (D := D) (ci := 2) (v := .ref (a 1)) (C := RX2) (T := TX2) (N := 3) hx hb hts hi_X2_costFrom_X2 hown hK.1 hP 0 rfl rfl 0 (by decide) (hts _ k_X2_costFrom_2) (fun _ h9 => h9) rfl dX2_costFrom_17 ?_
  refine lv_iload_n hx hb dX2_costFrom_20 rfl (lv_at hl 3 rfl) ?_
  refine lv_iload_n hx hb dX2_costFrom_21 rfl (lv_at hl 2 rfl) ?_
  refine rd_calli (va_runSN (As := [.int i]) (rest := [.int left, .ref (a 1), .int r2]) ⟨hx, hb, hml, hown, hts⟩ (c_X7_bit l D ca   i _ h) ⟨va_cnB 1 hts gX2_costFrom_X7_bit_n65 rfl rfl rfl (hK.2 (RX2, 65, yX7_bit, "IronedQuarrels") (List.mem_of_getElem? (i := 10) rfl)) (hts _ k_X2_costFrom_19) (by decide +kernel) ⟨Nat.le_of_ble_eq_true rfl, Nat.le_of_ble_eq_true rfl⟩, hts _ k_X2_costFrom_18, trivial⟩ (PcX.preS hK (fun k q h => by simp at h)) rfl rfl hl.1 rfl (lv_room (Nat.le_of_ble_eq_true rfl)) dX2_costFrom_22 ⟨Nat.le_of_ble_eq_true rfl, Nat.le_of_ble_eq_true rfl⟩) (fun r3 h => ?_)
  try dsimp only at h
  refine lv_iconst (v := (-1)) hx hb dX2_costFrom_25 (by decide) ?_
  refine lv_ixor hx hb dX2_costFrom_26 ?_
  refine lv_iand hx hb dX2_costFrom_27 ?_
  obtain ⟨hi, h⟩ := h
  refine x_iald (v := this_least (left &&& (r3 ^^^ (-1 : Int32))).toNatClampNeg) hx hb hK hP 1 rfl hi rfl dX2_costFrom_28 ?_
  refine lv_iadd hx hb dX2_costFrom_29 ?_
  exact W.iret (v := r2 + (this_least (left &&& (r3 ^^^ (-1 : Int32))).toNatClampNeg)) hx hb hr (fun t ht hW => ⟨r2 + (this_least (left &&& (r3 ^^^ (-1 : Int32))).toNatClampNeg), rfl, h, ht⟩) (fun q hq => absurd hq List.not_mem_nil) dX2_costFrom_30

-- IronedQuarrels$Ironing.leastOf(LIronedQuarrels$Heap;I)I
def wb_X2_leastOf_6 (this_least : Nat → Int32) (this_others : Nat → Int32) (this_holders : Nat → Int32) (heap_kinds : Nat → Int32) (heap_topics : Nat → Int32) (heap_weights : Nat → Int32) (heap_size : Int32) (left : Int32) (post : Int32 → Prop) (K6 : (Int32) → (Int32) → Prop) (x3 : Int32) (x4 : Int32) : Prop :=
  wp_X1_howMany heap_size (fun r1 => (r1 ≤ x4 → (post x3)) ∧ (¬ r1 ≤ x4 → (wp_X2_canGo this_holders x4 left (fun r2 => (r2 = 0 → (K6 x3 (x4 + 1))) ∧ (¬ r2 = 0 → (wp_X2_costFrom this_least this_others heap_kinds heap_topics heap_weights x4 left (fun r3 => K6 (if r3 < x3 then r3 else x3) (x4 + 1))))))))
def wl_X2_leastOf_6 (this_least : Nat → Int32) (this_others : Nat → Int32) (this_holders : Nat → Int32) (heap_kinds : Nat → Int32) (heap_topics : Nat → Int32) (heap_weights : Nat → Int32) (heap_size : Int32) (left : Int32) (post : Int32 → Prop) : Nat → (Int32) → (Int32) → Prop
  | 0 => fun _ _ => False
  | zn + 1 => wb_X2_leastOf_6 this_least this_others this_holders heap_kinds heap_topics heap_weights heap_size left post (wl_X2_leastOf_6 this_least this_others this_holders heap_kinds heap_topics heap_weights heap_size left post zn)
def wp_X2_leastOf (this_least : Nat → Int32) (this_others : Nat → Int32) (this_holders : Nat → Int32) (heap_kinds : Nat → Int32) (heap_topics : Nat → Int32) (heap_weights : Nat → Int32) (heap_size : Int32) (left : Int32) (post : Int32 → Prop) : Prop :=
  ∃ zn, wl_X2_leastOf_6 this_least this_others this_holders heap_kinds heap_topics heap_weights heap_size left post zn (1000000 : Int32) (0 : Int32)
def rm_X2_leastOf : Room := { frames := 2, cells := 0, slots := 0, locals := 45 }
theorem k_X2_leastOf_1 : Cond.constant RX2 39 (1000000) ∈ wsX2_leastOf := List.mem_of_getElem? (i := 1) (by decide +kernel)
theorem k_X2_leastOf_2 : Cond.methodLink RX2 48 Lib.Math.min.name ∈ wsX2_leastOf := List.mem_of_getElem? (i := 2) (by decide +kernel)
theorem k_X2_leastOf_3 : Cond.static Lib.Math.min.name ∈ wsX2_leastOf := List.mem_of_getElem? (i := 3) (by decide +kernel)
theorem k_X2_leastOf_4 : Cond.initialized "java/lang/Math" ∈ wsX2_leastOf := List.mem_of_getElem? (i := 4) (by decide +kernel)
theorem k_X2_leastOf_5 : Cond.code Lib.Math.min.name Lib.Math.min.code 2 (some .int) ∈ wsX2_leastOf := List.mem_of_getElem? (i := 5) (by decide +kernel)
theorem hi_X2_leastOf_X1 : ∀ w ∈ wsX10, w ∈ wsX2_leastOf := fun w h => List.mem_cons_of_mem _ (List.mem_append_left _ (List.mem_append_right _ h))
theorem hi_X2_leastOf_X2 : ∀ w ∈ wsX20, w ∈ wsX2_leastOf := fun w h => List.mem_cons_of_mem _ (List.mem_append_right _ h)
set_option maxHeartbeats 4000000 in
set_option maxRecDepth 100000 in
theorem c_X2_leastOf (l : Launch) (D : va_G) (ca : Nat → ClassId) (a : Nat → Nat) (a_heap : Nat → Nat) (this_least : Nat → Int32) (this_others : Nat → Int32) (this_holders : Nat → Int32) (heap_kinds : Nat → Int32) (heap_whos : Nat → Int32) (heap_toWhoms : Nat → Int32) (heap_topics : Nat → Int32) (heap_weights : Nat → Int32) (heap_answered : Nat → Int32) (heap_deeds : Nat → Int32) (heap_size : Int32) (heap_saidBits : Int32) (heap_deedCount : Int32) (left : Int32) (post : Int32 → Prop) (h : wp_X2_leastOf this_least this_others this_holders heap_kinds heap_topics heap_weights heap_size left post) : Met l yX2_leastOf wsX2_leastOf rm_X2_leastOf (PcX D ca [.ref (a 0), .ref (a_heap 0), .int left] ((W_X2 ca a this_least this_others this_holders) ++ (W_X1 ca a_heap heap_kinds heap_whos heap_toWhoms heap_topics heap_weights heap_answered heap_deeds heap_size heap_saidBits heap_deedCount))) (rdI post) 0 0 (fun _ => False) := by
  refine Met.ofW (cc := cX2_leastOf) (maxL := 5) (ret := (some .int)) (by decide) rfl ?_
  intro zp ze zs zm za zb zt zc z1 B hml hv
  obtain ⟨rfl, hP, hK⟩ := hv
  have hx := B.exec
  have hb := B.bytes
  have hr := B.returns
  have hts := atoms_spec (ws := wsX2_leastOf) B.pre
  have hown : zs.vm.findClass RX2 = some zm.cls := findClass_of_methodNamed B.named
  have hlocks := B.notSynchronized
  have hl := lv_entry ([.ref (a 0), .ref (a_heap 0), .int left]) (n := 5) (Nat.le_of_ble_eq_true rfl)
  rw [lg_entry_eq]
  generalize (lg_sl ([.ref (a 0), .ref (a_heap 0), .int left]) ++ List.replicate (5 - (lg_sl ([.ref (a 0), .ref (a_heap 0), .int left])).length) Slot.unset).toArray = ls at hl ⊢
  replace hl : lv_has ls 5 [(0, .ref (a 0)), (1, .ref (a_heap 0)), (2, .int left)] := hl
  show W zp l ze rm_X2_leastOf zs zm ([.ref (a 0), .ref (a_heap 0), .int left] : List Value).toArray zb zt zc zs.heap [] 0 0 (MQ zb (rdI post) ([.ref (a 0), .ref (a_heap 0), .int left] : List Value).toArray zs 0 0 (fun _ => False)) (F0 zm 0 ls [])
  have w_6 : ∀ (zn : Nat) (x3 : Int32) (x4 : Int32), wl_X2_leastOf_6 this_least this_others this_holders heap_kinds heap_topics heap_weights heap_size left post zn x3 x4 → ∀ ls : Array Slot, lv_has ls 5 [(0, .ref (a 0)), (1, .ref (a_heap 0)), (2, .int left), (3, .int x3), (4, .int x4)] → W zp l ze rm_X2_leastOf zs zm ([.ref (a 0), .ref (a_heap 0), .int left] : List Value).toArray zb zt zc zs.heap [] 0 0 (MQ zb (rdI post) ([.ref (a 0), .ref (a_heap 0), .int left] : List Value).toArray zs 0 0 (fun _ => False)) (F0 zm 6 ls []) := by
    intro zn
    induction zn with
    | zero => intro x3 x4 h; exact h.elim
    | succ zn ih6 =>
      intro x3 x4 h ls hl
      replace h : wb_X2_leastOf_6 this_least this_others this_holders heap_kinds heap_topics heap_weights heap_size left post (wl_X2_leastOf_6 this_least this_others this_holders heap_kinds heap_topics heap_weights heap_size left post zn) x3 x4 := h
      unfold wb_X2_leastOf_6 at h
      refine lv_iload hx hb dX2_leastOf_6 (lv_at hl 4 rfl) ?_
      refine lv_aload_n hx hb dX2_leastOf_8 rfl (lv_at hl 1 rfl) ?_
      refine rd_calli (va_runV (As := []) (rest := [.int x4]) ⟨hx, hb, hml, hown, hts⟩ (c_X1_howMany l D ca a_heap heap_kinds heap_whos heap_toWhoms heap_topics heap_weights heap_answered heap_deeds heap_size heap_saidBits heap_deedCount  _ h) (cwV 0 hts gX2_leastOf_X1_howMany rfl rfl rfl (by decide +kernel) ⟨Nat.le_of_ble_eq_true rfl, Nat.le_of_ble_eq_true rfl⟩) (PcX.preV (q := (RX1, TX1, 10)) (ci := 1) (q0 := 4) hK hP rfl rfl (hP.subM [4, 5, 6, 7, 8, 9, 10, 11] rfl)) rfl rfl hl.1 rfl (lv_room (Nat.le_of_ble_eq_true rfl)) dX2_leastOf_9 ⟨Nat.le_of_ble_eq_true rfl, Nat.le_of_ble_eq_true rfl⟩) (fun r1 h => ?_)
      try dsimp only at h
      refine lv_icmp_ge (tgt := 44) hx hb dX2_leastOf_12 (by decide) (fun hc => ?_) (fun hc => ?_)
      · have h := h.1 hc
        refine lv_iload_n hx hb dX2_leastOf_44 rfl (lv_at hl 3 rfl) ?_
        exact W.iret (v := x3) hx hb hr (fun t ht hW => ⟨x3, rfl, h, ht⟩) (fun q hq => absurd hq List.not_mem_nil) dX2_leastOf_45
      · have h := h.2 hc
        refine lv_aload_n hx hb dX2_leastOf_15 rfl (lv_at hl 0 rfl) ?_
        refine lv_iload hx hb dX2_leastOf_16 (lv_at hl 4 rfl) ?_
        refine lv_iload_n hx hb dX2_leastOf_18 rfl (lv_at hl 2 rfl) ?_
        refine rd_callz (va_runV (As := [.int x4, .int left]) (rest := []) ⟨hx, hb, hml, hown, hts⟩ (c_X2_canGo l D ca a this_least this_others this_holders x4 left _ h) (cwV 2 hts gX2_leastOf_X2_canGo rfl rfl rfl (by decide +kernel) ⟨Nat.le_of_ble_eq_true rfl, Nat.le_of_ble_eq_true rfl⟩) (PcX.preV (q := (RX2, TX2, 3)) (ci := 2) (q0 := 0) hK hP rfl rfl (hP.subM [0, 1, 2, 3] rfl)) rfl rfl hl.1 rfl (lv_room (Nat.le_of_ble_eq_true rfl)) dX2_leastOf_19 ⟨Nat.le_of_ble_eq_true rfl, Nat.le_of_ble_eq_true rfl⟩) (fun r2 h hz_r2 => ?_)
        try dsimp only at h
        refine lv_if_eq (tgt := 38) hx hb dX2_leastOf_22 (by decide) (fun hc => ?_) (fun hc => ?_)
        · have h := h.1 hc
          refine lv_iinc (v := x4 + 1) (lv' := [(4, .int (x4 + 1)), (0, .ref (a 0)), (1, .ref (a_heap 0)), (2, .int left), (3, .int x3)]) hx hb dX2_leastOf_38 hl (k := 4) rfl rfl (by decide) rfl (fun ls hl => ?_)
          refine lv_goto (tgt := 6) hx hb dX2_leastOf_41 (by decide) ?_
          exact ih6 x3 (x4 + 1) h ls (lv_sub hl [1, 2, 3, 4, 0] rfl)
        · have h := h.2 hc
          refine lv_iload_n hx hb dX2_leastOf_25 rfl (lv_at hl 3 rfl) ?_
          refine lv_aload_n hx hb dX2_leastOf_26 rfl (lv_at hl 0 rfl) ?_
          refine lv_aload_n hx hb dX2_leastOf_27 rfl (lv_at hl 1 rfl) ?_
          refine lv_iload hx hb dX2_leastOf_28 (lv_at hl 4 rfl) ?_
          refine lv_iload_n hx hb dX2_leastOf_30 rfl (lv_at hl 2 rfl) ?_
          refine rd_calli (va_runV (As := [.ref (a_heap 0), .int x4, .int left]) (rest := [.int x3]) ⟨hx, hb, hml, hown, hts⟩ (c_X2_costFrom l D ca a a_heap this_least this_others this_holders heap_kinds heap_whos heap_toWhoms heap_topics heap_weights heap_answered heap_deeds heap_size heap_saidBits heap_deedCount x4 left _ h) (cwV 3 hts gX2_leastOf_X2_costFrom rfl rfl rfl (by decide +kernel) ⟨Nat.le_of_ble_eq_true rfl, Nat.le_of_ble_eq_true rfl⟩) (PcX.preV (q := (RX2, TX2, 3)) (ci := 2) (q0 := 0) hK hP rfl rfl hP) rfl rfl hl.1 rfl (lv_room (Nat.le_of_ble_eq_true rfl)) dX2_leastOf_31 ⟨Nat.le_of_ble_eq_true rfl, Nat.le_of_ble_eq_true rfl⟩) (fun r3 h => ?_)
          try dsimp only at h
          refine va_mmin hx hb (by rw [hml]; exact hl.1.symm) hown (hts _ k_X2_leastOf_2) (hts _ k_X2_leastOf_3) (hts _ k_X2_leastOf_4) (hts _ k_X2_leastOf_5) (Nat.le_of_ble_eq_true rfl) (Nat.le_of_ble_eq_true rfl) (Nat.le_of_ble_eq_true rfl) (Nat.le_of_ble_eq_true rfl) dX2_leastOf_34 ?_
          refine lv_istore_n (lv' := [(3, .int (if r3 < x3 then r3 else x3)), (0, .ref (a 0)), (1, .ref (a_heap 0)), (2, .int left), (4, .int x4)]) hx hb dX2_leastOf_37 rfl hl (by decide) rfl (fun ls hl => ?_)
          refine lv_iinc (v := x4 + 1) (lv' := [(4, .int (x4 + 1)), (3, .int (if r3 < x3 then r3 else x3)), (0, .ref (a 0)), (1, .ref (a_heap 0)), (2, .int left)]) hx hb dX2_leastOf_38 hl (k := 4) rfl rfl (by decide) rfl (fun ls hl => ?_)
          refine lv_goto (tgt := 6) hx hb dX2_leastOf_41 (by decide) ?_
          exact ih6 (if r3 < x3 then r3 else x3) (x4 + 1) h ls (lv_sub hl [2, 3, 4, 1, 0] rfl)
  unfold wp_X2_leastOf at h
  refine lv_ldc (v := (1000000)) hx hb hown (hts _ k_X2_leastOf_1) dX2_leastOf_0 ?_
  refine lv_istore_n (lv' := [(3, .int (1000000 : Int32)), (0, .ref (a 0)), (1, .ref (a_heap 0)), (2, .int left)]) hx hb dX2_leastOf_2 rfl hl (by decide) rfl (fun ls hl => ?_)
  refine lv_iconst (v := (0)) hx hb dX2_leastOf_3 (by decide) ?_
  refine lv_istore (lv' := [(4, .int (0 : Int32)), (3, .int (1000000 : Int32)), (0, .ref (a 0)), (1, .ref (a_heap 0)), (2, .int left)]) hx hb dX2_leastOf_4 hl (by decide) rfl (fun ls hl => ?_)
  obtain ⟨zn, h⟩ := h
  exact w_6  zn (1000000 : Int32) (0 : Int32) h ls (lv_sub hl [2, 3, 4, 1, 0] rfl)

-- IronedQuarrels$Ironing.weigh(LIronedQuarrels$Heap;)I
def wb_X2_weigh_52 (heap_kinds : Nat → Int32) (heap_topics : Nat → Int32) (heap_weights : Nat → Int32) (heap_size : Int32) (post : Int32 → (Nat → Int32) → (Nat → Int32) → (Nat → Int32) → Prop) (K52 : (Nat → Int32) → (Nat → Int32) → (Nat → Int32) → (Int32) → (Int32) → Prop) (this_least : Nat → Int32) (this_others : Nat → Int32) (this_holders : Nat → Int32) (x2 : Int32) (x3 : Int32) : Prop :=
  (x2 < x3 → (vp_in x2 4096 ∧ post (this_least x2.toNatClampNeg) this_least this_others this_holders)) ∧ (¬ x2 < x3 → ((¬ (x3 &&& (x2 ^^^ (-1 : Int32))) = 0 → (K52 this_least this_others this_holders x2 (x3 + 1))) ∧ ((x3 &&& (x2 ^^^ (-1 : Int32))) = 0 → (wp_X2_leastOf this_least this_others this_holders heap_kinds heap_topics heap_weights heap_size x3 (fun r3 => vp_in x3 4096 ∧ K52 (upd this_least (x3.toNatClampNeg) r3) this_others this_holders x2 (x3 + 1))))))
def wl_X2_weigh_52 (heap_kinds : Nat → Int32) (heap_topics : Nat → Int32) (heap_weights : Nat → Int32) (heap_size : Int32) (post : Int32 → (Nat → Int32) → (Nat → Int32) → (Nat → Int32) → Prop) : Nat → (Nat → Int32) → (Nat → Int32) → (Nat → Int32) → (Int32) → (Int32) → Prop
  | 0 => fun _ _ _ _ _ => False
  | zn + 1 => wb_X2_weigh_52 heap_kinds heap_topics heap_weights heap_size post (wl_X2_weigh_52 heap_kinds heap_topics heap_weights heap_size post zn)
def wb_X2_weigh_7 (heap_kinds : Nat → Int32) (heap_whos : Nat → Int32) (heap_toWhoms : Nat → Int32) (heap_topics : Nat → Int32) (heap_weights : Nat → Int32) (heap_answered : Nat → Int32) (heap_size : Int32) (post : Int32 → (Nat → Int32) → (Nat → Int32) → (Nat → Int32) → Prop) (K7 : (Nat → Int32) → (Nat → Int32) → (Nat → Int32) → (Int32) → (Int32) → Prop) (this_least : Nat → Int32) (this_others : Nat → Int32) (this_holders : Nat → Int32) (x2 : Int32) (x3 : Int32) : Prop :=
  wp_X1_howMany heap_size (fun r2 => (r2 ≤ x3 → (∃ zn, wl_X2_weigh_52 heap_kinds heap_topics heap_weights heap_size post zn (upd this_least 0 (0 : Int32)) this_others this_holders x2 (1 : Int32))) ∧ (¬ r2 ≤ x3 → (wp_X1_others heap_whos heap_toWhoms heap_size x3 (fun r4 => vp_in x3 12 ∧ wp_X1_holders heap_kinds heap_answered heap_size x3 (fun r5 => vp_in x3 12 ∧ K7 this_least (upd this_others (x3.toNatClampNeg) r4) (upd this_holders (x3.toNatClampNeg) r5) x2 (x3 + 1))))))
def wl_X2_weigh_7 (heap_kinds : Nat → Int32) (heap_whos : Nat → Int32) (heap_toWhoms : Nat → Int32) (heap_topics : Nat → Int32) (heap_weights : Nat → Int32) (heap_answered : Nat → Int32) (heap_size : Int32) (post : Int32 → (Nat → Int32) → (Nat → Int32) → (Nat → Int32) → Prop) : Nat → (Nat → Int32) → (Nat → Int32) → (Nat → Int32) → (Int32) → (Int32) → Prop
  | 0 => fun _ _ _ _ _ => False
  | zn + 1 => wb_X2_weigh_7 heap_kinds heap_whos heap_toWhoms heap_topics heap_weights heap_answered heap_size post (wl_X2_weigh_7 heap_kinds heap_whos heap_toWhoms heap_topics heap_weights heap_answered heap_size post zn)
def wp_X2_weigh (this_least : Nat → Int32) (this_others : Nat → Int32) (this_holders : Nat → Int32) (heap_kinds : Nat → Int32) (heap_whos : Nat → Int32) (heap_toWhoms : Nat → Int32) (heap_topics : Nat → Int32) (heap_weights : Nat → Int32) (heap_answered : Nat → Int32) (heap_size : Int32) (heap_saidBits : Int32) (post : Int32 → (Nat → Int32) → (Nat → Int32) → (Nat → Int32) → Prop) : Prop :=
  wp_X1_saidBits heap_saidBits (fun r1 => ∃ zn, wl_X2_weigh_7 heap_kinds heap_whos heap_toWhoms heap_topics heap_weights heap_answered heap_size post zn this_least this_others this_holders r1 (0 : Int32))
def rm_X2_weigh : Room := { frames := 3, cells := 0, slots := 0, locals := 69 }
theorem k_X2_weigh_1 : Cond.fieldLink RX2 15 "IronedQuarrels$Ironing" "others" "[I" ∈ wsX2_weigh := List.mem_of_getElem? (i := 1) (by decide +kernel)
theorem k_X2_weigh_2 : Cond.fieldLink RX2 18 "IronedQuarrels$Ironing" "holders" "[I" ∈ wsX2_weigh := List.mem_of_getElem? (i := 2) (by decide +kernel)
theorem k_X2_weigh_3 : Cond.fieldLink RX2 9 "IronedQuarrels$Ironing" "least" "[I" ∈ wsX2_weigh := List.mem_of_getElem? (i := 3) (by decide +kernel)
theorem hi_X2_weigh_X1 : ∀ w ∈ wsX10, w ∈ wsX2_weigh := fun w h => List.mem_cons_of_mem _ (List.mem_append_right _ h)
theorem hi_X2_weigh_X2 : ∀ w ∈ wsX20, w ∈ wsX2_weigh := fun w h => List.mem_cons_of_mem _ (List.mem_append_left _ (List.mem_append_right _ h))
set_option maxHeartbeats 4000000 in
set_option maxRecDepth 100000 in
theorem c_X2_weigh (l : Launch) (D : va_G) (ca : Nat → ClassId) (a : Nat → Nat) (a_heap : Nat → Nat) (this_least : Nat → Int32) (this_others : Nat → Int32) (this_holders : Nat → Int32) (heap_kinds : Nat → Int32) (heap_whos : Nat → Int32) (heap_toWhoms : Nat → Int32) (heap_topics : Nat → Int32) (heap_weights : Nat → Int32) (heap_answered : Nat → Int32) (heap_deeds : Nat → Int32) (heap_size : Int32) (heap_saidBits : Int32) (heap_deedCount : Int32)  (post : Int32 → (Nat → Int32) → (Nat → Int32) → (Nat → Int32) → Prop) (hd : va_D (fun _ => True) ((W_X2 ca a this_least this_others this_holders) ++ (W_X1 ca a_heap heap_kinds heap_whos heap_toWhoms heap_topics heap_weights heap_answered heap_deeds heap_size heap_saidBits heap_deedCount))) (h : wp_X2_weigh this_least this_others this_holders heap_kinds heap_whos heap_toWhoms heap_topics heap_weights heap_answered heap_size heap_saidBits post) : Met l yX2_weigh wsX2_weigh rm_X2_weigh (PcX D ca [.ref (a 0), .ref (a_heap 0)] ((W_X2 ca a this_least this_others this_holders) ++ (W_X1 ca a_heap heap_kinds heap_whos heap_toWhoms heap_topics heap_weights heap_answered heap_deeds heap_size heap_saidBits heap_deedCount))) (wrI (S := (Nat → Int32) × (Nat → Int32) × (Nat → Int32)) D ((W_X2 ca a this_least this_others this_holders) ++ (W_X1 ca a_heap heap_kinds heap_whos heap_toWhoms heap_topics heap_weights heap_answered heap_deeds heap_size heap_saidBits heap_deedCount)) (fun u => (W_X2 ca a u.1 u.2.1 u.2.2) ++ (W_X1 ca a_heap heap_kinds heap_whos heap_toWhoms heap_topics heap_weights heap_answered heap_deeds heap_size heap_saidBits heap_deedCount)) (fun r u => post r u.1 u.2.1 u.2.2)) 0 0 (adr ((W_X2 ca a this_least this_others this_holders) ++ (W_X1 ca a_heap heap_kinds heap_whos heap_toWhoms heap_topics heap_weights heap_answered heap_deeds heap_size heap_saidBits heap_deedCount))) := by
  refine Met.ofW (cc := cX2_weigh) (maxL := 4) (ret := (some .int)) (by decide) rfl ?_
  intro zp ze zs zm za zb zt zc z1 B hml hv
  obtain ⟨rfl, hP, hK⟩ := hv
  have hx := B.exec
  have hb := B.bytes
  have hr := B.returns
  have hts := atoms_spec (ws := wsX2_weigh) B.pre
  have hown : zs.vm.findClass RX2 = some zm.cls := findClass_of_methodNamed B.named
  have hlocks := B.notSynchronized
  have hD : va_D (adr ((W_X2 ca a this_least this_others this_holders) ++ (W_X1 ca a_heap heap_kinds heap_whos heap_toWhoms heap_topics heap_weights heap_answered heap_deeds heap_size heap_saidBits heap_deedCount))) ((W_X2 ca a this_least this_others this_holders) ++ (W_X1 ca a_heap heap_kinds heap_whos heap_toWhoms heap_topics heap_weights heap_answered heap_deeds heap_size heap_saidBits heap_deedCount)) := hd.adr
  have hS : va_S (adr ((W_X2 ca a this_least this_others this_holders) ++ (W_X1 ca a_heap heap_kinds heap_whos heap_toWhoms heap_topics heap_weights heap_answered heap_deeds heap_size heap_saidBits heap_deedCount))) zs.heap zs.heap [] := va_S.rf
  have hl := lv_entry ([.ref (a 0), .ref (a_heap 0)]) (n := 4) (Nat.le_of_ble_eq_true rfl)
  rw [lg_entry_eq]
  generalize (lg_sl ([.ref (a 0), .ref (a_heap 0)]) ++ List.replicate (4 - (lg_sl ([.ref (a 0), .ref (a_heap 0)])).length) Slot.unset).toArray = ls at hl ⊢
  replace hl : lv_has ls 4 [(0, .ref (a 0)), (1, .ref (a_heap 0))] := hl
  show W zp l ze rm_X2_weigh zs zm ([.ref (a 0), .ref (a_heap 0)] : List Value).toArray zb zt zc zs.heap [] 0 0 (MQ zb (wrI (S := (Nat → Int32) × (Nat → Int32) × (Nat → Int32)) D ((W_X2 ca a this_least this_others this_holders) ++ (W_X1 ca a_heap heap_kinds heap_whos heap_toWhoms heap_topics heap_weights heap_answered heap_deeds heap_size heap_saidBits heap_deedCount)) (fun u => (W_X2 ca a u.1 u.2.1 u.2.2) ++ (W_X1 ca a_heap heap_kinds heap_whos heap_toWhoms heap_topics heap_weights heap_answered heap_deeds heap_size heap_saidBits heap_deedCount)) (fun r u => post r u.1 u.2.1 u.2.2)) ([.ref (a 0), .ref (a_heap 0)] : List Value).toArray zs 0 0 (adr ((W_X2 ca a this_least this_others this_holders) ++ (W_X1 ca a_heap heap_kinds heap_whos heap_toWhoms heap_topics heap_weights heap_answered heap_deeds heap_size heap_saidBits heap_deedCount)))) (F0 zm 0 ls [])
  have w_52 : ∀ (zn : Nat) (this_least : Nat → Int32) (this_others : Nat → Int32) (this_holders : Nat → Int32) (x2 : Int32) (x3 : Int32), wl_X2_weigh_52 heap_kinds heap_topics heap_weights heap_size post zn this_least this_others this_holders x2 x3 → ∀ (H : Heap) (locs : List Loc), va_P D vwCl ((W_X2 ca a this_least this_others this_holders) ++ (W_X1 ca a_heap heap_kinds heap_whos heap_toWhoms heap_topics heap_weights heap_answered heap_deeds heap_size heap_saidBits heap_deedCount)) H → va_D (adr ((W_X2 ca a this_least this_others this_holders) ++ (W_X1 ca a_heap heap_kinds heap_whos heap_toWhoms heap_topics heap_weights heap_answered heap_deeds heap_size heap_saidBits heap_deedCount))) ((W_X2 ca a this_least this_others this_holders) ++ (W_X1 ca a_heap heap_kinds heap_whos heap_toWhoms heap_topics heap_weights heap_answered heap_deeds heap_size heap_saidBits heap_deedCount)) → va_S (adr ((W_X2 ca a this_least this_others this_holders) ++ (W_X1 ca a_heap heap_kinds heap_whos heap_toWhoms heap_topics heap_weights heap_answered heap_deeds heap_size heap_saidBits heap_deedCount))) zs.heap H locs → ∀ ls : Array Slot, lv_has ls 4 [(0, .ref (a 0)), (1, .ref (a_heap 0)), (2, .int x2), (3, .int x3)] → W zp l ze rm_X2_weigh zs zm ([.ref (a 0), .ref (a_heap 0)] : List Value).toArray zb zt zc H locs 0 0 (MQ zb (wrI (S := (Nat → Int32) × (Nat → Int32) × (Nat → Int32)) D ((W_X2 ca a this_least this_others this_holders) ++ (W_X1 ca a_heap heap_kinds heap_whos heap_toWhoms heap_topics heap_weights heap_answered heap_deeds heap_size heap_saidBits heap_deedCount)) (fun u => (W_X2 ca a u.1 u.2.1 u.2.2) ++ (W_X1 ca a_heap heap_kinds heap_whos heap_toWhoms heap_topics heap_weights heap_answered heap_deeds heap_size heap_saidBits heap_deedCount)) (fun r u => post r u.1 u.2.1 u.2.2)) ([.ref (a 0), .ref (a_heap 0)] : List Value).toArray zs 0 0 (adr ((W_X2 ca a this_least this_others this_holders) ++ (W_X1 ca a_heap heap_kinds heap_whos heap_toWhoms heap_topics heap_weights heap_answered heap_deeds heap_size heap_saidBits heap_deedCount)))) (F0 zm 52 ls []) := by
    intro zn
    induction zn with
    | zero => intro this_least this_others this_holders x2 x3 h; exact h.elim
    | succ zn ih52 =>
      intro this_least this_others this_holders x2 x3 h H locs hP hD hS ls hl
      replace h : wb_X2_weigh_52 heap_kinds heap_topics heap_weights heap_size post (wl_X2_weigh_52 heap_kinds heap_topics heap_weights heap_size post zn) this_least this_others this_holders x2 x3 := h
      unfold wb_X2_weigh_52 at h
      refine lv_iload_n hx hb dX2_weigh_52 rfl (lv_at hl 3 rfl) ?_
      refine lv_iload_n hx hb dX2_weigh_53 rfl (lv_at hl 2 rfl) ?_
      refine lv_icmp_gt (tgt := 83) hx hb dX2_weigh_54 (by decide) (fun hc => ?_) (fun hc => ?_)
      · have h := h.1 hc
        refine lv_aload_n hx hb dX2_weigh_83 rfl (lv_at hl 0 rfl) ?_
        refine va_get (D := D) (ci := 2) (v := .ref (a 1)) (C := RX2) (T := TX2) (N := 3) hx hb hts hi_X2_weigh_X2 hown hK.1 hP 0 rfl rfl 0 (by decide) (hts _ k_X2_weigh_3) (fun _ h9 => h9) rfl dX2_weigh_84 ?_
        refine lv_iload_n hx hb dX2_weigh_87 rfl (lv_at hl 2 rfl) ?_
        obtain ⟨hi, h⟩ := h
        refine x_iald (v := this_least x2.toNatClampNeg) hx hb hK hP 1 rfl hi rfl dX2_weigh_88 ?_
        exact W.iret (v := this_least x2.toNatClampNeg) hx hb hr (fun t ht hW => ⟨⟨this_least x2.toNatClampNeg, (this_least, this_others, this_holders), rfl, h, by rw [ht]; exact hP⟩, hS.F ht⟩) hS.2.2 dX2_weigh_89
      · have h := h.2 hc
        refine lv_iload_n hx hb dX2_weigh_57 rfl (lv_at hl 3 rfl) ?_
        refine lv_iload_n hx hb dX2_weigh_58 rfl (lv_at hl 2 rfl) ?_
        refine lv_iconst (v := (-1)) hx hb dX2_weigh_59 (by decide) ?_
        refine lv_ixor hx hb dX2_weigh_60 ?_
        refine lv_iand hx hb dX2_weigh_61 ?_
        refine lv_if_ne (tgt := 77) hx hb dX2_weigh_62 (by decide) (fun hc => ?_) (fun hc => ?_)
        · have h := h.1 hc
          refine lv_iinc (v := x3 + 1) (lv' := [(3, .int (x3 + 1)), (0, .ref (a 0)), (1, .ref (a_heap 0)), (2, .int x2)]) hx hb dX2_weigh_77 hl (k := 3) rfl rfl (by decide) rfl (fun ls hl => ?_)
          refine lv_goto (tgt := 52) hx hb dX2_weigh_80 (by decide) ?_
          exact ih52 this_least this_others this_holders x2 (x3 + 1) h _ _ hP hD hS ls (lv_sub hl [1, 2, 3, 0] rfl)
        · have h := h.2 hc
          refine lv_aload_n hx hb dX2_weigh_65 rfl (lv_at hl 0 rfl) ?_
          refine va_get (D := D) (ci := 2) (v := .ref (a 1)) (C := RX2) (T := TX2) (N := 3) hx hb hts hi_X2_weigh_X2 hown hK.1 hP 0 rfl rfl 0 (by decide) (hts _ k_X2_weigh_3) (fun _ h9 => h9) rfl dX2_weigh_66 ?_
          refine lv_iload_n hx hb dX2_weigh_69 rfl (lv_at hl 3 rfl) ?_
          refine lv_aload_n hx hb dX2_weigh_70 rfl (lv_at hl 0 rfl) ?_
          refine lv_aload_n hx hb dX2_weigh_71 rfl (lv_at hl 1 rfl) ?_
          refine lv_iload_n hx hb dX2_weigh_72 rfl (lv_at hl 3 rfl) ?_
          refine rd_calli (va_runV (As := [.ref (a_heap 0), .int x3]) (rest := [.int x3, .ref (a 1)]) ⟨hx, hb, hml, hown, hts⟩ (c_X2_leastOf l D ca a a_heap this_least this_others this_holders heap_kinds heap_whos heap_toWhoms heap_topics heap_weights heap_answered heap_deeds heap_size heap_saidBits heap_deedCount x3 _ h) (cwV 2 hts gX2_weigh_X2_leastOf rfl rfl rfl (by decide +kernel) ⟨Nat.le_of_ble_eq_true rfl, Nat.le_of_ble_eq_true rfl⟩) (PcX.preV (q := (RX2, TX2, 3)) (ci := 2) (q0 := 0) hK hP rfl rfl hP) rfl rfl hl.1 rfl (lv_room (Nat.le_of_ble_eq_true rfl)) dX2_weigh_73 ⟨Nat.le_of_ble_eq_true rfl, Nat.le_of_ble_eq_true rfl⟩) (fun r3 h => ?_)
          try dsimp only at h
          obtain ⟨hi, h⟩ := h
          refine x_iast (ws' := (W_X2 ca a (upd this_least (x3.toNatClampNeg) r3) this_others this_holders) ++ (W_X1 ca a_heap heap_kinds heap_whos heap_toWhoms heap_topics heap_weights heap_answered heap_deeds heap_size heap_saidBits heap_deedCount)) hx hb hK hP hD hS 1 rfl hi (k := (x3.toNatClampNeg)) rfl rfl dX2_weigh_76 (fun H locs hP hD hS => ?_)
          refine lv_iinc (v := x3 + 1) (lv' := [(3, .int (x3 + 1)), (0, .ref (a 0)), (1, .ref (a_heap 0)), (2, .int x2)]) hx hb dX2_weigh_77 hl (k := 3) rfl rfl (by decide) rfl (fun ls hl => ?_)
          refine lv_goto (tgt := 52) hx hb dX2_weigh_80 (by decide) ?_
          exact ih52 (upd this_least (x3.toNatClampNeg) r3) this_others this_holders x2 (x3 + 1) h _ _ hP hD hS ls (lv_sub hl [1, 2, 3, 0] rfl)
  have w_7 : ∀ (zn : Nat) (this_least : Nat → Int32) (this_others : Nat → Int32) (this_holders : Nat → Int32) (x2 : Int32) (x3 : Int32), wl_X2_weigh_7 heap_kinds heap_whos heap_toWhoms heap_topics heap_weights heap_answered heap_size post zn this_least this_others this_holders x2 x3 → ∀ (H : Heap) (locs : List Loc), va_P D vwCl ((W_X2 ca a this_least this_others this_holders) ++ (W_X1 ca a_heap heap_kinds heap_whos heap_toWhoms heap_topics heap_weights heap_answered heap_deeds heap_size heap_saidBits heap_deedCount)) H → va_D (adr ((W_X2 ca a this_least this_others this_holders) ++ (W_X1 ca a_heap heap_kinds heap_whos heap_toWhoms heap_topics heap_weights heap_answered heap_deeds heap_size heap_saidBits heap_deedCount))) ((W_X2 ca a this_least this_others this_holders) ++ (W_X1 ca a_heap heap_kinds heap_whos heap_toWhoms heap_topics heap_weights heap_answered heap_deeds heap_size heap_saidBits heap_deedCount)) → va_S (adr ((W_X2 ca a this_least this_others this_holders) ++ (W_X1 ca a_heap heap_kinds heap_whos heap_toWhoms heap_topics heap_weights heap_answered heap_deeds heap_size heap_saidBits heap_deedCount))) zs.heap H locs → ∀ ls : Array Slot, lv_has ls 4 [(0, .ref (a 0)), (1, .ref (a_heap 0)), (2, .int x2), (3, .int x3)] → W zp l ze rm_X2_weigh zs zm ([.ref (a 0), .ref (a_heap 0)] : List Value).toArray zb zt zc H locs 0 0 (MQ zb (wrI (S := (Nat → Int32) × (Nat → Int32) × (Nat → Int32)) D ((W_X2 ca a this_least this_others this_holders) ++ (W_X1 ca a_heap heap_kinds heap_whos heap_toWhoms heap_topics heap_weights heap_answered heap_deeds heap_size heap_saidBits heap_deedCount)) (fun u => (W_X2 ca a u.1 u.2.1 u.2.2) ++ (W_X1 ca a_heap heap_kinds heap_whos heap_toWhoms heap_topics heap_weights heap_answered heap_deeds heap_size heap_saidBits heap_deedCount)) (fun r u => post r u.1 u.2.1 u.2.2)) ([.ref (a 0), .ref (a_heap 0)] : List Value).toArray zs 0 0 (adr ((W_X2 ca a this_least this_others this_holders) ++ (W_X1 ca a_heap heap_kinds heap_whos heap_toWhoms heap_topics heap_weights heap_answered heap_deeds heap_size heap_saidBits heap_deedCount)))) (F0 zm 7 ls []) := by
    intro zn
    induction zn with
    | zero => intro this_least this_others this_holders x2 x3 h; exact h.elim
    | succ zn ih7 =>
      intro this_least this_others this_holders x2 x3 h H locs hP hD hS ls hl
      replace h : wb_X2_weigh_7 heap_kinds heap_whos heap_toWhoms heap_topics heap_weights heap_answered heap_size post (wl_X2_weigh_7 heap_kinds heap_whos heap_toWhoms heap_topics heap_weights heap_answered heap_size post zn) this_least this_others this_holders x2 x3 := h
      unfold wb_X2_weigh_7 at h
      refine lv_iload_n hx hb dX2_weigh_7 rfl (lv_at hl 3 rfl) ?_
      refine lv_aload_n hx hb dX2_weigh_8 rfl (lv_at hl 1 rfl) ?_
      refine rd_calli (va_runV (As := []) (rest := [.int x3]) ⟨hx, hb, hml, hown, hts⟩ (c_X1_howMany l D ca a_heap heap_kinds heap_whos heap_toWhoms heap_topics heap_weights heap_answered heap_deeds heap_size heap_saidBits heap_deedCount  _ h) (cwV 0 hts gX2_weigh_X1_howMany rfl rfl rfl (by decide +kernel) ⟨Nat.le_of_ble_eq_true rfl, Nat.le_of_ble_eq_true rfl⟩) (PcX.preV (q := (RX1, TX1, 10)) (ci := 1) (q0 := 4) hK hP rfl rfl (hP.subM [4, 5, 6, 7, 8, 9, 10, 11] rfl)) rfl rfl hl.1 rfl (lv_room (Nat.le_of_ble_eq_true rfl)) dX2_weigh_9 ⟨Nat.le_of_ble_eq_true rfl, Nat.le_of_ble_eq_true rfl⟩) (fun r2 h => ?_)
      try dsimp only at h
      refine lv_icmp_ge (tgt := 43) hx hb dX2_weigh_12 (by decide) (fun hc => ?_) (fun hc => ?_)
      · have h := h.1 hc
        refine lv_aload_n hx hb dX2_weigh_43 rfl (lv_at hl 0 rfl) ?_
        refine va_get (D := D) (ci := 2) (v := .ref (a 1)) (C := RX2) (T := TX2) (N := 3) hx hb hts hi_X2_weigh_X2 hown hK.1 hP 0 rfl rfl 0 (by decide) (hts _ k_X2_weigh_3) (fun _ h9 => h9) rfl dX2_weigh_44 ?_
        refine lv_iconst (v := (0)) hx hb dX2_weigh_47 (by decide) ?_
        refine lv_iconst (v := (0)) hx hb dX2_weigh_48 (by decide) ?_
        refine x_iast (ws' := (W_X2 ca a (upd this_least 0 (0 : Int32)) this_others this_holders) ++ (W_X1 ca a_heap heap_kinds heap_whos heap_toWhoms heap_topics heap_weights heap_answered heap_deeds heap_size heap_saidBits heap_deedCount)) hx hb hK hP hD hS 1 rfl (vin_lit (by decide)) (k := 0) rfl rfl dX2_weigh_49 (fun H locs hP hD hS => ?_)
        refine lv_iconst (v := (1)) hx hb dX2_weigh_50 (by decide) ?_
        refine lv_istore_n (lv' := [(3, .int (1 : Int32)), (0, .ref (a 0)), (1, .ref (a_heap 0)), (2, .int x2)]) hx hb dX2_weigh_51 rfl hl (by decide) rfl (fun ls hl => ?_)
        obtain ⟨zn, h⟩ := h
        exact w_52  zn (upd this_least 0 (0 : Int32)) this_others this_holders x2 (1 : Int32) h _ _ hP hD hS ls (lv_sub hl [1, 2, 3, 0] rfl)
      · have h := h.2 hc
        refine lv_aload_n hx hb dX2_weigh_15 rfl (lv_at hl 0 rfl) ?_
        refine va_get (D := D) (ci := 2) (v := .ref (a 2)) (C := RX2) (T := TX2) (N := 3) hx hb hts hi_X2_weigh_X2 hown hK.1 hP 0 rfl rfl 1 (by decide) (hts _ k_X2_weigh_1) (fun _ h9 => h9) rfl dX2_weigh_16 ?_
        refine lv_iload_n hx hb dX2_weigh_19 rfl (lv_at hl 3 rfl) ?_
        refine lv_aload_n hx hb dX2_weigh_20 rfl (lv_at hl 1 rfl) ?_
        refine lv_iload_n hx hb dX2_weigh_21 rfl (lv_at hl 3 rfl) ?_
        refine rd_calli (va_runV (As := [.int x3]) (rest := [.int x3, .ref (a 2)]) ⟨hx, hb, hml, hown, hts⟩ (c_X1_others l D ca a_heap heap_kinds heap_whos heap_toWhoms heap_topics heap_weights heap_answered heap_deeds heap_size heap_saidBits heap_deedCount x3 _ h) (cwV 1 hts gX2_weigh_X1_others rfl rfl rfl (by decide +kernel) ⟨Nat.le_of_ble_eq_true rfl, Nat.le_of_ble_eq_true rfl⟩) (PcX.preV (q := (RX1, TX1, 10)) (ci := 1) (q0 := 4) hK hP rfl rfl (hP.subM [4, 5, 6, 7, 8, 9, 10, 11] rfl)) rfl rfl hl.1 rfl (lv_room (Nat.le_of_ble_eq_true rfl)) dX2_weigh_22 ⟨Nat.le_of_ble_eq_true rfl, Nat.le_of_ble_eq_true rfl⟩) (fun r4 h => ?_)
        try dsimp only at h
        obtain ⟨hi, h⟩ := h
        refine x_iast (ws' := (W_X2 ca a this_least (upd this_others (x3.toNatClampNeg) r4) this_holders) ++ (W_X1 ca a_heap heap_kinds heap_whos heap_toWhoms heap_topics heap_weights heap_answered heap_deeds heap_size heap_saidBits heap_deedCount)) hx hb hK hP hD hS 2 rfl hi (k := (x3.toNatClampNeg)) rfl rfl dX2_weigh_25 (fun H locs hP hD hS => ?_)
        refine lv_aload_n hx hb dX2_weigh_26 rfl (lv_at hl 0 rfl) ?_
        refine va_get (D := D) (ci := 2) (v := .ref (a 3)) (C := RX2) (T := TX2) (N := 3) hx hb hts hi_X2_weigh_X2 hown hK.1 hP 0 rfl rfl 2 (by decide) (hts _ k_X2_weigh_2) (fun _ h9 => h9) rfl dX2_weigh_27 ?_
        refine lv_iload_n hx hb dX2_weigh_30 rfl (lv_at hl 3 rfl) ?_
        refine lv_aload_n hx hb dX2_weigh_31 rfl (lv_at hl 1 rfl) ?_
        refine lv_iload_n hx hb dX2_weigh_32 rfl (lv_at hl 3 rfl) ?_
        refine rd_calli (va_runV (As := [.int x3]) (rest := [.int x3, .ref (a 3)]) ⟨hx, hb, hml, hown, hts⟩ (c_X1_holders l D ca a_heap heap_kinds heap_whos heap_toWhoms heap_topics heap_weights heap_answered heap_deeds heap_size heap_saidBits heap_deedCount x3 _ h) (cwV 1 hts gX2_weigh_X1_holders rfl rfl rfl (by decide +kernel) ⟨Nat.le_of_ble_eq_true rfl, Nat.le_of_ble_eq_true rfl⟩) (PcX.preV (q := (RX1, TX1, 10)) (ci := 1) (q0 := 4) hK hP rfl rfl (hP.subM [4, 5, 6, 7, 8, 9, 10, 11] rfl)) rfl rfl hl.1 rfl (lv_room (Nat.le_of_ble_eq_true rfl)) dX2_weigh_33 ⟨Nat.le_of_ble_eq_true rfl, Nat.le_of_ble_eq_true rfl⟩) (fun r5 h => ?_)
        try dsimp only at h
        obtain ⟨hi, h⟩ := h
        refine x_iast (ws' := (W_X2 ca a this_least (upd this_others (x3.toNatClampNeg) r4) (upd this_holders (x3.toNatClampNeg) r5)) ++ (W_X1 ca a_heap heap_kinds heap_whos heap_toWhoms heap_topics heap_weights heap_answered heap_deeds heap_size heap_saidBits heap_deedCount)) hx hb hK hP hD hS 3 rfl hi (k := (x3.toNatClampNeg)) rfl rfl dX2_weigh_36 (fun H locs hP hD hS => ?_)
        refine lv_iinc (v := x3 + 1) (lv' := [(3, .int (x3 + 1)), (0, .ref (a 0)), (1, .ref (a_heap 0)), (2, .int x2)]) hx hb dX2_weigh_37 hl (k := 3) rfl rfl (by decide) rfl (fun ls hl => ?_)
        refine lv_goto (tgt := 7) hx hb dX2_weigh_40 (by decide) ?_
        exact ih7 this_least (upd this_others (x3.toNatClampNeg) r4) (upd this_holders (x3.toNatClampNeg) r5) x2 (x3 + 1) h _ _ hP hD hS ls (lv_sub hl [1, 2, 3, 0] rfl)
  unfold wp_X2_weigh at h
  refine lv_aload_n hx hb dX2_weigh_0 rfl (lv_at hl 1 rfl) ?_
  refine rd_calli (va_runV (As := []) (rest := []) ⟨hx, hb, hml, hown, hts⟩ (c_X1_saidBits l D ca a_heap heap_kinds heap_whos heap_toWhoms heap_topics heap_weights heap_answered heap_deeds heap_size heap_saidBits heap_deedCount  _ h) (cwV 0 hts gX2_weigh_X1_saidBits rfl rfl rfl (by decide +kernel) ⟨Nat.le_of_ble_eq_true rfl, Nat.le_of_ble_eq_true rfl⟩) (PcX.preV (q := (RX1, TX1, 10)) (ci := 1) (q0 := 4) hK hP rfl rfl (hP.subM [4, 5, 6, 7, 8, 9, 10, 11] rfl)) rfl rfl hl.1 rfl (lv_room (Nat.le_of_ble_eq_true rfl)) dX2_weigh_1 ⟨Nat.le_of_ble_eq_true rfl, Nat.le_of_ble_eq_true rfl⟩) (fun r1 h => ?_)
  try dsimp only at h
  refine lv_istore_n (lv' := [(2, .int r1), (0, .ref (a 0)), (1, .ref (a_heap 0))]) hx hb dX2_weigh_4 rfl hl (by decide) rfl (fun ls hl => ?_)
  refine lv_iconst (v := (0)) hx hb dX2_weigh_5 (by decide) ?_
  refine lv_istore_n (lv' := [(3, .int (0 : Int32)), (2, .int r1), (0, .ref (a 0)), (1, .ref (a_heap 0))]) hx hb dX2_weigh_6 rfl hl (by decide) rfl (fun ls hl => ?_)
  obtain ⟨zn, h⟩ := h
  exact w_7  zn this_least this_others this_holders r1 (0 : Int32) h _ _ hP hD hS ls (lv_sub hl [2, 3, 1, 0] rfl)

-- IronedQuarrels$Ironing.firstOfCheapest(LIronedQuarrels$Heap;I)I
def wb_X2_firstOfCheapest_2 (this_least : Nat → Int32) (this_others : Nat → Int32) (this_holders : Nat → Int32) (heap_kinds : Nat → Int32) (heap_topics : Nat → Int32) (heap_weights : Nat → Int32) (heap_size : Int32) (left : Int32) (post : Int32 → Prop) (K2 : (Int32) → Prop) (x3 : Int32) : Prop :=
  wp_X1_howMany heap_size (fun r1 => ((r1 - (1 : Int32)) ≤ x3 → (post x3)) ∧ (¬ (r1 - (1 : Int32)) ≤ x3 → (wp_X2_canGo this_holders x3 left (fun r2 => (r2 = 0 → (K2 (x3 + 1))) ∧ (¬ r2 = 0 → (wp_X2_costFrom this_least this_others heap_kinds heap_topics heap_weights x3 left (fun r3 => vp_in left 4096 ∧ (r3 = (this_least left.toNatClampNeg) → (post x3)) ∧ (¬ r3 = (this_least left.toNatClampNeg) → (K2 (x3 + 1))))))))))
def wl_X2_firstOfCheapest_2 (this_least : Nat → Int32) (this_others : Nat → Int32) (this_holders : Nat → Int32) (heap_kinds : Nat → Int32) (heap_topics : Nat → Int32) (heap_weights : Nat → Int32) (heap_size : Int32) (left : Int32) (post : Int32 → Prop) : Nat → (Int32) → Prop
  | 0 => fun _ => False
  | zn + 1 => wb_X2_firstOfCheapest_2 this_least this_others this_holders heap_kinds heap_topics heap_weights heap_size left post (wl_X2_firstOfCheapest_2 this_least this_others this_holders heap_kinds heap_topics heap_weights heap_size left post zn)
def wp_X2_firstOfCheapest (this_least : Nat → Int32) (this_others : Nat → Int32) (this_holders : Nat → Int32) (heap_kinds : Nat → Int32) (heap_topics : Nat → Int32) (heap_weights : Nat → Int32) (heap_size : Int32) (left : Int32) (post : Int32 → Prop) : Prop :=
  ∃ zn, wl_X2_firstOfCheapest_2 this_least this_others this_holders heap_kinds heap_topics heap_weights heap_size left post zn (0 : Int32)
def rm_X2_firstOfCheapest : Room := { frames := 2, cells := 0, slots := 0, locals := 45 }
theorem k_X2_firstOfCheapest_1 : Cond.fieldLink RX2 9 "IronedQuarrels$Ironing" "least" "[I" ∈ wsX2_firstOfCheapest := List.mem_of_getElem? (i := 1) (by decide +kernel)
theorem hi_X2_firstOfCheapest_X1 : ∀ w ∈ wsX10, w ∈ wsX2_firstOfCheapest := fun w h => List.mem_cons_of_mem _ (List.mem_append_right _ h)
theorem hi_X2_firstOfCheapest_X2 : ∀ w ∈ wsX20, w ∈ wsX2_firstOfCheapest := fun w h => List.mem_cons_of_mem _ (List.mem_append_left _ (List.mem_append_right _ h))
set_option maxHeartbeats 4000000 in
set_option maxRecDepth 100000 in
theorem c_X2_firstOfCheapest (l : Launch) (D : va_G) (ca : Nat → ClassId) (a : Nat → Nat) (a_heap : Nat → Nat) (this_least : Nat → Int32) (this_others : Nat → Int32) (this_holders : Nat → Int32) (heap_kinds : Nat → Int32) (heap_whos : Nat → Int32) (heap_toWhoms : Nat → Int32) (heap_topics : Nat → Int32) (heap_weights : Nat → Int32) (heap_answered : Nat → Int32) (heap_deeds : Nat → Int32) (heap_size : Int32) (heap_saidBits : Int32) (heap_deedCount : Int32) (left : Int32) (post : Int32 → Prop) (h : wp_X2_firstOfCheapest this_least this_others this_holders heap_kinds heap_topics heap_weights heap_size left post) : Met l yX2_firstOfCheapest wsX2_firstOfCheapest rm_X2_firstOfCheapest (PcX D ca [.ref (a 0), .ref (a_heap 0), .int left] ((W_X2 ca a this_least this_others this_holders) ++ (W_X1 ca a_heap heap_kinds heap_whos heap_toWhoms heap_topics heap_weights heap_answered heap_deeds heap_size heap_saidBits heap_deedCount))) (rdI post) 0 0 (fun _ => False) := by
  refine Met.ofW (cc := cX2_firstOfCheapest) (maxL := 4) (ret := (some .int)) (by decide) rfl ?_
  intro zp ze zs zm za zb zt zc z1 B hml hv
  obtain ⟨rfl, hP, hK⟩ := hv
  have hx := B.exec
  have hb := B.bytes
  have hr := B.returns
  have hts := atoms_spec (ws := wsX2_firstOfCheapest) B.pre
  have hown : zs.vm.findClass RX2 = some zm.cls := findClass_of_methodNamed B.named
  have hlocks := B.notSynchronized
  have hl := lv_entry ([.ref (a 0), .ref (a_heap 0), .int left]) (n := 4) (Nat.le_of_ble_eq_true rfl)
  rw [lg_entry_eq]
  generalize (lg_sl ([.ref (a 0), .ref (a_heap 0), .int left]) ++ List.replicate (4 - (lg_sl ([.ref (a 0), .ref (a_heap 0), .int left])).length) Slot.unset).toArray = ls at hl ⊢
  replace hl : lv_has ls 4 [(0, .ref (a 0)), (1, .ref (a_heap 0)), (2, .int left)] := hl
  show W zp l ze rm_X2_firstOfCheapest zs zm ([.ref (a 0), .ref (a_heap 0), .int left] : List Value).toArray zb zt zc zs.heap [] 0 0 (MQ zb (rdI post) ([.ref (a 0), .ref (a_heap 0), .int left] : List Value).toArray zs 0 0 (fun _ => False)) (F0 zm 0 ls [])
  have w_2 : ∀ (zn : Nat) (x3 : Int32), wl_X2_firstOfCheapest_2 this_least this_others this_holders heap_kinds heap_topics heap_weights heap_size left post zn x3 → ∀ ls : Array Slot, lv_has ls 4 [(0, .ref (a 0)), (1, .ref (a_heap 0)), (2, .int left), (3, .int x3)] → W zp l ze rm_X2_firstOfCheapest zs zm ([.ref (a 0), .ref (a_heap 0), .int left] : List Value).toArray zb zt zc zs.heap [] 0 0 (MQ zb (rdI post) ([.ref (a 0), .ref (a_heap 0), .int left] : List Value).toArray zs 0 0 (fun _ => False)) (F0 zm 2 ls []) := by
    intro zn
    induction zn with
    | zero => intro x3 h; exact h.elim
    | succ zn ih2 =>
      intro x3 h ls hl
      replace h : wb_X2_firstOfCheapest_2 this_least this_others this_holders heap_kinds heap_topics heap_weights heap_size left post (wl_X2_firstOfCheapest_2 this_least this_others this_holders heap_kinds heap_topics heap_weights heap_size left post zn) x3 := h
      unfold wb_X2_firstOfCheapest_2 at h
      refine lv_iload_n hx hb dX2_firstOfCheapest_2 rfl (lv_at hl 3 rfl) ?_
      refine lv_aload_n hx hb dX2_firstOfCheapest_3 rfl (lv_at hl 1 rfl) ?_
      refine rd_calli (va_runV (As := []) (rest := [.int x3]) ⟨hx, hb, hml, hown, hts⟩ (c_X1_howMany l D ca a_heap heap_kinds heap_whos heap_toWhoms heap_topics heap_weights heap_answered heap_deeds heap_size heap_saidBits heap_deedCount  _ h) (cwV 0 hts gX2_firstOfCheapest_X1_howMany rfl rfl rfl (by decide +kernel) ⟨Nat.le_of_ble_eq_true rfl, Nat.le_of_ble_eq_true rfl⟩) (PcX.preV (q := (RX1, TX1, 10)) (ci := 1) (q0 := 4) hK hP rfl rfl (hP.subM [4, 5, 6, 7, 8, 9, 10, 11] rfl)) rfl rfl hl.1 rfl (lv_room (Nat.le_of_ble_eq_true rfl)) dX2_firstOfCheapest_4 ⟨Nat.le_of_ble_eq_true rfl, Nat.le_of_ble_eq_true rfl⟩) (fun r1 h => ?_)
      try dsimp only at h
      refine lv_iconst (v := (1)) hx hb dX2_firstOfCheapest_7 (by decide) ?_
      refine lv_isub hx hb dX2_firstOfCheapest_8 ?_
      refine lv_icmp_ge (tgt := 43) hx hb dX2_firstOfCheapest_9 (by decide) (fun hc => ?_) (fun hc => ?_)
      · have h := h.1 hc
        refine lv_iload_n hx hb dX2_firstOfCheapest_43 rfl (lv_at hl 3 rfl) ?_
        exact W.iret (v := x3) hx hb hr (fun t ht hW => ⟨x3, rfl, h, ht⟩) (fun q hq => absurd hq List.not_mem_nil) dX2_firstOfCheapest_44
      · have h := h.2 hc
        refine lv_aload_n hx hb dX2_firstOfCheapest_12 rfl (lv_at hl 0 rfl) ?_
        refine lv_iload_n hx hb dX2_firstOfCheapest_13 rfl (lv_at hl 3 rfl) ?_
        refine lv_iload_n hx hb dX2_firstOfCheapest_14 rfl (lv_at hl 2 rfl) ?_
        refine rd_callz (va_runV (As := [.int x3, .int left]) (rest := []) ⟨hx, hb, hml, hown, hts⟩ (c_X2_canGo l D ca a this_least this_others this_holders x3 left _ h) (cwV 2 hts gX2_firstOfCheapest_X2_canGo rfl rfl rfl (by decide +kernel) ⟨Nat.le_of_ble_eq_true rfl, Nat.le_of_ble_eq_true rfl⟩) (PcX.preV (q := (RX2, TX2, 3)) (ci := 2) (q0 := 0) hK hP rfl rfl (hP.subM [0, 1, 2, 3] rfl)) rfl rfl hl.1 rfl (lv_room (Nat.le_of_ble_eq_true rfl)) dX2_firstOfCheapest_15 ⟨Nat.le_of_ble_eq_true rfl, Nat.le_of_ble_eq_true rfl⟩) (fun r2 h hz_r2 => ?_)
        try dsimp only at h
        refine lv_if_eq (tgt := 37) hx hb dX2_firstOfCheapest_18 (by decide) (fun hc => ?_) (fun hc => ?_)
        · have h := h.1 hc
          refine lv_iinc (v := x3 + 1) (lv' := [(3, .int (x3 + 1)), (0, .ref (a 0)), (1, .ref (a_heap 0)), (2, .int left)]) hx hb dX2_firstOfCheapest_37 hl (k := 3) rfl rfl (by decide) rfl (fun ls hl => ?_)
          refine lv_goto (tgt := 2) hx hb dX2_firstOfCheapest_40 (by decide) ?_
          exact ih2 (x3 + 1) h ls (lv_sub hl [1, 2, 3, 0] rfl)
        · have h := h.2 hc
          refine lv_aload_n hx hb dX2_firstOfCheapest_21 rfl (lv_at hl 0 rfl) ?_
          refine lv_aload_n hx hb dX2_firstOfCheapest_22 rfl (lv_at hl 1 rfl) ?_
          refine lv_iload_n hx hb dX2_firstOfCheapest_23 rfl (lv_at hl 3 rfl) ?_
          refine lv_iload_n hx hb dX2_firstOfCheapest_24 rfl (lv_at hl 2 rfl) ?_
          refine rd_calli (va_runV (As := [.ref (a_heap 0), .int x3, .int left]) (rest := []) ⟨hx, hb, hml, hown, hts⟩ (c_X2_costFrom l D ca a a_heap this_least this_others this_holders heap_kinds heap_whos heap_toWhoms heap_topics heap_weights heap_answered heap_deeds heap_size heap_saidBits heap_deedCount x3 left _ h) (cwV 3 hts gX2_firstOfCheapest_X2_costFrom rfl rfl rfl (by decide +kernel) ⟨Nat.le_of_ble_eq_true rfl, Nat.le_of_ble_eq_true rfl⟩) (PcX.preV (q := (RX2, TX2, 3)) (ci := 2) (q0 := 0) hK hP rfl rfl hP) rfl rfl hl.1 rfl (lv_room (Nat.le_of_ble_eq_true rfl)) dX2_firstOfCheapest_25 ⟨Nat.le_of_ble_eq_true rfl, Nat.le_of_ble_eq_true rfl⟩) (fun r3 h => ?_)
          try dsimp only at h
          refine lv_aload_n hx hb dX2_firstOfCheapest_28 rfl (lv_at hl 0 rfl) ?_
          refine va_get (D := D) (ci := 2) (v := .ref (a 1)) (C := RX2) (T := TX2) (N := 3) hx hb hts hi_X2_firstOfCheapest_X2 hown hK.1 hP 0 rfl rfl 0 (by decide) (hts _ k_X2_firstOfCheapest_1) (fun _ h9 => h9) rfl dX2_firstOfCheapest_29 ?_
          refine lv_iload_n hx hb dX2_firstOfCheapest_32 rfl (lv_at hl 2 rfl) ?_
          obtain ⟨hi, h⟩ := h
          refine x_iald (v := this_least left.toNatClampNeg) hx hb hK hP 1 rfl hi rfl dX2_firstOfCheapest_33 ?_
          refine lv_icmp_eq (tgt := 43) hx hb dX2_firstOfCheapest_34 (by decide) (fun hc => ?_) (fun hc => ?_)
          · have h := h.1 hc
            refine lv_iload_n hx hb dX2_firstOfCheapest_43 rfl (lv_at hl 3 rfl) ?_
            exact W.iret (v := x3) hx hb hr (fun t ht hW => ⟨x3, rfl, h, ht⟩) (fun q hq => absurd hq List.not_mem_nil) dX2_firstOfCheapest_44
          · have h := h.2 hc
            refine lv_iinc (v := x3 + 1) (lv' := [(3, .int (x3 + 1)), (0, .ref (a 0)), (1, .ref (a_heap 0)), (2, .int left)]) hx hb dX2_firstOfCheapest_37 hl (k := 3) rfl rfl (by decide) rfl (fun ls hl => ?_)
            refine lv_goto (tgt := 2) hx hb dX2_firstOfCheapest_40 (by decide) ?_
            exact ih2 (x3 + 1) h ls (lv_sub hl [1, 2, 3, 0] rfl)
  unfold wp_X2_firstOfCheapest at h
  refine lv_iconst (v := (0)) hx hb dX2_firstOfCheapest_0 (by decide) ?_
  refine lv_istore_n (lv' := [(3, .int (0 : Int32)), (0, .ref (a 0)), (1, .ref (a_heap 0)), (2, .int left)]) hx hb dX2_firstOfCheapest_1 rfl hl (by decide) rfl (fun ls hl => ?_)
  obtain ⟨zn, h⟩ := h
  exact w_2  zn (0 : Int32) h ls (lv_sub hl [1, 2, 3, 0] rfl)

-- IronedQuarrels$Ironing.writeCheapest(LIronedQuarrels$Heap;LIronedQuarrels$Shelf;I)V
def wb_X2_writeCheapest_24 (this_least : Nat → Int32) (this_others : Nat → Int32) (this_holders : Nat → Int32) (heap_kinds : Nat → Int32) (heap_topics : Nat → Int32) (heap_weights : Nat → Int32) (heap_size : Int32) (rows_nc : Nat) (rows_width : Int32) (r : Int32) (post : (Nat → Int32) → (Nat → Int32) → Prop) (K24 : (Nat → Int32) → (Nat → Int32) → (Int32) → (Int32) → (Int32) → Prop) (rows_sizes : Nat → Int32) (rows_cells : Nat → Int32) (x4 : Int32) (x5 : Int32) (x6 : Int32) : Prop :=
  (x5 ≤ x6 → (post rows_sizes rows_cells)) ∧ (¬ x5 ≤ x6 → (wp_X2_firstOfCheapest this_least this_others this_holders heap_kinds heap_topics heap_weights heap_size x4 (fun r5 => wp_X5_setCell rows_nc rows_width rows_cells r x6 r5 (fun rows_cells_6 => wp_X7_bit r5 (fun r7 => K24 rows_sizes rows_cells_6 (x4 &&& (r7 ^^^ (-1 : Int32))) x5 (x6 + 1))))))
def wl_X2_writeCheapest_24 (this_least : Nat → Int32) (this_others : Nat → Int32) (this_holders : Nat → Int32) (heap_kinds : Nat → Int32) (heap_topics : Nat → Int32) (heap_weights : Nat → Int32) (heap_size : Int32) (rows_nc : Nat) (rows_width : Int32) (r : Int32) (post : (Nat → Int32) → (Nat → Int32) → Prop) : Nat → (Nat → Int32) → (Nat → Int32) → (Int32) → (Int32) → (Int32) → Prop
  | 0 => fun _ _ _ _ _ => False
  | zn + 1 => wb_X2_writeCheapest_24 this_least this_others this_holders heap_kinds heap_topics heap_weights heap_size rows_nc rows_width r post (wl_X2_writeCheapest_24 this_least this_others this_holders heap_kinds heap_topics heap_weights heap_size rows_nc rows_width r post zn)
def wp_X2_writeCheapest (this_least : Nat → Int32) (this_others : Nat → Int32) (this_holders : Nat → Int32) (heap_kinds : Nat → Int32) (heap_topics : Nat → Int32) (heap_weights : Nat → Int32) (heap_size : Int32) (heap_saidBits : Int32) (rows_ns : Nat) (rows_nc : Nat) (rows_width : Int32) (rows_sizes : Nat → Int32) (rows_cells : Nat → Int32) (r : Int32) (post : (Nat → Int32) → (Nat → Int32) → Prop) : Prop :=
  wp_X1_saidBits heap_saidBits (fun r1 => wp_J6_bitCount_0f7a4 r1 (fun r2 => wp_X5_makeAnew rows_ns rows_nc rows_width rows_sizes rows_cells r r2 (0 : Int32) (fun rows_sizes_3 rows_cells_4 => ∃ zn, wl_X2_writeCheapest_24 this_least this_others this_holders heap_kinds heap_topics heap_weights heap_size rows_nc rows_width r post zn rows_sizes_3 rows_cells_4 r1 r2 (0 : Int32))))
def rm_X2_writeCheapest : Room := { frames := 3, cells := 0, slots := 0, locals := 69 }
theorem k_X2_writeCheapest_46 : Cond.initialized RX7 ∈ wsX2_writeCheapest := List.mem_of_getElem? (i := 46) (by decide +kernel)
theorem k_X2_writeCheapest_60 : Cond.static yX7_bit ∈ wsX2_writeCheapest := List.mem_of_getElem? (i := 60) (by decide +kernel)
theorem hi_X2_writeCheapest_X1 : ∀ w ∈ wsX10, w ∈ wsX2_writeCheapest := fun w h => List.mem_cons_of_mem _ (List.mem_append_left _ (List.mem_append_left _ (List.mem_append_right _ h)))
theorem hi_X2_writeCheapest_X2 : ∀ w ∈ wsX20, w ∈ wsX2_writeCheapest := fun w h => List.mem_cons_of_mem _ (List.mem_append_right _ h)
theorem hi_X2_writeCheapest_X5 : ∀ w ∈ wsX50, w ∈ wsX2_writeCheapest := fun w h => List.mem_cons_of_mem _ (List.mem_append_left _ (List.mem_append_right _ h))
set_option maxHeartbeats 4000000 in
set_option maxRecDepth 100000 in
theorem c_X2_writeCheapest (l : Launch) (D : va_G) (ca : Nat → ClassId) (a : Nat → Nat) (a_heap : Nat → Nat) (a_rows : Nat → Nat) (this_least : Nat → Int32) (this_others : Nat → Int32) (this_holders : Nat → Int32) (heap_kinds : Nat → Int32) (heap_whos : Nat → Int32) (heap_toWhoms : Nat → Int32) (heap_topics : Nat → Int32) (heap_weights : Nat → Int32) (heap_answered : Nat → Int32) (heap_deeds : Nat → Int32) (heap_size : Int32) (heap_saidBits : Int32) (heap_deedCount : Int32) (rows_ns : Nat) (rows_nc : Nat) (rows_width : Int32) (rows_sizes : Nat → Int32) (rows_cells : Nat → Int32) (r : Int32) (post : (Nat → Int32) → (Nat → Int32) → Prop) (hd : va_D (fun _ => True) ((W_X2 ca a this_least this_others this_holders) ++ (W_X1 ca a_heap heap_kinds heap_whos heap_toWhoms heap_topics heap_weights heap_answered heap_deeds heap_size heap_saidBits heap_deedCount) ++ (W_X5 ca a_rows rows_ns rows_nc rows_width rows_sizes rows_cells))) (h : wp_X2_writeCheapest this_least this_others this_holders heap_kinds heap_topics heap_weights heap_size heap_saidBits rows_ns rows_nc rows_width rows_sizes rows_cells r post) : Met l yX2_writeCheapest wsX2_writeCheapest rm_X2_writeCheapest (PcX D ca [.ref (a 0), .ref (a_heap 0), .ref (a_rows 0), .int r] ((W_X2 ca a this_least this_others this_holders) ++ (W_X1 ca a_heap heap_kinds heap_whos heap_toWhoms heap_topics heap_weights heap_answered heap_deeds heap_size heap_saidBits heap_deedCount) ++ (W_X5 ca a_rows rows_ns rows_nc rows_width rows_sizes rows_cells))) (wrV (S := (Nat → Int32) × (Nat → Int32)) D ((W_X2 ca a this_least this_others this_holders) ++ (W_X1 ca a_heap heap_kinds heap_whos heap_toWhoms heap_topics heap_weights heap_answered heap_deeds heap_size heap_saidBits heap_deedCount) ++ (W_X5 ca a_rows rows_ns rows_nc rows_width rows_sizes rows_cells)) (fun u => (W_X2 ca a this_least this_others this_holders) ++ (W_X1 ca a_heap heap_kinds heap_whos heap_toWhoms heap_topics heap_weights heap_answered heap_deeds heap_size heap_saidBits heap_deedCount) ++ (W_X5 ca a_rows rows_ns rows_nc rows_width u.1 u.2)) (fun u => post u.1 u.2)) 0 0 (adr ((W_X2 ca a this_least this_others this_holders) ++ (W_X1 ca a_heap heap_kinds heap_whos heap_toWhoms heap_topics heap_weights heap_answered heap_deeds heap_size heap_saidBits heap_deedCount) ++ (W_X5 ca a_rows rows_ns rows_nc rows_width rows_sizes rows_cells))) := by
  refine Met.ofW (cc := cX2_writeCheapest) (maxL := 8) (ret := none) (by decide) rfl ?_
  intro zp ze zs zm za zb zt zc z1 B hml hv
  obtain ⟨rfl, hP, hK⟩ := hv
  have hx := B.exec
  have hb := B.bytes
  have hr := B.returns
  have hts := atoms_spec (ws := wsX2_writeCheapest) B.pre
  have hown : zs.vm.findClass RX2 = some zm.cls := findClass_of_methodNamed B.named
  have hlocks := B.notSynchronized
  have hD : va_D (adr ((W_X2 ca a this_least this_others this_holders) ++ (W_X1 ca a_heap heap_kinds heap_whos heap_toWhoms heap_topics heap_weights heap_answered heap_deeds heap_size heap_saidBits heap_deedCount) ++ (W_X5 ca a_rows rows_ns rows_nc rows_width rows_sizes rows_cells))) ((W_X2 ca a this_least this_others this_holders) ++ (W_X1 ca a_heap heap_kinds heap_whos heap_toWhoms heap_topics heap_weights heap_answered heap_deeds heap_size heap_saidBits heap_deedCount) ++ (W_X5 ca a_rows rows_ns rows_nc rows_width rows_sizes rows_cells)) := hd.adr
  have hS : va_S (adr ((W_X2 ca a this_least this_others this_holders) ++ (W_X1 ca a_heap heap_kinds heap_whos heap_toWhoms heap_topics heap_weights heap_answered heap_deeds heap_size heap_saidBits heap_deedCount) ++ (W_X5 ca a_rows rows_ns rows_nc rows_width rows_sizes rows_cells))) zs.heap zs.heap [] := va_S.rf
  have hl := lv_entry ([.ref (a 0), .ref (a_heap 0), .ref (a_rows 0), .int r]) (n := 8) (Nat.le_of_ble_eq_true rfl)
  rw [lg_entry_eq]
  generalize (lg_sl ([.ref (a 0), .ref (a_heap 0), .ref (a_rows 0), .int r]) ++ List.replicate (8 - (lg_sl ([.ref (a 0), .ref (a_heap 0), .ref (a_rows 0), .int r])).length) Slot.unset).toArray = ls at hl ⊢
  replace hl : lv_has ls 8 [(0, .ref (a 0)), (1, .ref (a_heap 0)), (2, .ref (a_rows 0)), (3, .int r)] := hl
  show W zp l ze rm_X2_writeCheapest zs zm ([.ref (a 0), .ref (a_heap 0), .ref (a_rows 0), .int r] : List Value).toArray zb zt zc zs.heap [] 0 0 (MQ zb (wrV (S := (Nat → Int32) × (Nat → Int32)) D ((W_X2 ca a this_least this_others this_holders) ++ (W_X1 ca a_heap heap_kinds heap_whos heap_toWhoms heap_topics heap_weights heap_answered heap_deeds heap_size heap_saidBits heap_deedCount) ++ (W_X5 ca a_rows rows_ns rows_nc rows_width rows_sizes rows_cells)) (fun u => (W_X2 ca a this_least this_others this_holders) ++ (W_X1 ca a_heap heap_kinds heap_whos heap_toWhoms heap_topics heap_weights heap_answered heap_deeds heap_size heap_saidBits heap_deedCount) ++ (W_X5 ca a_rows rows_ns rows_nc rows_width u.1 u.2)) (fun u => post u.1 u.2)) ([.ref (a 0), .ref (a_heap 0), .ref (a_rows 0), .int r] : List Value).toArray zs 0 0 (adr ((W_X2 ca a this_least this_others this_holders) ++ (W_X1 ca a_heap heap_kinds heap_whos heap_toWhoms heap_topics heap_weights heap_answered heap_deeds heap_size heap_saidBits heap_deedCount) ++ (W_X5 ca a_rows rows_ns rows_nc rows_width rows_sizes rows_cells)))) (F0 zm 0 ls [])
  have w_24 : ∀ (zn : Nat) (rows_sizes : Nat → Int32) (rows_cells : Nat → Int32) (x4 : Int32) (x5 : Int32) (x6 : Int32), wl_X2_writeCheapest_24 this_least this_others this_holders heap_kinds heap_topics heap_weights heap_size rows_nc rows_width r post zn rows_sizes rows_cells x4 x5 x6 → ∀ (H : Heap) (locs : List Loc), va_P D vwCl ((W_X2 ca a this_least this_others this_holders) ++ (W_X1 ca a_heap heap_kinds heap_whos heap_toWhoms heap_topics heap_weights heap_answered heap_deeds heap_size heap_saidBits heap_deedCount) ++ (W_X5 ca a_rows rows_ns rows_nc rows_width rows_sizes rows_cells)) H → va_D (adr ((W_X2 ca a this_least this_others this_holders) ++ (W_X1 ca a_heap heap_kinds heap_whos heap_toWhoms heap_topics heap_weights heap_answered heap_deeds heap_size heap_saidBits heap_deedCount) ++ (W_X5 ca a_rows rows_ns rows_nc rows_width rows_sizes rows_cells))) ((W_X2 ca a this_least this_others this_holders) ++ (W_X1 ca a_heap heap_kinds heap_whos heap_toWhoms heap_topics heap_weights heap_answered heap_deeds heap_size heap_saidBits heap_deedCount) ++ (W_X5 ca a_rows rows_ns rows_nc rows_width rows_sizes rows_cells)) → va_S (adr ((W_X2 ca a this_least this_others this_holders) ++ (W_X1 ca a_heap heap_kinds heap_whos heap_toWhoms heap_topics heap_weights heap_answered heap_deeds heap_size heap_saidBits heap_deedCount) ++ (W_X5 ca a_rows rows_ns rows_nc rows_width rows_sizes rows_cells))) zs.heap H locs → ∀ ls : Array Slot, lv_has ls 8 [(0, .ref (a 0)), (1, .ref (a_heap 0)), (2, .ref (a_rows 0)), (3, .int r), (4, .int x4), (5, .int x5), (6, .int x6)] → W zp l ze rm_X2_writeCheapest zs zm ([.ref (a 0), .ref (a_heap 0), .ref (a_rows 0), .int r] : List Value).toArray zb zt zc H locs 0 0 (MQ zb (wrV (S := (Nat → Int32) × (Nat → Int32)) D ((W_X2 ca a this_least this_others this_holders) ++ (W_X1 ca a_heap heap_kinds heap_whos heap_toWhoms heap_topics heap_weights heap_answered heap_deeds heap_size heap_saidBits heap_deedCount) ++ (W_X5 ca a_rows rows_ns rows_nc rows_width rows_sizes rows_cells)) (fun u => (W_X2 ca a this_least this_others this_holders) ++ (W_X1 ca a_heap heap_kinds heap_whos heap_toWhoms heap_topics heap_weights heap_answered heap_deeds heap_size heap_saidBits heap_deedCount) ++ (W_X5 ca a_rows rows_ns rows_nc rows_width u.1 u.2)) (fun u => post u.1 u.2)) ([.ref (a 0), .ref (a_heap 0), .ref (a_rows 0), .int r] : List Value).toArray zs 0 0 (adr ((W_X2 ca a this_least this_others this_holders) ++ (W_X1 ca a_heap heap_kinds heap_whos heap_toWhoms heap_topics heap_weights heap_answered heap_deeds heap_size heap_saidBits heap_deedCount) ++ (W_X5 ca a_rows rows_ns rows_nc rows_width rows_sizes rows_cells)))) (F0 zm 24 ls []) := by
    intro zn
    induction zn with
    | zero => intro rows_sizes rows_cells x4 x5 x6 h; exact h.elim
    | succ zn ih24 =>
      intro rows_sizes rows_cells x4 x5 x6 h H locs hP hD hS ls hl
      replace h : wb_X2_writeCheapest_24 this_least this_others this_holders heap_kinds heap_topics heap_weights heap_size rows_nc rows_width r post (wl_X2_writeCheapest_24 this_least this_others this_holders heap_kinds heap_topics heap_weights heap_size rows_nc rows_width r post zn) rows_sizes rows_cells x4 x5 x6 := h
      unfold wb_X2_writeCheapest_24 at h
      refine lv_iload hx hb dX2_writeCheapest_24 (lv_at hl 6 rfl) ?_
      refine lv_iload hx hb dX2_writeCheapest_26 (lv_at hl 5 rfl) ?_
      refine lv_icmp_ge (tgt := 67) hx hb dX2_writeCheapest_28 (by decide) (fun hc => ?_) (fun hc => ?_)
      · have h := h.1 hc
        exact W.vret hx hb hr (fun t ht hW => ⟨⟨(rows_sizes, rows_cells), rfl, h, by rw [ht]; exact hP⟩, hS.F ht⟩) hS.2.2 dX2_writeCheapest_67
      · have h := h.2 hc
        refine lv_aload_n hx hb dX2_writeCheapest_31 rfl (lv_at hl 0 rfl) ?_
        refine lv_aload_n hx hb dX2_writeCheapest_32 rfl (lv_at hl 1 rfl) ?_
        refine lv_iload hx hb dX2_writeCheapest_33 (lv_at hl 4 rfl) ?_
        refine rd_calli (va_runV (As := [.ref (a_heap 0), .int x4]) (rest := []) ⟨hx, hb, hml, hown, hts⟩ (c_X2_firstOfCheapest l D ca a a_heap this_least this_others this_holders heap_kinds heap_whos heap_toWhoms heap_topics heap_weights heap_answered heap_deeds heap_size heap_saidBits heap_deedCount x4 _ h) (cwV 2 hts gX2_writeCheapest_X2_firstOfCheapest rfl rfl rfl (by decide +kernel) ⟨Nat.le_of_ble_eq_true rfl, Nat.le_of_ble_eq_true rfl⟩) (PcX.preV (q := (RX2, TX2, 3)) (ci := 2) (q0 := 0) hK hP rfl rfl (hP.subM [0, 1, 2, 3, 4, 5, 6, 7, 8, 9, 10, 11] rfl)) rfl rfl hl.1 rfl (lv_room (Nat.le_of_ble_eq_true rfl)) dX2_writeCheapest_35 ⟨Nat.le_of_ble_eq_true rfl, Nat.le_of_ble_eq_true rfl⟩) (fun r5 h => ?_)
        try dsimp only at h
        refine lv_istore (lv' := [(7, .int r5), (0, .ref (a 0)), (1, .ref (a_heap 0)), (2, .ref (a_rows 0)), (3, .int r), (4, .int x4), (5, .int x5), (6, .int x6)]) hx hb dX2_writeCheapest_38 hl (by decide) rfl (fun ls hl => ?_)
        refine lv_aload_n hx hb dX2_writeCheapest_40 rfl (lv_at hl 3 rfl) ?_
        refine lv_iload_n hx hb dX2_writeCheapest_41 rfl (lv_at hl 4 rfl) ?_
        refine lv_iload hx hb dX2_writeCheapest_42 (lv_at hl 7 rfl) ?_
        refine lv_iload hx hb dX2_writeCheapest_44 (lv_at hl 0 rfl) ?_
        refine wr_callv (ws1 := fun u => (W_X2 ca a this_least this_others this_holders) ++ (W_X1 ca a_heap heap_kinds heap_whos heap_toWhoms heap_topics heap_weights heap_answered heap_deeds heap_size heap_saidBits heap_deedCount) ++ (W_X5 ca a_rows rows_ns rows_nc rows_width rows_sizes u)) (wr := ([0, 1, 2, 3, 4, 5, 6, 7, 8, 9, 10, 11] : List Nat).filterMap (fun i => ((W_X2 ca a this_least this_others this_holders) ++ (W_X1 ca a_heap heap_kinds heap_whos heap_toWhoms heap_topics heap_weights heap_answered heap_deeds heap_size heap_saidBits heap_deedCount) ++ (W_X5 ca a_rows rows_ns rows_nc rows_width rows_sizes rows_cells) : va_W)[i]?)) (n := 15) (va_runV (As := [.int r, .int x6, .int r5]) (rest := []) ⟨hx, hb, hml, hown, hts⟩ (c_X5_setCell l D ca a_rows rows_ns rows_nc rows_width rows_sizes rows_cells r x6 r5 _ (hD.subM [12, 13, 14] (by decide) rfl) h) (cwV 3 hts gX2_writeCheapest_X5_setCell rfl rfl rfl (by decide +kernel) ⟨Nat.le_of_ble_eq_true rfl, Nat.le_of_ble_eq_true rfl⟩) (PcX.preV (q := (RX5, TX5, 3)) (ci := 4) (q0 := 12) hK hP rfl rfl (hP.subM [12, 13, 14] rfl)) rfl rfl hl.1 rfl (lv_room (Nat.le_of_ble_eq_true rfl)) dX2_writeCheapest_46 ⟨Nat.le_of_ble_eq_true rfl, Nat.le_of_ble_eq_true rfl⟩) hP hD hS [12, 13, 14] [0, 1, 2, 3, 4, 5, 6, 7, 8, 9, 10, 11] rfl (fun _ => rfl) rfl (fun _ => rfl) (fun _ => rfl) (fun _ => rfl) (by decide +kernel) (by decide +kernel) (fun u H locs h hP hD hS => ?_)
        obtain ⟨rows_cells_6, rfl⟩ : ∃ z, z = u := ⟨u, rfl⟩
        have hP : va_P D vwCl ((W_X2 ca a this_least this_others this_holders) ++ (W_X1 ca a_heap heap_kinds heap_whos heap_toWhoms heap_topics heap_weights heap_answered heap_deeds heap_size heap_saidBits heap_deedCount) ++ (W_X5 ca a_rows rows_ns rows_nc rows_width rows_sizes rows_cells_6)) H := hP
        have hD : va_D _ ((W_X2 ca a this_least this_others this_holders) ++ (W_X1 ca a_heap heap_kinds heap_whos heap_toWhoms heap_topics heap_weights heap_answered heap_deeds heap_size heap_saidBits heap_deedCount) ++ (W_X5 ca a_rows rows_ns rows_nc rows_width rows_sizes rows_cells_6)) := hD
        try dsimp only at h
        refine lv_iload hx hb dX2_writeCheapest_49 (lv_at hl 5 rfl) ?_
        refine lv_iload hx hb dX2_writeCheapest_51 (lv_at hl 0 rfl) ?_
        refine rd_calli (va_runSN (As := [.int r5]) (rest := [.int x4]) ⟨hx, hb, hml, hown, hts⟩ (c_X7_bit l D ca   r5 _ h) ⟨va_cnB 1 hts gX2_writeCheapest_X7_bit_n65 rfl rfl rfl (hK.2 (RX2, 65, yX7_bit, "IronedQuarrels") (List.mem_of_getElem? (i := 10) rfl)) (hts _ k_X2_writeCheapest_46) (by decide +kernel) ⟨Nat.le_of_ble_eq_true rfl, Nat.le_of_ble_eq_true rfl⟩, hts _ k_X2_writeCheapest_60, trivial⟩ (PcX.preS hK (fun k q h => by simp at h)) rfl rfl hl.1 rfl (lv_room (Nat.le_of_ble_eq_true rfl)) dX2_writeCheapest_53 ⟨Nat.le_of_ble_eq_true rfl, Nat.le_of_ble_eq_true rfl⟩) (fun r7 h => ?_)
        try dsimp only at h
        refine lv_iconst (v := (-1)) hx hb dX2_writeCheapest_56 (by decide) ?_
        refine lv_ixor hx hb dX2_writeCheapest_57 ?_
        refine lv_iand hx hb dX2_writeCheapest_58 ?_
        refine lv_istore (lv' := [(4, .int (x4 &&& (r7 ^^^ (-1 : Int32)))), (7, .int r5), (0, .ref (a 0)), (1, .ref (a_heap 0)), (2, .ref (a_rows 0)), (3, .int r), (5, .int x5), (6, .int x6)]) hx hb dX2_writeCheapest_59 hl (by decide) rfl (fun ls hl => ?_)
        refine lv_iinc (v := x6 + 1) (lv' := [(6, .int (x6 + 1)), (4, .int (x4 &&& (r7 ^^^ (-1 : Int32)))), (7, .int r5), (0, .ref (a 0)), (1, .ref (a_heap 0)), (2, .ref (a_rows 0)), (3, .int r), (5, .int x5)]) hx hb dX2_writeCheapest_61 hl (k := 7) rfl rfl (by decide) rfl (fun ls hl => ?_)
        refine lv_goto (tgt := 24) hx hb dX2_writeCheapest_64 (by decide) ?_
        exact ih24 rows_sizes rows_cells_6 (x4 &&& (r7 ^^^ (-1 : Int32))) x5 (x6 + 1) h _ _ hP hD hS ls (lv_sub hl [3, 4, 5, 6, 1, 7, 0] rfl)
  unfold wp_X2_writeCheapest at h
  refine lv_aload_n hx hb dX2_writeCheapest_0 rfl (lv_at hl 1 rfl) ?_
  refine rd_calli (va_runV (As := []) (rest := []) ⟨hx, hb, hml, hown, hts⟩ (c_X1_saidBits l D ca a_heap heap_kinds heap_whos heap_toWhoms heap_topics heap_weights heap_answered heap_deeds heap_size heap_saidBits heap_deedCount  _ h) (cwV 0 hts gX2_writeCheapest_X1_saidBits rfl rfl rfl (by decide +kernel) ⟨Nat.le_of_ble_eq_true rfl, Nat.le_of_ble_eq_true rfl⟩) (PcX.preV (q := (RX1, TX1, 10)) (ci := 1) (q0 := 4) hK hP rfl rfl (hP.subM [4, 5, 6, 7, 8, 9, 10, 11] rfl)) rfl rfl hl.1 rfl (lv_room (Nat.le_of_ble_eq_true rfl)) dX2_writeCheapest_1 ⟨Nat.le_of_ble_eq_true rfl, Nat.le_of_ble_eq_true rfl⟩) (fun r1 h => ?_)
  try dsimp only at h
  refine lv_istore (lv' := [(4, .int r1), (0, .ref (a 0)), (1, .ref (a_heap 0)), (2, .ref (a_rows 0)), (3, .int r)]) hx hb dX2_writeCheapest_4 hl (by decide) rfl (fun ls hl => ?_)
  refine lv_iload hx hb dX2_writeCheapest_6 (lv_at hl 0 rfl) ?_
  refine rd_calli (va_runS (As := [.int r1]) (rest := []) ⟨hx, hb, hml, hown, hts⟩ (c_J6_bitCount_0f7a4 l D ca   r1 _ h) (va_cwS 1 hts gX2_writeCheapest_J6_bitCount_0f7a4 rfl rfl rfl (by decide +kernel) ⟨Nat.le_of_ble_eq_true rfl, Nat.le_of_ble_eq_true rfl⟩) (PcX.preS hK (fun k q h => by simp at h)) rfl rfl hl.1 rfl (lv_room (Nat.le_of_ble_eq_true rfl)) dX2_writeCheapest_8 ⟨Nat.le_of_ble_eq_true rfl, Nat.le_of_ble_eq_true rfl⟩) (fun r2 h => ?_)
  try dsimp only at h
  refine lv_istore (lv' := [(5, .int r2), (4, .int r1), (0, .ref (a 0)), (1, .ref (a_heap 0)), (2, .ref (a_rows 0)), (3, .int r)]) hx hb dX2_writeCheapest_11 hl (by decide) rfl (fun ls hl => ?_)
  refine lv_aload_n hx hb dX2_writeCheapest_13 rfl (lv_at hl 4 rfl) ?_
  refine lv_iload_n hx hb dX2_writeCheapest_14 rfl (lv_at hl 5 rfl) ?_
  refine lv_iload hx hb dX2_writeCheapest_15 (lv_at hl 0 rfl) ?_
  refine lv_iconst (v := (0)) hx hb dX2_writeCheapest_17 (by decide) ?_
  refine wr_callv (ws1 := fun u => (W_X2 ca a this_least this_others this_holders) ++ (W_X1 ca a_heap heap_kinds heap_whos heap_toWhoms heap_topics heap_weights heap_answered heap_deeds heap_size heap_saidBits heap_deedCount) ++ (W_X5 ca a_rows rows_ns rows_nc rows_width u.1 u.2)) (wr := ([0, 1, 2, 3, 4, 5, 6, 7, 8, 9, 10, 11] : List Nat).filterMap (fun i => ((W_X2 ca a this_least this_others this_holders) ++ (W_X1 ca a_heap heap_kinds heap_whos heap_toWhoms heap_topics heap_weights heap_answered heap_deeds heap_size heap_saidBits heap_deedCount) ++ (W_X5 ca a_rows rows_ns rows_nc rows_width rows_sizes rows_cells) : va_W)[i]?)) (n := 15) (va_runV (As := [.int r, .int r2, .int (0 : Int32)]) (rest := []) ⟨hx, hb, hml, hown, hts⟩ (c_X5_makeAnew l D ca a_rows rows_ns rows_nc rows_width rows_sizes rows_cells r r2 (0 : Int32) _ (hD.subM [12, 13, 14] (by decide) rfl) h) (cwV 3 hts gX2_writeCheapest_X5_makeAnew rfl rfl rfl (by decide +kernel) ⟨Nat.le_of_ble_eq_true rfl, Nat.le_of_ble_eq_true rfl⟩) (PcX.preV (q := (RX5, TX5, 3)) (ci := 4) (q0 := 12) hK hP rfl rfl (hP.subM [12, 13, 14] rfl)) rfl rfl hl.1 rfl (lv_room (Nat.le_of_ble_eq_true rfl)) dX2_writeCheapest_18 ⟨Nat.le_of_ble_eq_true rfl, Nat.le_of_ble_eq_true rfl⟩) hP hD hS [12, 13, 14] [0, 1, 2, 3, 4, 5, 6, 7, 8, 9, 10, 11] rfl (fun _ => rfl) rfl (fun _ => rfl) (fun _ => rfl) (fun _ => rfl) (by decide +kernel) (by decide +kernel) (fun u H locs h hP hD hS => ?_)
  obtain ⟨rows_sizes_3, rows_cells_4⟩ := u
  have hP : va_P D vwCl ((W_X2 ca a this_least this_others this_holders) ++ (W_X1 ca a_heap heap_kinds heap_whos heap_toWhoms heap_topics heap_weights heap_answered heap_deeds heap_size heap_saidBits heap_deedCount) ++ (W_X5 ca a_rows rows_ns rows_nc rows_width rows_sizes_3 rows_cells_4)) H := hP
  have hD : va_D _ ((W_X2 ca a this_least this_others this_holders) ++ (W_X1 ca a_heap heap_kinds heap_whos heap_toWhoms heap_topics heap_weights heap_answered heap_deeds heap_size heap_saidBits heap_deedCount) ++ (W_X5 ca a_rows rows_ns rows_nc rows_width rows_sizes_3 rows_cells_4)) := hD
  try dsimp only at h
  refine lv_iconst (v := (0)) hx hb dX2_writeCheapest_21 (by decide) ?_
  refine lv_istore (lv' := [(6, .int (0 : Int32)), (5, .int r2), (4, .int r1), (0, .ref (a 0)), (1, .ref (a_heap 0)), (2, .ref (a_rows 0)), (3, .int r)]) hx hb dX2_writeCheapest_22 hl (by decide) rfl (fun ls hl => ?_)
  obtain ⟨zn, h⟩ := h
  exact w_24  zn rows_sizes_3 rows_cells_4 r1 r2 (0 : Int32) h _ _ hP hD hS ls (lv_sub hl [3, 4, 5, 6, 2, 1, 0] rfl)

-- IronedQuarrels$Ironing.howManyOrders(LIronedQuarrels$Heap;)J
def wb_X2_howManyOrders_11 (heap_kinds : Nat → Int32) (heap_answered : Nat → Int32) (heap_size : Int32) (heap_saidBits : Int32) (post : Int64 → Prop) (K11 : (Int64) → (Int64) → (Int32) → (Int32) → Prop) (x2 : Int64) (x4 : Int64) (x6 : Int32) (x7 : Int32) : Prop :=
  wp_X1_howMany heap_size (fun r1 => (r1 ≤ x7 → (¬ x4 = 0 ∧ post (x2 / x4))) ∧ (¬ r1 ≤ x7 → (wp_X1_isSaid heap_saidBits x7 (fun r2 => (r2 = 0 → (K11 x2 x4 x6 (x7 + 1))) ∧ (¬ r2 = 0 → (wp_X7_bit x7 (fun r3 => wp_X1_hasToGoWith heap_kinds heap_answered heap_size heap_saidBits r3 (fun r4 => wp_J6_bitCount_0f7a4 r4 (fun r5 => K11 (x2 * ((x6 + 1).toInt64)) (x4 * ((if (1 : Int32) < r5 then r5 else (1 : Int32)).toInt64)) (x6 + 1) (x7 + 1))))))))))
def wl_X2_howManyOrders_11 (heap_kinds : Nat → Int32) (heap_answered : Nat → Int32) (heap_size : Int32) (heap_saidBits : Int32) (post : Int64 → Prop) : Nat → (Int64) → (Int64) → (Int32) → (Int32) → Prop
  | 0 => fun _ _ _ _ => False
  | zn + 1 => wb_X2_howManyOrders_11 heap_kinds heap_answered heap_size heap_saidBits post (wl_X2_howManyOrders_11 heap_kinds heap_answered heap_size heap_saidBits post zn)
def wp_X2_howManyOrders (heap_kinds : Nat → Int32) (heap_answered : Nat → Int32) (heap_size : Int32) (heap_saidBits : Int32) (post : Int64 → Prop) : Prop :=
  ∃ zn, wl_X2_howManyOrders_11 heap_kinds heap_answered heap_size heap_saidBits post zn (1 : Int64) (1 : Int64) (0 : Int32) (0 : Int32)
def rm_X2_howManyOrders : Room := { frames := 4, cells := 0, slots := 0, locals := 87 }
theorem k_X2_howManyOrders_1 : Cond.methodLink RX2 87 Lib.Math.max.name ∈ wsX2_howManyOrders := List.mem_of_getElem? (i := 1) (by decide +kernel)
theorem k_X2_howManyOrders_2 : Cond.static Lib.Math.max.name ∈ wsX2_howManyOrders := List.mem_of_getElem? (i := 2) (by decide +kernel)
theorem k_X2_howManyOrders_3 : Cond.initialized "java/lang/Math" ∈ wsX2_howManyOrders := List.mem_of_getElem? (i := 3) (by decide +kernel)
theorem k_X2_howManyOrders_4 : Cond.code Lib.Math.max.name Lib.Math.max.code 2 (some .int) ∈ wsX2_howManyOrders := List.mem_of_getElem? (i := 4) (by decide +kernel)
theorem k_X2_howManyOrders_17 : Cond.initialized RX7 ∈ wsX2_howManyOrders := List.mem_of_getElem? (i := 17) (by decide +kernel)
theorem k_X2_howManyOrders_19 : Cond.static yX7_bit ∈ wsX2_howManyOrders := List.mem_of_getElem? (i := 19) (by decide +kernel)
theorem hi_X2_howManyOrders_X1 : ∀ w ∈ wsX10, w ∈ wsX2_howManyOrders := fun w h => List.mem_cons_of_mem _ (List.mem_append_right _ h)
set_option maxHeartbeats 4000000 in
set_option maxRecDepth 100000 in
theorem c_X2_howManyOrders (l : Launch) (D : va_G) (ca : Nat → ClassId) (a : Nat → Nat) (a_heap : Nat → Nat) (this_least : Nat → Int32) (this_others : Nat → Int32) (this_holders : Nat → Int32) (heap_kinds : Nat → Int32) (heap_whos : Nat → Int32) (heap_toWhoms : Nat → Int32) (heap_topics : Nat → Int32) (heap_weights : Nat → Int32) (heap_answered : Nat → Int32) (heap_deeds : Nat → Int32) (heap_size : Int32) (heap_saidBits : Int32) (heap_deedCount : Int32)  (post : Int64 → Prop) (h : wp_X2_howManyOrders heap_kinds heap_answered heap_size heap_saidBits post) : Met l yX2_howManyOrders wsX2_howManyOrders rm_X2_howManyOrders (PcX D ca [.ref (a 0), .ref (a_heap 0)] ((W_X2 ca a this_least this_others this_holders) ++ (W_X1 ca a_heap heap_kinds heap_whos heap_toWhoms heap_topics heap_weights heap_answered heap_deeds heap_size heap_saidBits heap_deedCount))) (rdL post) 0 0 (fun _ => False) := by
  refine Met.ofW (cc := cX2_howManyOrders) (maxL := 8) (ret := (some .long)) (by decide) rfl ?_
  intro zp ze zs zm za zb zt zc z1 B hml hv
  obtain ⟨rfl, hP, hK⟩ := hv
  have hx := B.exec
  have hb := B.bytes
  have hr := B.returns
  have hts := atoms_spec (ws := wsX2_howManyOrders) B.pre
  have hown : zs.vm.findClass RX2 = some zm.cls := findClass_of_methodNamed B.named
  have hlocks := B.notSynchronized
  have hl := lv_entry ([.ref (a 0), .ref (a_heap 0)]) (n := 8) (Nat.le_of_ble_eq_true rfl)
  rw [lg_entry_eq]
  generalize (lg_sl ([.ref (a 0), .ref (a_heap 0)]) ++ List.replicate (8 - (lg_sl ([.ref (a 0), .ref (a_heap 0)])).length) Slot.unset).toArray = ls at hl ⊢
  replace hl : lv_has ls 8 [(0, .ref (a 0)), (1, .ref (a_heap 0))] := hl
  show W zp l ze rm_X2_howManyOrders zs zm ([.ref (a 0), .ref (a_heap 0)] : List Value).toArray zb zt zc zs.heap [] 0 0 (MQ zb (rdL post) ([.ref (a 0), .ref (a_heap 0)] : List Value).toArray zs 0 0 (fun _ => False)) (F0 zm 0 ls [])
  have w_11 : ∀ (zn : Nat) (x2 : Int64) (x4 : Int64) (x6 : Int32) (x7 : Int32), wl_X2_howManyOrders_11 heap_kinds heap_answered heap_size heap_saidBits post zn x2 x4 x6 x7 → ∀ ls : Array Slot, lv_has ls 8 [(1, .ref (a_heap 0)), (2, .long x2), (4, .long x4), (6, .int x6), (7, .int x7)] → W zp l ze rm_X2_howManyOrders zs zm ([.ref (a 0), .ref (a_heap 0)] : List Value).toArray zb zt zc zs.heap [] 0 0 (MQ zb (rdL post) ([.ref (a 0), .ref (a_heap 0)] : List Value).toArray zs 0 0 (fun _ => False)) (F0 zm 11 ls []) := by
    intro zn
    induction zn with
    | zero => intro x2 x4 x6 x7 h; exact h.elim
    | succ zn ih11 =>
      intro x2 x4 x6 x7 h ls hl
      replace h : wb_X2_howManyOrders_11 heap_kinds heap_answered heap_size heap_saidBits post (wl_X2_howManyOrders_11 heap_kinds heap_answered heap_size heap_saidBits post zn) x2 x4 x6 x7 := h
      unfold wb_X2_howManyOrders_11 at h
      refine lv_iload hx hb dX2_howManyOrders_11 (lv_at hl 4 rfl) ?_
      refine lv_aload_n hx hb dX2_howManyOrders_13 rfl (lv_at hl 0 rfl) ?_
      refine rd_calli (va_runV (As := []) (rest := [.int x7]) ⟨hx, hb, hml, hown, hts⟩ (c_X1_howMany l D ca a_heap heap_kinds heap_whos heap_toWhoms heap_topics heap_weights heap_answered heap_deeds heap_size heap_saidBits heap_deedCount  _ h) (cwV 0 hts gX2_howManyOrders_X1_howMany rfl rfl rfl (by decide +kernel) ⟨Nat.le_of_ble_eq_true rfl, Nat.le_of_ble_eq_true rfl⟩) (PcX.preV (q := (RX1, TX1, 10)) (ci := 1) (q0 := 4) hK hP rfl rfl (hP.subM [4, 5, 6, 7, 8, 9, 10, 11] rfl)) rfl rfl hl.1 rfl (lv_room (Nat.le_of_ble_eq_true rfl)) dX2_howManyOrders_14 ⟨Nat.le_of_ble_eq_true rfl, Nat.le_of_ble_eq_true rfl⟩) (fun r1 h => ?_)
      try dsimp only at h
      refine lv_icmp_ge (tgt := 66) hx hb dX2_howManyOrders_17 (by decide) (fun hc => ?_) (fun hc => ?_)
      · have h := h.1 hc
        refine lv_lload_n hx hb dX2_howManyOrders_66 rfl (lv_at hl 1 rfl) ?_
        refine lv_lload hx hb dX2_howManyOrders_67 (lv_at hl 2 rfl) ?_
        obtain ⟨h0, h⟩ := h
        refine lv_ldiv hx hb dX2_howManyOrders_69 h0 ?_
        exact W.lret (v := x2 / x4) hx hb hr (fun t ht hW => ⟨x2 / x4, rfl, h, ht⟩) (fun q hq => absurd hq List.not_mem_nil) dX2_howManyOrders_70
      · have h := h.2 hc
        refine lv_aload_n hx hb dX2_howManyOrders_20 rfl (lv_at hl 0 rfl) ?_
        refine lv_iload hx hb dX2_howManyOrders_21 (lv_at hl 4 rfl) ?_
        refine rd_callz (va_runV (As := [.int x7]) (rest := []) ⟨hx, hb, hml, hown, hts⟩ (c_X1_isSaid l D ca a_heap heap_kinds heap_whos heap_toWhoms heap_topics heap_weights heap_answered heap_deeds heap_size heap_saidBits heap_deedCount x7 _ h) (cwV 1 hts gX2_howManyOrders_X1_isSaid rfl rfl rfl (by decide +kernel) ⟨Nat.le_of_ble_eq_true rfl, Nat.le_of_ble_eq_true rfl⟩) (PcX.preV (q := (RX1, TX1, 10)) (ci := 1) (q0 := 4) hK hP rfl rfl (hP.subM [4, 5, 6, 7, 8, 9, 10, 11] rfl)) rfl rfl hl.1 rfl (lv_room (Nat.le_of_ble_eq_true rfl)) dX2_howManyOrders_23 ⟨Nat.le_of_ble_eq_true rfl, Nat.le_of_ble_eq_true rfl⟩) (fun r2 h hz_r2 => ?_)
        try dsimp only at h
        refine lv_if_eq (tgt := 60) hx hb dX2_howManyOrders_26 (by decide) (fun hc => ?_) (fun hc => ?_)
        · have h := h.1 hc
          refine lv_iinc (v := x7 + 1) (lv' := [(7, .int (x7 + 1)), (1, .ref (a_heap 0)), (2, .long x2), (4, .long x4), (6, .int x6)]) hx hb dX2_howManyOrders_60 hl (k := 4) rfl rfl (by decide) rfl (fun ls hl => ?_)
          refine lv_goto (tgt := 11) hx hb dX2_howManyOrders_63 (by decide) ?_
          exact ih11 x2 x4 x6 (x7 + 1) h ls (lv_sub hl [1, 2, 3, 4, 0] rfl)
        · have h := h.2 hc
          refine lv_iinc (v := x6 + 1) (lv' := [(6, .int (x6 + 1)), (1, .ref (a_heap 0)), (2, .long x2), (4, .long x4), (7, .int x7)]) hx hb dX2_howManyOrders_29 hl (k := 3) rfl rfl (by decide) rfl (fun ls hl => ?_)
          refine lv_lload_n hx hb dX2_howManyOrders_32 rfl (lv_at hl 2 rfl) ?_
          refine lv_iload hx hb dX2_howManyOrders_33 (lv_at hl 0 rfl) ?_
          refine lv_i2l hx hb dX2_howManyOrders_35 rfl ?_
          refine lv_lmul hx hb dX2_howManyOrders_36 ?_
          refine lv_lstore_n (lv' := [(2, .long (x2 * ((x6 + 1).toInt64))), (6, .int (x6 + 1)), (1, .ref (a_heap 0)), (4, .long x4), (7, .int x7)]) hx hb dX2_howManyOrders_37 rfl hl (by decide) rfl (fun ls hl => ?_)
          refine lv_lload hx hb dX2_howManyOrders_38 (lv_at hl 3 rfl) ?_
          refine lv_iconst (v := (1)) hx hb dX2_howManyOrders_40 (by decide) ?_
          refine lv_aload_n hx hb dX2_howManyOrders_41 rfl (lv_at hl 2 rfl) ?_
          refine lv_iload hx hb dX2_howManyOrders_42 (lv_at hl 4 rfl) ?_
          refine rd_calli (va_runSN (As := [.int x7]) (rest := [.ref (a_heap 0), .int (1 : Int32), .long x4]) ⟨hx, hb, hml, hown, hts⟩ (c_X7_bit l D ca   x7 _ h) ⟨va_cnB 1 hts gX2_howManyOrders_X7_bit_n65 rfl rfl rfl (hK.2 (RX2, 65, yX7_bit, "IronedQuarrels") (List.mem_of_getElem? (i := 10) rfl)) (hts _ k_X2_howManyOrders_17) (by decide +kernel) ⟨Nat.le_of_ble_eq_true rfl, Nat.le_of_ble_eq_true rfl⟩, hts _ k_X2_howManyOrders_19, trivial⟩ (PcX.preS hK (fun k q h => by simp at h)) rfl rfl hl.1 rfl (lv_room (Nat.le_of_ble_eq_true rfl)) dX2_howManyOrders_44 ⟨Nat.le_of_ble_eq_true rfl, Nat.le_of_ble_eq_true rfl⟩) (fun r3 h => ?_)
          try dsimp only at h
          refine rd_calli (va_runV (As := [.int r3]) (rest := [.int (1 : Int32), .long x4]) ⟨hx, hb, hml, hown, hts⟩ (c_X1_hasToGoWith l D ca a_heap heap_kinds heap_whos heap_toWhoms heap_topics heap_weights heap_answered heap_deeds heap_size heap_saidBits heap_deedCount r3 _ h) (cwV 1 hts gX2_howManyOrders_X1_hasToGoWith rfl rfl rfl (by decide +kernel) ⟨Nat.le_of_ble_eq_true rfl, Nat.le_of_ble_eq_true rfl⟩) (PcX.preV (q := (RX1, TX1, 10)) (ci := 1) (q0 := 4) hK hP rfl rfl (hP.subM [4, 5, 6, 7, 8, 9, 10, 11] rfl)) rfl rfl hl.1 rfl (lv_room (Nat.le_of_ble_eq_true rfl)) dX2_howManyOrders_47 ⟨Nat.le_of_ble_eq_true rfl, Nat.le_of_ble_eq_true rfl⟩) (fun r4 h => ?_)
          try dsimp only at h
          refine rd_calli (va_runS (As := [.int r4]) (rest := [.int (1 : Int32), .long x4]) ⟨hx, hb, hml, hown, hts⟩ (c_J6_bitCount_0f7a4 l D ca   r4 _ h) (va_cwS 1 hts gX2_howManyOrders_J6_bitCount_0f7a4 rfl rfl rfl (by decide +kernel) ⟨Nat.le_of_ble_eq_true rfl, Nat.le_of_ble_eq_true rfl⟩) (PcX.preS hK (fun k q h => by simp at h)) rfl rfl hl.1 rfl (lv_room (Nat.le_of_ble_eq_true rfl)) dX2_howManyOrders_50 ⟨Nat.le_of_ble_eq_true rfl, Nat.le_of_ble_eq_true rfl⟩) (fun r5 h => ?_)
          try dsimp only at h
          refine va_mmax hx hb (by rw [hml]; exact hl.1.symm) hown (hts _ k_X2_howManyOrders_1) (hts _ k_X2_howManyOrders_2) (hts _ k_X2_howManyOrders_3) (hts _ k_X2_howManyOrders_4) (Nat.le_of_ble_eq_true rfl) (Nat.le_of_ble_eq_true rfl) (Nat.le_of_ble_eq_true rfl) (Nat.le_of_ble_eq_true rfl) dX2_howManyOrders_53 ?_
          refine lv_i2l hx hb dX2_howManyOrders_56 rfl ?_
          refine lv_lmul hx hb dX2_howManyOrders_57 ?_
          refine lv_lstore (lv' := [(4, .long (x4 * ((if (1 : Int32) < r5 then r5 else (1 : Int32)).toInt64))), (2, .long (x2 * ((x6 + 1).toInt64))), (6, .int (x6 + 1)), (1, .ref (a_heap 0)), (7, .int x7)]) hx hb dX2_howManyOrders_58 hl (by decide) rfl (fun ls hl => ?_)
          refine lv_iinc (v := x7 + 1) (lv' := [(7, .int (x7 + 1)), (4, .long (x4 * ((if (1 : Int32) < r5 then r5 else (1 : Int32)).toInt64))), (2, .long (x2 * ((x6 + 1).toInt64))), (6, .int (x6 + 1)), (1, .ref (a_heap 0))]) hx hb dX2_howManyOrders_60 hl (k := 4) rfl rfl (by decide) rfl (fun ls hl => ?_)
          refine lv_goto (tgt := 11) hx hb dX2_howManyOrders_63 (by decide) ?_
          exact ih11 (x2 * ((x6 + 1).toInt64)) (x4 * ((if (1 : Int32) < r5 then r5 else (1 : Int32)).toInt64)) (x6 + 1) (x7 + 1) h ls (lv_sub hl [4, 2, 1, 3, 0] rfl)
  unfold wp_X2_howManyOrders at h
  refine lv_lconst (v := (1)) hx hb dX2_howManyOrders_0 (by decide) ?_
  refine lv_lstore_n (lv' := [(2, .long (1 : Int64)), (0, .ref (a 0)), (1, .ref (a_heap 0))]) hx hb dX2_howManyOrders_1 rfl hl (by decide) rfl (fun ls hl => ?_)
  refine lv_lconst (v := (1)) hx hb dX2_howManyOrders_2 (by decide) ?_
  refine lv_lstore (lv' := [(4, .long (1 : Int64)), (2, .long (1 : Int64)), (0, .ref (a 0)), (1, .ref (a_heap 0))]) hx hb dX2_howManyOrders_3 hl (by decide) rfl (fun ls hl => ?_)
  refine lv_iconst (v := (0)) hx hb dX2_howManyOrders_5 (by decide) ?_
  refine lv_istore (lv' := [(6, .int (0 : Int32)), (4, .long (1 : Int64)), (2, .long (1 : Int64)), (0, .ref (a 0)), (1, .ref (a_heap 0))]) hx hb dX2_howManyOrders_6 hl (by decide) rfl (fun ls hl => ?_)
  refine lv_iconst (v := (0)) hx hb dX2_howManyOrders_8 (by decide) ?_
  refine lv_istore (lv' := [(7, .int (0 : Int32)), (6, .int (0 : Int32)), (4, .long (1 : Int64)), (2, .long (1 : Int64)), (0, .ref (a 0)), (1, .ref (a_heap 0))]) hx hb dX2_howManyOrders_9 hl (by decide) rfl (fun ls hl => ?_)
  obtain ⟨zn, h⟩ := h
  exact w_11  zn (1 : Int64) (1 : Int64) (0 : Int32) (0 : Int32) h ls (lv_sub hl [5, 3, 2, 1, 0] rfl)

-- IronedQuarrels$Company.hasNumber(I)Z
def wp_X0_hasNumber (p : Int32) (post : Int32 → Prop) : Prop :=
  (p < 0 → (post (0 : Int32))) ∧ (¬ p < 0 → (((6 : Int32) ≤ p → (post (0 : Int32))) ∧ (¬ (6 : Int32) ≤ p → (post (1 : Int32)))))
def rm_X0_hasNumber : Room := { frames := 0, cells := 0, slots := 0, locals := 0 }
set_option maxHeartbeats 4000000 in
set_option maxRecDepth 100000 in
theorem c_X0_hasNumber (l : Launch) (D : va_G) (ca : Nat → ClassId) (a : Nat → Nat) (tells : Nat → Int32) (p : Int32) (post : Int32 → Prop) (h : wp_X0_hasNumber p post) : Met l yX0_hasNumber wsX0_hasNumber rm_X0_hasNumber (PcX D ca [.ref (a 0), .int p] (W_X0 ca a tells)) (rdZ post) 0 0 (fun _ => False) := by
  refine Met.ofW (cc := cX0_hasNumber) (maxL := 2) (ret := (some .boolean)) (by decide) rfl ?_
  intro zp ze zs zm za zb zt zc z1 B hml hv
  obtain ⟨rfl, hP, hK⟩ := hv
  have hx := B.exec
  have hb := B.bytes
  have hr := B.returns
  have hts := atoms_spec (ws := wsX0_hasNumber) B.pre
  have hown : zs.vm.findClass RX0 = some zm.cls := findClass_of_methodNamed B.named
  have hlocks := B.notSynchronized
  have hl := lv_entry ([.ref (a 0), .int p]) (n := 2) (Nat.le_of_ble_eq_true rfl)
  rw [lg_entry_eq]
  generalize (lg_sl ([.ref (a 0), .int p]) ++ List.replicate (2 - (lg_sl ([.ref (a 0), .int p])).length) Slot.unset).toArray = ls at hl ⊢
  replace hl : lv_has ls 2 [(0, .ref (a 0)), (1, .int p)] := hl
  show W zp l ze rm_X0_hasNumber zs zm ([.ref (a 0), .int p] : List Value).toArray zb zt zc zs.heap [] 0 0 (MQ zb (rdZ post) ([.ref (a 0), .int p] : List Value).toArray zs 0 0 (fun _ => False)) (F0 zm 0 ls [])
  unfold wp_X0_hasNumber at h
  refine lv_iload_n hx hb dX0_hasNumber_0 rfl (lv_at hl 1 rfl) ?_
  refine lv_if_lt (tgt := 14) hx hb dX0_hasNumber_1 (by decide) (fun hc => ?_) (fun hc => ?_)
  · have h := h.1 hc
    refine lv_iconst (v := (0)) hx hb dX0_hasNumber_14 (by decide) ?_
    exact W.zret (v := (0 : Int32)) hx hb hr nar0 (fun t ht hW => ⟨(0 : Int32), rfl, ⟨h, nar0⟩, ht⟩) (fun q hq => absurd hq List.not_mem_nil) dX0_hasNumber_15
  · have h := h.2 hc
    refine lv_iload_n hx hb dX0_hasNumber_4 rfl (lv_at hl 1 rfl) ?_
    refine lv_bipush (v := (6)) hx hb dX0_hasNumber_5 (by decide) ?_
    refine lv_icmp_ge (tgt := 14) hx hb dX0_hasNumber_7 (by decide) (fun hc => ?_) (fun hc => ?_)
    · have h := h.1 hc
      refine lv_iconst (v := (0)) hx hb dX0_hasNumber_14 (by decide) ?_
      exact W.zret (v := (0 : Int32)) hx hb hr nar0 (fun t ht hW => ⟨(0 : Int32), rfl, ⟨h, nar0⟩, ht⟩) (fun q hq => absurd hq List.not_mem_nil) dX0_hasNumber_15
    · have h := h.2 hc
      refine lv_iconst (v := (1)) hx hb dX0_hasNumber_10 (by decide) ?_
      refine lv_goto (tgt := 15) hx hb dX0_hasNumber_11 (by decide) ?_
      exact W.zret (v := (1 : Int32)) hx hb hr nar1 (fun t ht hW => ⟨(1 : Int32), rfl, ⟨h, nar1⟩, ht⟩) (fun q hq => absurd hq List.not_mem_nil) dX0_hasNumber_15

-- IronedQuarrels$Company.listen(LIronedQuarrels$Heap;I)V
def wb_X0_listen_10 (heap_whos : Nat → Int32) (heap_toWhoms : Nat → Int32) (heap_size : Int32) (heap_saidBits : Int32) (gone : Int32) (post : (Nat → Int32) → Prop) (K10 : (Nat → Int32) → (Int32) → Prop) (this_tells : Nat → Int32) (x3 : Int32) : Prop :=
  wp_X1_howMany heap_size (fun r2 => (r2 ≤ x3 → (post this_tells)) ∧ (¬ r2 ≤ x3 → (wp_X1_whoOf heap_whos x3 (fun r3 => wp_X1_toWhomOf heap_toWhoms x3 (fun r4 => wp_X1_isSaid heap_saidBits x3 (fun r5 => (r5 = 0 → (K10 this_tells (x3 + 1))) ∧ (¬ r5 = 0 → (wp_X7_hasBit gone r3 (fun r6 => (¬ r6 = 0 → (K10 this_tells (x3 + 1))) ∧ (r6 = 0 → (wp_X7_hasBit gone r4 (fun r7 => (¬ r7 = 0 → (K10 this_tells (x3 + 1))) ∧ (r7 = 0 → (vp_in r3 6 ∧ wp_X7_bit r4 (fun r8 => vp_in r3 6 ∧ K10 (upd this_tells (r3.toNatClampNeg) ((this_tells r3.toNatClampNeg) ||| r8)) (x3 + 1))))))))))))))))
def wl_X0_listen_10 (heap_whos : Nat → Int32) (heap_toWhoms : Nat → Int32) (heap_size : Int32) (heap_saidBits : Int32) (gone : Int32) (post : (Nat → Int32) → Prop) : Nat → (Nat → Int32) → (Int32) → Prop
  | 0 => fun _ _ => False
  | zn + 1 => wb_X0_listen_10 heap_whos heap_toWhoms heap_size heap_saidBits gone post (wl_X0_listen_10 heap_whos heap_toWhoms heap_size heap_saidBits gone post zn)
def wp_X0_listen (this_tells : Nat → Int32) (heap_whos : Nat → Int32) (heap_toWhoms : Nat → Int32) (heap_size : Int32) (heap_saidBits : Int32) (gone : Int32) (post : (Nat → Int32) → Prop) : Prop :=
  wp_J7_fill_53178 6 this_tells (0 : Int32) (fun this_tells_1 => ∃ zn, wl_X0_listen_10 heap_whos heap_toWhoms heap_size heap_saidBits gone post zn this_tells_1 (0 : Int32))
def rm_X0_listen : Room := { frames := 2, cells := 0, slots := 0, locals := 42 }
theorem k_X0_listen_1 : Cond.fieldLink RX0 9 "IronedQuarrels$Company" "tells" "[I" ∈ wsX0_listen := List.mem_of_getElem? (i := 1) (by decide +kernel)
theorem k_X0_listen_27 : Cond.static yX7_hasBit ∈ wsX0_listen := List.mem_of_getElem? (i := 27) (by decide +kernel)
theorem k_X0_listen_28 : Cond.initialized RX7 ∈ wsX0_listen := List.mem_of_getElem? (i := 28) (by decide +kernel)
theorem k_X0_listen_30 : Cond.static yX7_bit ∈ wsX0_listen := List.mem_of_getElem? (i := 30) (by decide +kernel)
theorem hi_X0_listen_X0 : ∀ w ∈ wsX00, w ∈ wsX0_listen := fun w h => List.mem_cons_of_mem _ (List.mem_append_left _ (List.mem_append_right _ h))
theorem hi_X0_listen_X1 : ∀ w ∈ wsX10, w ∈ wsX0_listen := fun w h => List.mem_cons_of_mem _ (List.mem_append_right _ h)
set_option maxHeartbeats 4000000 in
set_option maxRecDepth 100000 in
theorem c_X0_listen (l : Launch) (D : va_G) (ca : Nat → ClassId) (a : Nat → Nat) (a_heap : Nat → Nat) (this_tells : Nat → Int32) (heap_kinds : Nat → Int32) (heap_whos : Nat → Int32) (heap_toWhoms : Nat → Int32) (heap_topics : Nat → Int32) (heap_weights : Nat → Int32) (heap_answered : Nat → Int32) (heap_deeds : Nat → Int32) (heap_size : Int32) (heap_saidBits : Int32) (heap_deedCount : Int32) (gone : Int32) (post : (Nat → Int32) → Prop) (hd : va_D (fun _ => True) ((W_X0 ca a this_tells) ++ (W_X1 ca a_heap heap_kinds heap_whos heap_toWhoms heap_topics heap_weights heap_answered heap_deeds heap_size heap_saidBits heap_deedCount))) (h : wp_X0_listen this_tells heap_whos heap_toWhoms heap_size heap_saidBits gone post) : Met l yX0_listen wsX0_listen rm_X0_listen (PcX D ca [.ref (a 0), .ref (a_heap 0), .int gone] ((W_X0 ca a this_tells) ++ (W_X1 ca a_heap heap_kinds heap_whos heap_toWhoms heap_topics heap_weights heap_answered heap_deeds heap_size heap_saidBits heap_deedCount))) (wrV (S := (Nat → Int32)) D ((W_X0 ca a this_tells) ++ (W_X1 ca a_heap heap_kinds heap_whos heap_toWhoms heap_topics heap_weights heap_answered heap_deeds heap_size heap_saidBits heap_deedCount)) (fun u => (W_X0 ca a u) ++ (W_X1 ca a_heap heap_kinds heap_whos heap_toWhoms heap_topics heap_weights heap_answered heap_deeds heap_size heap_saidBits heap_deedCount)) (fun u => post u)) 0 0 (adr ((W_X0 ca a this_tells) ++ (W_X1 ca a_heap heap_kinds heap_whos heap_toWhoms heap_topics heap_weights heap_answered heap_deeds heap_size heap_saidBits heap_deedCount))) := by
  refine Met.ofW (cc := cX0_listen) (maxL := 6) (ret := none) (by decide) rfl ?_
  intro zp ze zs zm za zb zt zc z1 B hml hv
  obtain ⟨rfl, hP, hK⟩ := hv
  have hx := B.exec
  have hb := B.bytes
  have hr := B.returns
  have hts := atoms_spec (ws := wsX0_listen) B.pre
  have hown : zs.vm.findClass RX0 = some zm.cls := findClass_of_methodNamed B.named
  have hlocks := B.notSynchronized
  have hD : va_D (adr ((W_X0 ca a this_tells) ++ (W_X1 ca a_heap heap_kinds heap_whos heap_toWhoms heap_topics heap_weights heap_answered heap_deeds heap_size heap_saidBits heap_deedCount))) ((W_X0 ca a this_tells) ++ (W_X1 ca a_heap heap_kinds heap_whos heap_toWhoms heap_topics heap_weights heap_answered heap_deeds heap_size heap_saidBits heap_deedCount)) := hd.adr
  have hS : va_S (adr ((W_X0 ca a this_tells) ++ (W_X1 ca a_heap heap_kinds heap_whos heap_toWhoms heap_topics heap_weights heap_answered heap_deeds heap_size heap_saidBits heap_deedCount))) zs.heap zs.heap [] := va_S.rf
  have hl := lv_entry ([.ref (a 0), .ref (a_heap 0), .int gone]) (n := 6) (Nat.le_of_ble_eq_true rfl)
  rw [lg_entry_eq]
  generalize (lg_sl ([.ref (a 0), .ref (a_heap 0), .int gone]) ++ List.replicate (6 - (lg_sl ([.ref (a 0), .ref (a_heap 0), .int gone])).length) Slot.unset).toArray = ls at hl ⊢
  replace hl : lv_has ls 6 [(0, .ref (a 0)), (1, .ref (a_heap 0)), (2, .int gone)] := hl
  show W zp l ze rm_X0_listen zs zm ([.ref (a 0), .ref (a_heap 0), .int gone] : List Value).toArray zb zt zc zs.heap [] 0 0 (MQ zb (wrV (S := (Nat → Int32)) D ((W_X0 ca a this_tells) ++ (W_X1 ca a_heap heap_kinds heap_whos heap_toWhoms heap_topics heap_weights heap_answered heap_deeds heap_size heap_saidBits heap_deedCount)) (fun u => (W_X0 ca a u) ++ (W_X1 ca a_heap heap_kinds heap_whos heap_toWhoms heap_topics heap_weights heap_answered heap_deeds heap_size heap_saidBits heap_deedCount)) (fun u => post u)) ([.ref (a 0), .ref (a_heap 0), .int gone] : List Value).toArray zs 0 0 (adr ((W_X0 ca a this_tells) ++ (W_X1 ca a_heap heap_kinds heap_whos heap_toWhoms heap_topics heap_weights heap_answered heap_deeds heap_size heap_saidBits heap_deedCount)))) (F0 zm 0 ls [])
  have w_10 : ∀ (zn : Nat) (this_tells : Nat → Int32) (x3 : Int32), wl_X0_listen_10 heap_whos heap_toWhoms heap_size heap_saidBits gone post zn this_tells x3 → ∀ (H : Heap) (locs : List Loc), va_P D vwCl ((W_X0 ca a this_tells) ++ (W_X1 ca a_heap heap_kinds heap_whos heap_toWhoms heap_topics heap_weights heap_answered heap_deeds heap_size heap_saidBits heap_deedCount)) H → va_D (adr ((W_X0 ca a this_tells) ++ (W_X1 ca a_heap heap_kinds heap_whos heap_toWhoms heap_topics heap_weights heap_answered heap_deeds heap_size heap_saidBits heap_deedCount))) ((W_X0 ca a this_tells) ++ (W_X1 ca a_heap heap_kinds heap_whos heap_toWhoms heap_topics heap_weights heap_answered heap_deeds heap_size heap_saidBits heap_deedCount)) → va_S (adr ((W_X0 ca a this_tells) ++ (W_X1 ca a_heap heap_kinds heap_whos heap_toWhoms heap_topics heap_weights heap_answered heap_deeds heap_size heap_saidBits heap_deedCount))) zs.heap H locs → ∀ ls : Array Slot, lv_has ls 6 [(0, .ref (a 0)), (1, .ref (a_heap 0)), (2, .int gone), (3, .int x3)] → W zp l ze rm_X0_listen zs zm ([.ref (a 0), .ref (a_heap 0), .int gone] : List Value).toArray zb zt zc H locs 0 0 (MQ zb (wrV (S := (Nat → Int32)) D ((W_X0 ca a this_tells) ++ (W_X1 ca a_heap heap_kinds heap_whos heap_toWhoms heap_topics heap_weights heap_answered heap_deeds heap_size heap_saidBits heap_deedCount)) (fun u => (W_X0 ca a u) ++ (W_X1 ca a_heap heap_kinds heap_whos heap_toWhoms heap_topics heap_weights heap_answered heap_deeds heap_size heap_saidBits heap_deedCount)) (fun u => post u)) ([.ref (a 0), .ref (a_heap 0), .int gone] : List Value).toArray zs 0 0 (adr ((W_X0 ca a this_tells) ++ (W_X1 ca a_heap heap_kinds heap_whos heap_toWhoms heap_topics heap_weights heap_answered heap_deeds heap_size heap_saidBits heap_deedCount)))) (F0 zm 10 ls []) := by
    intro zn
    induction zn with
    | zero => intro this_tells x3 h; exact h.elim
    | succ zn ih10 =>
      intro this_tells x3 h H locs hP hD hS ls hl
      replace h : wb_X0_listen_10 heap_whos heap_toWhoms heap_size heap_saidBits gone post (wl_X0_listen_10 heap_whos heap_toWhoms heap_size heap_saidBits gone post zn) this_tells x3 := h
      unfold wb_X0_listen_10 at h
      refine lv_iload_n hx hb dX0_listen_10 rfl (lv_at hl 3 rfl) ?_
      refine lv_aload_n hx hb dX0_listen_11 rfl (lv_at hl 1 rfl) ?_
      refine rd_calli (va_runV (As := []) (rest := [.int x3]) ⟨hx, hb, hml, hown, hts⟩ (c_X1_howMany l D ca a_heap heap_kinds heap_whos heap_toWhoms heap_topics heap_weights heap_answered heap_deeds heap_size heap_saidBits heap_deedCount  _ h) (cwV 0 hts gX0_listen_X1_howMany rfl rfl rfl (by decide +kernel) ⟨Nat.le_of_ble_eq_true rfl, Nat.le_of_ble_eq_true rfl⟩) (PcX.preV (q := (RX1, TX1, 10)) (ci := 1) (q0 := 2) hK hP rfl rfl (hP.subM [2, 3, 4, 5, 6, 7, 8, 9] rfl)) rfl rfl hl.1 rfl (lv_room (Nat.le_of_ble_eq_true rfl)) dX0_listen_12 ⟨Nat.le_of_ble_eq_true rfl, Nat.le_of_ble_eq_true rfl⟩) (fun r2 h => ?_)
      try dsimp only at h
      refine lv_icmp_ge (tgt := 79) hx hb dX0_listen_15 (by decide) (fun hc => ?_) (fun hc => ?_)
      · have h := h.1 hc
        exact W.vret hx hb hr (fun t ht hW => ⟨⟨this_tells, rfl, h, by rw [ht]; exact hP⟩, hS.F ht⟩) hS.2.2 dX0_listen_79
      · have h := h.2 hc
        refine lv_aload_n hx hb dX0_listen_18 rfl (lv_at hl 1 rfl) ?_
        refine lv_iload_n hx hb dX0_listen_19 rfl (lv_at hl 3 rfl) ?_
        refine rd_calli (va_runV (As := [.int x3]) (rest := []) ⟨hx, hb, hml, hown, hts⟩ (c_X1_whoOf l D ca a_heap heap_kinds heap_whos heap_toWhoms heap_topics heap_weights heap_answered heap_deeds heap_size heap_saidBits heap_deedCount x3 _ h) (cwV 1 hts gX0_listen_X1_whoOf rfl rfl rfl (by decide +kernel) ⟨Nat.le_of_ble_eq_true rfl, Nat.le_of_ble_eq_true rfl⟩) (PcX.preV (q := (RX1, TX1, 10)) (ci := 1) (q0 := 2) hK hP rfl rfl (hP.subM [2, 3, 4, 5, 6, 7, 8, 9] rfl)) rfl rfl hl.1 rfl (lv_room (Nat.le_of_ble_eq_true rfl)) dX0_listen_20 ⟨Nat.le_of_ble_eq_true rfl, Nat.le_of_ble_eq_true rfl⟩) (fun r3 h => ?_)
        try dsimp only at h
        refine lv_istore (lv' := [(4, .int r3), (0, .ref (a 0)), (1, .ref (a_heap 0)), (2, .int gone), (3, .int x3)]) hx hb dX0_listen_23 hl (by decide) rfl (fun ls hl => ?_)
        refine lv_aload_n hx hb dX0_listen_25 rfl (lv_at hl 2 rfl) ?_
        refine lv_iload_n hx hb dX0_listen_26 rfl (lv_at hl 4 rfl) ?_
        refine rd_calli (va_runV (As := [.int x3]) (rest := []) ⟨hx, hb, hml, hown, hts⟩ (c_X1_toWhomOf l D ca a_heap heap_kinds heap_whos heap_toWhoms heap_topics heap_weights heap_answered heap_deeds heap_size heap_saidBits heap_deedCount x3 _ h) (cwV 1 hts gX0_listen_X1_toWhomOf rfl rfl rfl (by decide +kernel) ⟨Nat.le_of_ble_eq_true rfl, Nat.le_of_ble_eq_true rfl⟩) (PcX.preV (q := (RX1, TX1, 10)) (ci := 1) (q0 := 2) hK hP rfl rfl (hP.subM [2, 3, 4, 5, 6, 7, 8, 9] rfl)) rfl rfl hl.1 rfl (lv_room (Nat.le_of_ble_eq_true rfl)) dX0_listen_27 ⟨Nat.le_of_ble_eq_true rfl, Nat.le_of_ble_eq_true rfl⟩) (fun r4 h => ?_)
        try dsimp only at h
        refine lv_istore (lv' := [(5, .int r4), (4, .int r3), (0, .ref (a 0)), (1, .ref (a_heap 0)), (2, .int gone), (3, .int x3)]) hx hb dX0_listen_30 hl (by decide) rfl (fun ls hl => ?_)
        refine lv_aload_n hx hb dX0_listen_32 rfl (lv_at hl 3 rfl) ?_
        refine lv_iload_n hx hb dX0_listen_33 rfl (lv_at hl 5 rfl) ?_
        refine rd_callz (va_runV (As := [.int x3]) (rest := []) ⟨hx, hb, hml, hown, hts⟩ (c_X1_isSaid l D ca a_heap heap_kinds heap_whos heap_toWhoms heap_topics heap_weights heap_answered heap_deeds heap_size heap_saidBits heap_deedCount x3 _ h) (cwV 1 hts gX0_listen_X1_isSaid rfl rfl rfl (by decide +kernel) ⟨Nat.le_of_ble_eq_true rfl, Nat.le_of_ble_eq_true rfl⟩) (PcX.preV (q := (RX1, TX1, 10)) (ci := 1) (q0 := 2) hK hP rfl rfl (hP.subM [2, 3, 4, 5, 6, 7, 8, 9] rfl)) rfl rfl hl.1 rfl (lv_room (Nat.le_of_ble_eq_true rfl)) dX0_listen_34 ⟨Nat.le_of_ble_eq_true rfl, Nat.le_of_ble_eq_true rfl⟩) (fun r5 h hz_r5 => ?_)
        try dsimp only at h
        refine lv_if_eq (tgt := 73) hx hb dX0_listen_37 (by decide) (fun hc => ?_) (fun hc => ?_)
        · have h := h.1 hc
          refine lv_iinc (v := x3 + 1) (lv' := [(3, .int (x3 + 1)), (5, .int r4), (4, .int r3), (0, .ref (a 0)), (1, .ref (a_heap 0)), (2, .int gone)]) hx hb dX0_listen_73 hl (k := 5) rfl rfl (by decide) rfl (fun ls hl => ?_)
          refine lv_goto (tgt := 10) hx hb dX0_listen_76 (by decide) ?_
          exact ih10 this_tells (x3 + 1) h _ _ hP hD hS ls (lv_sub hl [3, 4, 5, 0] rfl)
        · have h := h.2 hc
          refine lv_iload_n hx hb dX0_listen_40 rfl (lv_at hl 4 rfl) ?_
          refine lv_iload hx hb dX0_listen_41 (lv_at hl 1 rfl) ?_
          refine rd_callz (va_runSN (As := [.int gone, .int r3]) (rest := []) ⟨hx, hb, hml, hown, hts⟩ (c_X7_hasBit l D ca   gone r3 _ h) ⟨va_cnB 2 hts gX0_listen_X7_hasBit_n41 rfl rfl rfl (hK.2 (RX0, 41, yX7_hasBit, "IronedQuarrels") (List.mem_of_getElem? (i := 11) rfl)) (hts _ k_X0_listen_28) (by decide +kernel) ⟨Nat.le_of_ble_eq_true rfl, Nat.le_of_ble_eq_true rfl⟩, hts _ k_X0_listen_27, trivial⟩ (PcX.preS hK (fun k q h => by simp at h)) rfl rfl hl.1 rfl (lv_room (Nat.le_of_ble_eq_true rfl)) dX0_listen_43 ⟨Nat.le_of_ble_eq_true rfl, Nat.le_of_ble_eq_true rfl⟩) (fun r6 h hz_r6 => ?_)
          try dsimp only at h
          refine lv_if_ne (tgt := 73) hx hb dX0_listen_46 (by decide) (fun hc => ?_) (fun hc => ?_)
          · have h := h.1 hc
            refine lv_iinc (v := x3 + 1) (lv' := [(3, .int (x3 + 1)), (5, .int r4), (4, .int r3), (0, .ref (a 0)), (1, .ref (a_heap 0)), (2, .int gone)]) hx hb dX0_listen_73 hl (k := 5) rfl rfl (by decide) rfl (fun ls hl => ?_)
            refine lv_goto (tgt := 10) hx hb dX0_listen_76 (by decide) ?_
            exact ih10 this_tells (x3 + 1) h _ _ hP hD hS ls (lv_sub hl [3, 4, 5, 0] rfl)
          · have h := h.2 hc
            refine lv_iload_n hx hb dX0_listen_49 rfl (lv_at hl 4 rfl) ?_
            refine lv_iload hx hb dX0_listen_50 (lv_at hl 0 rfl) ?_
            refine rd_callz (va_runSN (As := [.int gone, .int r4]) (rest := []) ⟨hx, hb, hml, hown, hts⟩ (c_X7_hasBit l D ca   gone r4 _ h) ⟨va_cnB 2 hts gX0_listen_X7_hasBit_n41 rfl rfl rfl (hK.2 (RX0, 41, yX7_hasBit, "IronedQuarrels") (List.mem_of_getElem? (i := 11) rfl)) (hts _ k_X0_listen_28) (by decide +kernel) ⟨Nat.le_of_ble_eq_true rfl, Nat.le_of_ble_eq_true rfl⟩, hts _ k_X0_listen_27, trivial⟩ (PcX.preS hK (fun k q h => by simp at h)) rfl rfl hl.1 rfl (lv_room (Nat.le_of_ble_eq_true rfl)) dX0_listen_52 ⟨Nat.le_of_ble_eq_true rfl, Nat.le_of_ble_eq_true rfl⟩) (fun r7 h hz_r7 => ?_)
            try dsimp only at h
            refine lv_if_ne (tgt := 73) hx hb dX0_listen_55 (by decide) (fun hc => ?_) (fun hc => ?_)
            · have h := h.1 hc
              refine lv_iinc (v := x3 + 1) (lv' := [(3, .int (x3 + 1)), (5, .int r4), (4, .int r3), (0, .ref (a 0)), (1, .ref (a_heap 0)), (2, .int gone)]) hx hb dX0_listen_73 hl (k := 5) rfl rfl (by decide) rfl (fun ls hl => ?_)
              refine lv_goto (tgt := 10) hx hb dX0_listen_76 (by decide) ?_
              exact ih10 this_tells (x3 + 1) h _ _ hP hD hS ls (lv_sub hl [3, 4, 5, 0] rfl)
            · have h := h.2 hc
              refine lv_aload_n hx hb dX0_listen_58 rfl (lv_at hl 2 rfl) ?_
              refine va_get (D := D) (ci := 0) (v := .ref (a 1)) (C := RX0) (T := TX0) (N := 1) hx hb hts hi_X0_listen_X0 hown hK.1 hP 0 rfl rfl 0 (by decide) (hts _ k_X0_listen_1) (fun _ h9 => h9) rfl dX0_listen_59 ?_
              refine lv_iload hx hb dX0_listen_62 (lv_at hl 1 rfl) ?_
              refine lv_dup2_11 hx hb dX0_listen_64 rfl rfl ?_
              obtain ⟨hi, h⟩ := h
              refine x_iald (v := this_tells r3.toNatClampNeg) hx hb hK hP 1 rfl hi rfl dX0_listen_65 ?_
              refine lv_iload hx hb dX0_listen_66 (lv_at hl 0 rfl) ?_
              refine rd_calli (va_runSN (As := [.int r4]) (rest := [.int (this_tells r3.toNatClampNeg), .int r3, .ref (a 1)]) ⟨hx, hb, hml, hown, hts⟩ (c_X7_bit l D ca   r4 _ h) ⟨va_cnB 1 hts gX0_listen_X7_bit_n31 rfl rfl rfl (hK.2 (RX0, 31, yX7_bit, "IronedQuarrels") (List.mem_of_getElem? (i := 7) rfl)) (hts _ k_X0_listen_28) (by decide +kernel) ⟨Nat.le_of_ble_eq_true rfl, Nat.le_of_ble_eq_true rfl⟩, hts _ k_X0_listen_30, trivial⟩ (PcX.preS hK (fun k q h => by simp at h)) rfl rfl hl.1 rfl (lv_room (Nat.le_of_ble_eq_true rfl)) dX0_listen_68 ⟨Nat.le_of_ble_eq_true rfl, Nat.le_of_ble_eq_true rfl⟩) (fun r8 h => ?_)
              try dsimp only at h
              refine lv_ior hx hb dX0_listen_71 ?_
              obtain ⟨hi, h⟩ := h
              refine x_iast (ws' := (W_X0 ca a (upd this_tells (r3.toNatClampNeg) ((this_tells r3.toNatClampNeg) ||| r8))) ++ (W_X1 ca a_heap heap_kinds heap_whos heap_toWhoms heap_topics heap_weights heap_answered heap_deeds heap_size heap_saidBits heap_deedCount)) hx hb hK hP hD hS 1 rfl hi (k := (r3.toNatClampNeg)) rfl rfl dX0_listen_72 (fun H locs hP hD hS => ?_)
              refine lv_iinc (v := x3 + 1) (lv' := [(3, .int (x3 + 1)), (5, .int r4), (4, .int r3), (0, .ref (a 0)), (1, .ref (a_heap 0)), (2, .int gone)]) hx hb dX0_listen_73 hl (k := 5) rfl rfl (by decide) rfl (fun ls hl => ?_)
              refine lv_goto (tgt := 10) hx hb dX0_listen_76 (by decide) ?_
              exact ih10 (upd this_tells (r3.toNatClampNeg) ((this_tells r3.toNatClampNeg) ||| r8)) (x3 + 1) h _ _ hP hD hS ls (lv_sub hl [3, 4, 5, 0] rfl)
  unfold wp_X0_listen at h
  refine lv_aload_n hx hb dX0_listen_0 rfl (lv_at hl 0 rfl) ?_
  refine va_get (D := D) (ci := 0) (v := .ref (a 1)) (C := RX0) (T := TX0) (N := 1) hx hb hts hi_X0_listen_X0 hown hK.1 hP 0 rfl rfl 0 (by decide) (hts _ k_X0_listen_1) (fun _ h9 => h9) rfl dX0_listen_1 ?_
  refine lv_iconst (v := (0)) hx hb dX0_listen_4 (by decide) ?_
  refine wr_callv (ws1 := fun u => (W_X0 ca a u) ++ (W_X1 ca a_heap heap_kinds heap_whos heap_toWhoms heap_topics heap_weights heap_answered heap_deeds heap_size heap_saidBits heap_deedCount)) (wr := ([0, 2, 3, 4, 5, 6, 7, 8, 9] : List Nat).filterMap (fun i => ((W_X0 ca a this_tells) ++ (W_X1 ca a_heap heap_kinds heap_whos heap_toWhoms heap_topics heap_weights heap_answered heap_deeds heap_size heap_saidBits heap_deedCount) : va_W)[i]?)) (n := 10) (va_runS (As := [.ref (a 1), .int (0 : Int32)]) (rest := []) ⟨hx, hb, hml, hown, hts⟩ (c_J7_fill_53178 l D ca (a 1) 6 this_tells (0 : Int32) _ (hD.subM [1] (by decide) rfl) h) (va_cwS 2 hts gX0_listen_J7_fill_53178 rfl rfl rfl (by decide +kernel) ⟨Nat.le_of_ble_eq_true rfl, Nat.le_of_ble_eq_true rfl⟩) (PcX.preS hK (hP.subM [1] rfl)) rfl rfl hl.1 rfl (lv_room (Nat.le_of_ble_eq_true rfl)) dX0_listen_5 ⟨Nat.le_of_ble_eq_true rfl, Nat.le_of_ble_eq_true rfl⟩) hP hD hS [1] [0, 2, 3, 4, 5, 6, 7, 8, 9] rfl (fun _ => rfl) rfl (fun _ => rfl) (fun _ => rfl) (fun _ => rfl) (by decide +kernel) (by decide +kernel) (fun u H locs h hP hD hS => ?_)
  obtain ⟨this_tells_1, rfl⟩ : ∃ z, z = u := ⟨u, rfl⟩
  have hP : va_P D vwCl ((W_X0 ca a this_tells_1) ++ (W_X1 ca a_heap heap_kinds heap_whos heap_toWhoms heap_topics heap_weights heap_answered heap_deeds heap_size heap_saidBits heap_deedCount)) H := hP
  have hD : va_D _ ((W_X0 ca a this_tells_1) ++ (W_X1 ca a_heap heap_kinds heap_whos heap_toWhoms heap_topics heap_weights heap_answered heap_deeds heap_size heap_saidBits heap_deedCount)) := hD
  try dsimp only at h
  refine lv_iconst (v := (0)) hx hb dX0_listen_8 (by decide) ?_
  refine lv_istore_n (lv' := [(3, .int (0 : Int32)), (0, .ref (a 0)), (1, .ref (a_heap 0)), (2, .int gone)]) hx hb dX0_listen_9 rfl hl (by decide) rfl (fun ls hl => ?_)
  obtain ⟨zn, h⟩ := h
  exact w_10  zn this_tells_1 (0 : Int32) h _ _ hP hD hS ls (lv_sub hl [1, 2, 3, 0] rfl)

-- IronedQuarrels$Company.inRings(LIronedQuarrels$Heap;I)I
def wb_X0_inRings_71 (post : Int32 → (Nat → Int32) → Prop) (K71 : (Nat → Int32) → (Int32) → (Int32) → Prop) (this_tells : Nat → Int32) (x3 : Int32) (x4 : Int32) : Prop :=
  ((6 : Int32) ≤ x4 → (post x3 this_tells)) ∧ (¬ (6 : Int32) ≤ x4 → (vp_in x4 6 ∧ wp_X7_hasBit (this_tells x4.toNatClampNeg) x4 (fun r2 => (r2 = 0 → (K71 this_tells x3 (x4 + 1))) ∧ (¬ r2 = 0 → (wp_X7_bit x4 (fun r3 => K71 this_tells (x3 ||| r3) (x4 + 1)))))))
def wl_X0_inRings_71 (post : Int32 → (Nat → Int32) → Prop) : Nat → (Nat → Int32) → (Int32) → (Int32) → Prop
  | 0 => fun _ _ _ => False
  | zn + 1 => wb_X0_inRings_71 post (wl_X0_inRings_71 post zn)
def wb_X0_inRings_17 (K8 : (Nat → Int32) → (Int32) → Prop) (K17 : (Nat → Int32) → (Int32) → (Int32) → Prop) (this_tells : Nat → Int32) (x3 : Int32) (x4 : Int32) : Prop :=
  ((6 : Int32) ≤ x4 → (K8 this_tells (x3 + 1))) ∧ (¬ (6 : Int32) ≤ x4 → (vp_in x4 6 ∧ wp_X7_hasBit (this_tells x4.toNatClampNeg) x3 (fun r4 => (r4 = 0 → (K17 this_tells x3 (x4 + 1))) ∧ (¬ r4 = 0 → (vp_in x4 6 ∧ vp_in x3 6 ∧ vp_in x4 6 ∧ K17 (upd this_tells (x4.toNatClampNeg) ((this_tells x4.toNatClampNeg) ||| (this_tells x3.toNatClampNeg))) x3 (x4 + 1))))))
def wl_X0_inRings_17 (K8 : (Nat → Int32) → (Int32) → Prop) : Nat → (Nat → Int32) → (Int32) → (Int32) → Prop
  | 0 => fun _ _ _ => False
  | zn + 1 => wb_X0_inRings_17 K8 (wl_X0_inRings_17 K8 zn)
def wb_X0_inRings_8 (post : Int32 → (Nat → Int32) → Prop) (K8 : (Nat → Int32) → (Int32) → Prop) (this_tells : Nat → Int32) (x3 : Int32) : Prop :=
  ((6 : Int32) ≤ x3 → (∃ zn, wl_X0_inRings_71 post zn this_tells (0 : Int32) (0 : Int32))) ∧ (¬ (6 : Int32) ≤ x3 → (∃ zn, wl_X0_inRings_17 K8 zn this_tells x3 (0 : Int32)))
def wl_X0_inRings_8 (post : Int32 → (Nat → Int32) → Prop) : Nat → (Nat → Int32) → (Int32) → Prop
  | 0 => fun _ _ => False
  | zn + 1 => wb_X0_inRings_8 post (wl_X0_inRings_8 post zn)
def wp_X0_inRings (this_tells : Nat → Int32) (heap_whos : Nat → Int32) (heap_toWhoms : Nat → Int32) (heap_size : Int32) (heap_saidBits : Int32) (gone : Int32) (post : Int32 → (Nat → Int32) → Prop) : Prop :=
  wp_X0_listen this_tells heap_whos heap_toWhoms heap_size heap_saidBits gone (fun this_tells_1 => ∃ zn, wl_X0_inRings_8 post zn this_tells_1 (0 : Int32))
def rm_X0_inRings : Room := { frames := 3, cells := 0, slots := 0, locals := 67 }
theorem k_X0_inRings_1 : Cond.fieldLink RX0 9 "IronedQuarrels$Company" "tells" "[I" ∈ wsX0_inRings := List.mem_of_getElem? (i := 1) (by decide +kernel)
theorem k_X0_inRings_32 : Cond.static yX7_hasBit ∈ wsX0_inRings := List.mem_of_getElem? (i := 32) (by decide +kernel)
theorem k_X0_inRings_33 : Cond.initialized RX7 ∈ wsX0_inRings := List.mem_of_getElem? (i := 33) (by decide +kernel)
theorem k_X0_inRings_35 : Cond.static yX7_bit ∈ wsX0_inRings := List.mem_of_getElem? (i := 35) (by decide +kernel)
theorem hi_X0_inRings_X0 : ∀ w ∈ wsX00, w ∈ wsX0_inRings := fun w h => List.mem_cons_of_mem _ (List.mem_append_left _ (List.mem_append_right _ h))
theorem hi_X0_inRings_X1 : ∀ w ∈ wsX10, w ∈ wsX0_inRings := fun w h => List.mem_cons_of_mem _ (List.mem_append_right _ h)
set_option maxHeartbeats 4000000 in
set_option maxRecDepth 100000 in
theorem c_X0_inRings (l : Launch) (D : va_G) (ca : Nat → ClassId) (a : Nat → Nat) (a_heap : Nat → Nat) (this_tells : Nat → Int32) (heap_kinds : Nat → Int32) (heap_whos : Nat → Int32) (heap_toWhoms : Nat → Int32) (heap_topics : Nat → Int32) (heap_weights : Nat → Int32) (heap_answered : Nat → Int32) (heap_deeds : Nat → Int32) (heap_size : Int32) (heap_saidBits : Int32) (heap_deedCount : Int32) (gone : Int32) (post : Int32 → (Nat → Int32) → Prop) (hd : va_D (fun _ => True) ((W_X0 ca a this_tells) ++ (W_X1 ca a_heap heap_kinds heap_whos heap_toWhoms heap_topics heap_weights heap_answered heap_deeds heap_size heap_saidBits heap_deedCount))) (h : wp_X0_inRings this_tells heap_whos heap_toWhoms heap_size heap_saidBits gone post) : Met l yX0_inRings wsX0_inRings rm_X0_inRings (PcX D ca [.ref (a 0), .ref (a_heap 0), .int gone] ((W_X0 ca a this_tells) ++ (W_X1 ca a_heap heap_kinds heap_whos heap_toWhoms heap_topics heap_weights heap_answered heap_deeds heap_size heap_saidBits heap_deedCount))) (wrI (S := (Nat → Int32)) D ((W_X0 ca a this_tells) ++ (W_X1 ca a_heap heap_kinds heap_whos heap_toWhoms heap_topics heap_weights heap_answered heap_deeds heap_size heap_saidBits heap_deedCount)) (fun u => (W_X0 ca a u) ++ (W_X1 ca a_heap heap_kinds heap_whos heap_toWhoms heap_topics heap_weights heap_answered heap_deeds heap_size heap_saidBits heap_deedCount)) (fun r u => post r u)) 0 0 (adr ((W_X0 ca a this_tells) ++ (W_X1 ca a_heap heap_kinds heap_whos heap_toWhoms heap_topics heap_weights heap_answered heap_deeds heap_size heap_saidBits heap_deedCount))) := by
  refine Met.ofW (cc := cX0_inRings) (maxL := 5) (ret := (some .int)) (by decide) rfl ?_
  intro zp ze zs zm za zb zt zc z1 B hml hv
  obtain ⟨rfl, hP, hK⟩ := hv
  have hx := B.exec
  have hb := B.bytes
  have hr := B.returns
  have hts := atoms_spec (ws := wsX0_inRings) B.pre
  have hown : zs.vm.findClass RX0 = some zm.cls := findClass_of_methodNamed B.named
  have hlocks := B.notSynchronized
  have hD : va_D (adr ((W_X0 ca a this_tells) ++ (W_X1 ca a_heap heap_kinds heap_whos heap_toWhoms heap_topics heap_weights heap_answered heap_deeds heap_size heap_saidBits heap_deedCount))) ((W_X0 ca a this_tells) ++ (W_X1 ca a_heap heap_kinds heap_whos heap_toWhoms heap_topics heap_weights heap_answered heap_deeds heap_size heap_saidBits heap_deedCount)) := hd.adr
  have hS : va_S (adr ((W_X0 ca a this_tells) ++ (W_X1 ca a_heap heap_kinds heap_whos heap_toWhoms heap_topics heap_weights heap_answered heap_deeds heap_size heap_saidBits heap_deedCount))) zs.heap zs.heap [] := va_S.rf
  have hl := lv_entry ([.ref (a 0), .ref (a_heap 0), .int gone]) (n := 5) (Nat.le_of_ble_eq_true rfl)
  rw [lg_entry_eq]
  generalize (lg_sl ([.ref (a 0), .ref (a_heap 0), .int gone]) ++ List.replicate (5 - (lg_sl ([.ref (a 0), .ref (a_heap 0), .int gone])).length) Slot.unset).toArray = ls at hl ⊢
  replace hl : lv_has ls 5 [(0, .ref (a 0)), (1, .ref (a_heap 0)), (2, .int gone)] := hl
  show W zp l ze rm_X0_inRings zs zm ([.ref (a 0), .ref (a_heap 0), .int gone] : List Value).toArray zb zt zc zs.heap [] 0 0 (MQ zb (wrI (S := (Nat → Int32)) D ((W_X0 ca a this_tells) ++ (W_X1 ca a_heap heap_kinds heap_whos heap_toWhoms heap_topics heap_weights heap_answered heap_deeds heap_size heap_saidBits heap_deedCount)) (fun u => (W_X0 ca a u) ++ (W_X1 ca a_heap heap_kinds heap_whos heap_toWhoms heap_topics heap_weights heap_answered heap_deeds heap_size heap_saidBits heap_deedCount)) (fun r u => post r u)) ([.ref (a 0), .ref (a_heap 0), .int gone] : List Value).toArray zs 0 0 (adr ((W_X0 ca a this_tells) ++ (W_X1 ca a_heap heap_kinds heap_whos heap_toWhoms heap_topics heap_weights heap_answered heap_deeds heap_size heap_saidBits heap_deedCount)))) (F0 zm 0 ls [])
  have w_71 : ∀ (zn : Nat) (this_tells : Nat → Int32) (x3 : Int32) (x4 : Int32), wl_X0_inRings_71 post zn this_tells x3 x4 → ∀ (H : Heap) (locs : List Loc), va_P D vwCl ((W_X0 ca a this_tells) ++ (W_X1 ca a_heap heap_kinds heap_whos heap_toWhoms heap_topics heap_weights heap_answered heap_deeds heap_size heap_saidBits heap_deedCount)) H → va_D (adr ((W_X0 ca a this_tells) ++ (W_X1 ca a_heap heap_kinds heap_whos heap_toWhoms heap_topics heap_weights heap_answered heap_deeds heap_size heap_saidBits heap_deedCount))) ((W_X0 ca a this_tells) ++ (W_X1 ca a_heap heap_kinds heap_whos heap_toWhoms heap_topics heap_weights heap_answered heap_deeds heap_size heap_saidBits heap_deedCount)) → va_S (adr ((W_X0 ca a this_tells) ++ (W_X1 ca a_heap heap_kinds heap_whos heap_toWhoms heap_topics heap_weights heap_answered heap_deeds heap_size heap_saidBits heap_deedCount))) zs.heap H locs → ∀ ls : Array Slot, lv_has ls 5 [(0, .ref (a 0)), (3, .int x3), (4, .int x4)] → W zp l ze rm_X0_inRings zs zm ([.ref (a 0), .ref (a_heap 0), .int gone] : List Value).toArray zb zt zc H locs 0 0 (MQ zb (wrI (S := (Nat → Int32)) D ((W_X0 ca a this_tells) ++ (W_X1 ca a_heap heap_kinds heap_whos heap_toWhoms heap_topics heap_weights heap_answered heap_deeds heap_size heap_saidBits heap_deedCount)) (fun u => (W_X0 ca a u) ++ (W_X1 ca a_heap heap_kinds heap_whos heap_toWhoms heap_topics heap_weights heap_answered heap_deeds heap_size heap_saidBits heap_deedCount)) (fun r u => post r u)) ([.ref (a 0), .ref (a_heap 0), .int gone] : List Value).toArray zs 0 0 (adr ((W_X0 ca a this_tells) ++ (W_X1 ca a_heap heap_kinds heap_whos heap_toWhoms heap_topics heap_weights heap_answered heap_deeds heap_size heap_saidBits heap_deedCount)))) (F0 zm 71 ls []) := by
    intro zn
    induction zn with
    | zero => intro this_tells x3 x4 h; exact h.elim
    | succ zn ih71 =>
      intro this_tells x3 x4 h H locs hP hD hS ls hl
      replace h : wb_X0_inRings_71 post (wl_X0_inRings_71 post zn) this_tells x3 x4 := h
      unfold wb_X0_inRings_71 at h
      refine lv_iload hx hb dX0_inRings_71 (lv_at hl 2 rfl) ?_
      refine lv_bipush (v := (6)) hx hb dX0_inRings_73 (by decide) ?_
      refine lv_icmp_ge (tgt := 107) hx hb dX0_inRings_75 (by decide) (fun hc => ?_) (fun hc => ?_)
      · have h := h.1 hc
        refine lv_iload_n hx hb dX0_inRings_107 rfl (lv_at hl 1 rfl) ?_
        exact W.iret (v := x3) hx hb hr (fun t ht hW => ⟨⟨x3, this_tells, rfl, h, by rw [ht]; exact hP⟩, hS.F ht⟩) hS.2.2 dX0_inRings_108
      · have h := h.2 hc
        refine lv_aload_n hx hb dX0_inRings_78 rfl (lv_at hl 0 rfl) ?_
        refine va_get (D := D) (ci := 0) (v := .ref (a 1)) (C := RX0) (T := TX0) (N := 1) hx hb hts hi_X0_inRings_X0 hown hK.1 hP 0 rfl rfl 0 (by decide) (hts _ k_X0_inRings_1) (fun _ h9 => h9) rfl dX0_inRings_79 ?_
        refine lv_iload hx hb dX0_inRings_82 (lv_at hl 2 rfl) ?_
        obtain ⟨hi, h⟩ := h
        refine x_iald (v := this_tells x4.toNatClampNeg) hx hb hK hP 1 rfl hi rfl dX0_inRings_84 ?_
        refine lv_iload hx hb dX0_inRings_85 (lv_at hl 2 rfl) ?_
        refine rd_callz (va_runSN (As := [.int (this_tells x4.toNatClampNeg), .int x4]) (rest := []) ⟨hx, hb, hml, hown, hts⟩ (c_X7_hasBit l D ca   (this_tells x4.toNatClampNeg) x4 _ h) ⟨va_cnB 2 hts gX0_inRings_X7_hasBit_n41 rfl rfl rfl (hK.2 (RX0, 41, yX7_hasBit, "IronedQuarrels") (List.mem_of_getElem? (i := 11) rfl)) (hts _ k_X0_inRings_33) (by decide +kernel) ⟨Nat.le_of_ble_eq_true rfl, Nat.le_of_ble_eq_true rfl⟩, hts _ k_X0_inRings_32, trivial⟩ (PcX.preS hK (fun k q h => by simp at h)) rfl rfl hl.1 rfl (lv_room (Nat.le_of_ble_eq_true rfl)) dX0_inRings_87 ⟨Nat.le_of_ble_eq_true rfl, Nat.le_of_ble_eq_true rfl⟩) (fun r2 h hz_r2 => ?_)
        try dsimp only at h
        refine lv_if_eq (tgt := 101) hx hb dX0_inRings_90 (by decide) (fun hc => ?_) (fun hc => ?_)
        · have h := h.1 hc
          refine lv_iinc (v := x4 + 1) (lv' := [(4, .int (x4 + 1)), (0, .ref (a 0)), (3, .int x3)]) hx hb dX0_inRings_101 hl (k := 2) rfl rfl (by decide) rfl (fun ls hl => ?_)
          refine lv_goto (tgt := 71) hx hb dX0_inRings_104 (by decide) ?_
          exact ih71 this_tells x3 (x4 + 1) h _ _ hP hD hS ls (lv_sub hl [1, 2, 0] rfl)
        · have h := h.2 hc
          refine lv_iload_n hx hb dX0_inRings_93 rfl (lv_at hl 1 rfl) ?_
          refine lv_iload hx hb dX0_inRings_94 (lv_at hl 2 rfl) ?_
          refine rd_calli (va_runSN (As := [.int x4]) (rest := [.int x3]) ⟨hx, hb, hml, hown, hts⟩ (c_X7_bit l D ca   x4 _ h) ⟨va_cnB 1 hts gX0_inRings_X7_bit_n31 rfl rfl rfl (hK.2 (RX0, 31, yX7_bit, "IronedQuarrels") (List.mem_of_getElem? (i := 7) rfl)) (hts _ k_X0_inRings_33) (by decide +kernel) ⟨Nat.le_of_ble_eq_true rfl, Nat.le_of_ble_eq_true rfl⟩, hts _ k_X0_inRings_35, trivial⟩ (PcX.preS hK (fun k q h => by simp at h)) rfl rfl hl.1 rfl (lv_room (Nat.le_of_ble_eq_true rfl)) dX0_inRings_96 ⟨Nat.le_of_ble_eq_true rfl, Nat.le_of_ble_eq_true rfl⟩) (fun r3 h => ?_)
          try dsimp only at h
          refine lv_ior hx hb dX0_inRings_99 ?_
          refine lv_istore_n (lv' := [(3, .int (x3 ||| r3)), (0, .ref (a 0)), (4, .int x4)]) hx hb dX0_inRings_100 rfl hl (by decide) rfl (fun ls hl => ?_)
          refine lv_iinc (v := x4 + 1) (lv' := [(4, .int (x4 + 1)), (3, .int (x3 ||| r3)), (0, .ref (a 0))]) hx hb dX0_inRings_101 hl (k := 2) rfl rfl (by decide) rfl (fun ls hl => ?_)
          refine lv_goto (tgt := 71) hx hb dX0_inRings_104 (by decide) ?_
          exact ih71 this_tells (x3 ||| r3) (x4 + 1) h _ _ hP hD hS ls (lv_sub hl [2, 1, 0] rfl)
  have w_17 : ∀ (K8 : (Nat → Int32) → (Int32) → Prop) (ih8 : ∀ (this_tells : Nat → Int32) (x3 : Int32), K8 this_tells x3 → ∀ (H : Heap) (locs : List Loc), va_P D vwCl ((W_X0 ca a this_tells) ++ (W_X1 ca a_heap heap_kinds heap_whos heap_toWhoms heap_topics heap_weights heap_answered heap_deeds heap_size heap_saidBits heap_deedCount)) H → va_D (adr ((W_X0 ca a this_tells) ++ (W_X1 ca a_heap heap_kinds heap_whos heap_toWhoms heap_topics heap_weights heap_answered heap_deeds heap_size heap_saidBits heap_deedCount))) ((W_X0 ca a this_tells) ++ (W_X1 ca a_heap heap_kinds heap_whos heap_toWhoms heap_topics heap_weights heap_answered heap_deeds heap_size heap_saidBits heap_deedCount)) → va_S (adr ((W_X0 ca a this_tells) ++ (W_X1 ca a_heap heap_kinds heap_whos heap_toWhoms heap_topics heap_weights heap_answered heap_deeds heap_size heap_saidBits heap_deedCount))) zs.heap H locs → ∀ ls : Array Slot, lv_has ls 5 [(0, .ref (a 0)), (3, .int x3)] → W zp l ze rm_X0_inRings zs zm ([.ref (a 0), .ref (a_heap 0), .int gone] : List Value).toArray zb zt zc H locs 0 0 (MQ zb (wrI (S := (Nat → Int32)) D ((W_X0 ca a this_tells) ++ (W_X1 ca a_heap heap_kinds heap_whos heap_toWhoms heap_topics heap_weights heap_answered heap_deeds heap_size heap_saidBits heap_deedCount)) (fun u => (W_X0 ca a u) ++ (W_X1 ca a_heap heap_kinds heap_whos heap_toWhoms heap_topics heap_weights heap_answered heap_deeds heap_size heap_saidBits heap_deedCount)) (fun r u => post r u)) ([.ref (a 0), .ref (a_heap 0), .int gone] : List Value).toArray zs 0 0 (adr ((W_X0 ca a this_tells) ++ (W_X1 ca a_heap heap_kinds heap_whos heap_toWhoms heap_topics heap_weights heap_answered heap_deeds heap_size heap_saidBits heap_deedCount)))) (F0 zm 8 ls [])) (zn : Nat) (this_tells : Nat → Int32) (x3 : Int32) (x4 : Int32), wl_X0_inRings_17 K8 zn this_tells x3 x4 → ∀ (H : Heap) (locs : List Loc), va_P D vwCl ((W_X0 ca a this_tells) ++ (W_X1 ca a_heap heap_kinds heap_whos heap_toWhoms heap_topics heap_weights heap_answered heap_deeds heap_size heap_saidBits heap_deedCount)) H → va_D (adr ((W_X0 ca a this_tells) ++ (W_X1 ca a_heap heap_kinds heap_whos heap_toWhoms heap_topics heap_weights heap_answered heap_deeds heap_size heap_saidBits heap_deedCount))) ((W_X0 ca a this_tells) ++ (W_X1 ca a_heap heap_kinds heap_whos heap_toWhoms heap_topics heap_weights heap_answered heap_deeds heap_size heap_saidBits heap_deedCount)) → va_S (adr ((W_X0 ca a this_tells) ++ (W_X1 ca a_heap heap_kinds heap_whos heap_toWhoms heap_topics heap_weights heap_answered heap_deeds heap_size heap_saidBits heap_deedCount))) zs.heap H locs → ∀ ls : Array Slot, lv_has ls 5 [(0, .ref (a 0)), (3, .int x3), (4, .int x4)] → W zp l ze rm_X0_inRings zs zm ([.ref (a 0), .ref (a_heap 0), .int gone] : List Value).toArray zb zt zc H locs 0 0 (MQ zb (wrI (S := (Nat → Int32)) D ((W_X0 ca a this_tells) ++ (W_X1 ca a_heap heap_kinds heap_whos heap_toWhoms heap_topics heap_weights heap_answered heap_deeds heap_size heap_saidBits heap_deedCount)) (fun u => (W_X0 ca a u) ++ (W_X1 ca a_heap heap_kinds heap_whos heap_toWhoms heap_topics heap_weights heap_answered heap_deeds heap_size heap_saidBits heap_deedCount)) (fun r u => post r u)) ([.ref (a 0), .ref (a_heap 0), .int gone] : List Value).toArray zs 0 0 (adr ((W_X0 ca a this_tells) ++ (W_X1 ca a_heap heap_kinds heap_whos heap_toWhoms heap_topics heap_weights heap_answered heap_deeds heap_size heap_saidBits heap_deedCount)))) (F0 zm 17 ls []) := by
    intro K8 ih8 zn
    induction zn with
    | zero => intro this_tells x3 x4 h; exact h.elim
    | succ zn ih17 =>
      intro this_tells x3 x4 h H locs hP hD hS ls hl
      replace h : wb_X0_inRings_17 K8 (wl_X0_inRings_17 K8 zn) this_tells x3 x4 := h
      unfold wb_X0_inRings_17 at h
      refine lv_iload hx hb dX0_inRings_17 (lv_at hl 2 rfl) ?_
      refine lv_bipush (v := (6)) hx hb dX0_inRings_19 (by decide) ?_
      refine lv_icmp_ge (tgt := 60) hx hb dX0_inRings_21 (by decide) (fun hc => ?_) (fun hc => ?_)
      · have h := h.1 hc
        refine lv_iinc (v := x3 + 1) (lv' := [(3, .int (x3 + 1)), (0, .ref (a 0)), (4, .int x4)]) hx hb dX0_inRings_60 hl (k := 1) rfl rfl (by decide) rfl (fun ls hl => ?_)
        refine lv_goto (tgt := 8) hx hb dX0_inRings_63 (by decide) ?_
        exact ih8 this_tells (x3 + 1) h _ _ hP hD hS ls (lv_sub hl [1, 0] rfl)
      · have h := h.2 hc
        refine lv_aload_n hx hb dX0_inRings_24 rfl (lv_at hl 0 rfl) ?_
        refine va_get (D := D) (ci := 0) (v := .ref (a 1)) (C := RX0) (T := TX0) (N := 1) hx hb hts hi_X0_inRings_X0 hown hK.1 hP 0 rfl rfl 0 (by decide) (hts _ k_X0_inRings_1) (fun _ h9 => h9) rfl dX0_inRings_25 ?_
        refine lv_iload hx hb dX0_inRings_28 (lv_at hl 2 rfl) ?_
        obtain ⟨hi, h⟩ := h
        refine x_iald (v := this_tells x4.toNatClampNeg) hx hb hK hP 1 rfl hi rfl dX0_inRings_30 ?_
        refine lv_iload_n hx hb dX0_inRings_31 rfl (lv_at hl 1 rfl) ?_
        refine rd_callz (va_runSN (As := [.int (this_tells x4.toNatClampNeg), .int x3]) (rest := []) ⟨hx, hb, hml, hown, hts⟩ (c_X7_hasBit l D ca   (this_tells x4.toNatClampNeg) x3 _ h) ⟨va_cnB 2 hts gX0_inRings_X7_hasBit_n41 rfl rfl rfl (hK.2 (RX0, 41, yX7_hasBit, "IronedQuarrels") (List.mem_of_getElem? (i := 11) rfl)) (hts _ k_X0_inRings_33) (by decide +kernel) ⟨Nat.le_of_ble_eq_true rfl, Nat.le_of_ble_eq_true rfl⟩, hts _ k_X0_inRings_32, trivial⟩ (PcX.preS hK (fun k q h => by simp at h)) rfl rfl hl.1 rfl (lv_room (Nat.le_of_ble_eq_true rfl)) dX0_inRings_32 ⟨Nat.le_of_ble_eq_true rfl, Nat.le_of_ble_eq_true rfl⟩) (fun r4 h hz_r4 => ?_)
        try dsimp only at h
        refine lv_if_eq (tgt := 54) hx hb dX0_inRings_35 (by decide) (fun hc => ?_) (fun hc => ?_)
        · have h := h.1 hc
          refine lv_iinc (v := x4 + 1) (lv' := [(4, .int (x4 + 1)), (0, .ref (a 0)), (3, .int x3)]) hx hb dX0_inRings_54 hl (k := 2) rfl rfl (by decide) rfl (fun ls hl => ?_)
          refine lv_goto (tgt := 17) hx hb dX0_inRings_57 (by decide) ?_
          exact ih17 this_tells x3 (x4 + 1) h _ _ hP hD hS ls (lv_sub hl [1, 2, 0] rfl)
        · have h := h.2 hc
          refine lv_aload_n hx hb dX0_inRings_38 rfl (lv_at hl 0 rfl) ?_
          refine va_get (D := D) (ci := 0) (v := .ref (a 1)) (C := RX0) (T := TX0) (N := 1) hx hb hts hi_X0_inRings_X0 hown hK.1 hP 0 rfl rfl 0 (by decide) (hts _ k_X0_inRings_1) (fun _ h9 => h9) rfl dX0_inRings_39 ?_
          refine lv_iload hx hb dX0_inRings_42 (lv_at hl 2 rfl) ?_
          refine lv_dup2_11 hx hb dX0_inRings_44 rfl rfl ?_
          obtain ⟨hi, h⟩ := h
          refine x_iald (v := this_tells x4.toNatClampNeg) hx hb hK hP 1 rfl hi rfl dX0_inRings_45 ?_
          refine lv_aload_n hx hb dX0_inRings_46 rfl (lv_at hl 0 rfl) ?_
          refine va_get (D := D) (ci := 0) (v := .ref (a 1)) (C := RX0) (T := TX0) (N := 1) hx hb hts hi_X0_inRings_X0 hown hK.1 hP 0 rfl rfl 0 (by decide) (hts _ k_X0_inRings_1) (fun _ h9 => h9) rfl dX0_inRings_47 ?_
          refine lv_iload_n hx hb dX0_inRings_50 rfl (lv_at hl 1 rfl) ?_
          obtain ⟨hi, h⟩ := h
          refine x_iald (v := this_tells x3.toNatClampNeg) hx hb hK hP 1 rfl hi rfl dX0_inRings_51 ?_
          refine lv_ior hx hb dX0_inRings_52 ?_
          obtain ⟨hi, h⟩ := h
          refine x_iast (ws' := (W_X0 ca a (upd this_tells (x4.toNatClampNeg) ((this_tells x4.toNatClampNeg) ||| (this_tells x3.toNatClampNeg)))) ++ (W_X1 ca a_heap heap_kinds heap_whos heap_toWhoms heap_topics heap_weights heap_answered heap_deeds heap_size heap_saidBits heap_deedCount)) hx hb hK hP hD hS 1 rfl hi (k := (x4.toNatClampNeg)) rfl rfl dX0_inRings_53 (fun H locs hP hD hS => ?_)
          refine lv_iinc (v := x4 + 1) (lv' := [(4, .int (x4 + 1)), (0, .ref (a 0)), (3, .int x3)]) hx hb dX0_inRings_54 hl (k := 2) rfl rfl (by decide) rfl (fun ls hl => ?_)
          refine lv_goto (tgt := 17) hx hb dX0_inRings_57 (by decide) ?_
          exact ih17 (upd this_tells (x4.toNatClampNeg) ((this_tells x4.toNatClampNeg) ||| (this_tells x3.toNatClampNeg))) x3 (x4 + 1) h _ _ hP hD hS ls (lv_sub hl [1, 2, 0] rfl)
  have w_8 : ∀ (zn : Nat) (this_tells : Nat → Int32) (x3 : Int32), wl_X0_inRings_8 post zn this_tells x3 → ∀ (H : Heap) (locs : List Loc), va_P D vwCl ((W_X0 ca a this_tells) ++ (W_X1 ca a_heap heap_kinds heap_whos heap_toWhoms heap_topics heap_weights heap_answered heap_deeds heap_size heap_saidBits heap_deedCount)) H → va_D (adr ((W_X0 ca a this_tells) ++ (W_X1 ca a_heap heap_kinds heap_whos heap_toWhoms heap_topics heap_weights heap_answered heap_deeds heap_size heap_saidBits heap_deedCount))) ((W_X0 ca a this_tells) ++ (W_X1 ca a_heap heap_kinds heap_whos heap_toWhoms heap_topics heap_weights heap_answered heap_deeds heap_size heap_saidBits heap_deedCount)) → va_S (adr ((W_X0 ca a this_tells) ++ (W_X1 ca a_heap heap_kinds heap_whos heap_toWhoms heap_topics heap_weights heap_answered heap_deeds heap_size heap_saidBits heap_deedCount))) zs.heap H locs → ∀ ls : Array Slot, lv_has ls 5 [(0, .ref (a 0)), (3, .int x3)] → W zp l ze rm_X0_inRings zs zm ([.ref (a 0), .ref (a_heap 0), .int gone] : List Value).toArray zb zt zc H locs 0 0 (MQ zb (wrI (S := (Nat → Int32)) D ((W_X0 ca a this_tells) ++ (W_X1 ca a_heap heap_kinds heap_whos heap_toWhoms heap_topics heap_weights heap_answered heap_deeds heap_size heap_saidBits heap_deedCount)) (fun u => (W_X0 ca a u) ++ (W_X1 ca a_heap heap_kinds heap_whos heap_toWhoms heap_topics heap_weights heap_answered heap_deeds heap_size heap_saidBits heap_deedCount)) (fun r u => post r u)) ([.ref (a 0), .ref (a_heap 0), .int gone] : List Value).toArray zs 0 0 (adr ((W_X0 ca a this_tells) ++ (W_X1 ca a_heap heap_kinds heap_whos heap_toWhoms heap_topics heap_weights heap_answered heap_deeds heap_size heap_saidBits heap_deedCount)))) (F0 zm 8 ls []) := by
    intro zn
    induction zn with
    | zero => intro this_tells x3 h; exact h.elim
    | succ zn ih8 =>
      intro this_tells x3 h H locs hP hD hS ls hl
      replace h : wb_X0_inRings_8 post (wl_X0_inRings_8 post zn) this_tells x3 := h
      unfold wb_X0_inRings_8 at h
      refine lv_iload_n hx hb dX0_inRings_8 rfl (lv_at hl 1 rfl) ?_
      refine lv_bipush (v := (6)) hx hb dX0_inRings_9 (by decide) ?_
      refine lv_icmp_ge (tgt := 66) hx hb dX0_inRings_11 (by decide) (fun hc => ?_) (fun hc => ?_)
      · have h := h.1 hc
        refine lv_iconst (v := (0)) hx hb dX0_inRings_66 (by decide) ?_
        refine lv_istore_n (lv' := [(3, .int (0 : Int32)), (0, .ref (a 0))]) hx hb dX0_inRings_67 rfl hl (by decide) rfl (fun ls hl => ?_)
        refine lv_iconst (v := (0)) hx hb dX0_inRings_68 (by decide) ?_
        refine lv_istore (lv' := [(4, .int (0 : Int32)), (3, .int (0 : Int32)), (0, .ref (a 0))]) hx hb dX0_inRings_69 hl (by decide) rfl (fun ls hl => ?_)
        obtain ⟨zn, h⟩ := h
        exact w_71  zn this_tells (0 : Int32) (0 : Int32) h _ _ hP hD hS ls (lv_sub hl [2, 1, 0] rfl)
      · have h := h.2 hc
        refine lv_iconst (v := (0)) hx hb dX0_inRings_14 (by decide) ?_
        refine lv_istore (lv' := [(4, .int (0 : Int32)), (0, .ref (a 0)), (3, .int x3)]) hx hb dX0_inRings_15 hl (by decide) rfl (fun ls hl => ?_)
        obtain ⟨zn, h⟩ := h
        exact w_17 _ ih8 zn this_tells x3 (0 : Int32) h _ _ hP hD hS ls (lv_sub hl [1, 2, 0] rfl)
  unfold wp_X0_inRings at h
  refine lv_aload_n hx hb dX0_inRings_0 rfl (lv_at hl 0 rfl) ?_
  refine lv_aload_n hx hb dX0_inRings_1 rfl (lv_at hl 1 rfl) ?_
  refine lv_iload_n hx hb dX0_inRings_2 rfl (lv_at hl 2 rfl) ?_
  refine wr_callv (ws1 := fun u => (W_X0 ca a u) ++ (W_X1 ca a_heap heap_kinds heap_whos heap_toWhoms heap_topics heap_weights heap_answered heap_deeds heap_size heap_saidBits heap_deedCount)) (wr := ([] : List Nat).filterMap (fun i => ((W_X0 ca a this_tells) ++ (W_X1 ca a_heap heap_kinds heap_whos heap_toWhoms heap_topics heap_weights heap_answered heap_deeds heap_size heap_saidBits heap_deedCount) : va_W)[i]?)) (n := 10) (va_runV (As := [.ref (a_heap 0), .int gone]) (rest := []) ⟨hx, hb, hml, hown, hts⟩ (c_X0_listen l D ca a a_heap this_tells heap_kinds heap_whos heap_toWhoms heap_topics heap_weights heap_answered heap_deeds heap_size heap_saidBits heap_deedCount gone _ (hD.subM [0, 1, 2, 3, 4, 5, 6, 7, 8, 9] (by decide) rfl) h) (cwV 2 hts gX0_inRings_X0_listen rfl rfl rfl (by decide +kernel) ⟨Nat.le_of_ble_eq_true rfl, Nat.le_of_ble_eq_true rfl⟩) (PcX.preV (q := (RX0, TX0, 1)) (ci := 0) (q0 := 0) hK hP rfl rfl hP) rfl rfl hl.1 rfl (lv_room (Nat.le_of_ble_eq_true rfl)) dX0_inRings_3 ⟨Nat.le_of_ble_eq_true rfl, Nat.le_of_ble_eq_true rfl⟩) hP hD hS [0, 1, 2, 3, 4, 5, 6, 7, 8, 9] [] rfl (fun _ => rfl) rfl (fun _ => rfl) (fun _ => rfl) (fun _ => rfl) (by decide +kernel) (by decide +kernel) (fun u H locs h hP hD hS => ?_)
  obtain ⟨this_tells_1, rfl⟩ : ∃ z, z = u := ⟨u, rfl⟩
  have hP : va_P D vwCl ((W_X0 ca a this_tells_1) ++ (W_X1 ca a_heap heap_kinds heap_whos heap_toWhoms heap_topics heap_weights heap_answered heap_deeds heap_size heap_saidBits heap_deedCount)) H := hP
  have hD : va_D _ ((W_X0 ca a this_tells_1) ++ (W_X1 ca a_heap heap_kinds heap_whos heap_toWhoms heap_topics heap_weights heap_answered heap_deeds heap_size heap_saidBits heap_deedCount)) := hD
  try dsimp only at h
  refine lv_iconst (v := (0)) hx hb dX0_inRings_6 (by decide) ?_
  refine lv_istore_n (lv' := [(3, .int (0 : Int32)), (0, .ref (a 0)), (1, .ref (a_heap 0)), (2, .int gone)]) hx hb dX0_inRings_7 rfl hl (by decide) rfl (fun ls hl => ?_)
  obtain ⟨zn, h⟩ := h
  exact w_8  zn this_tells_1 (0 : Int32) h _ _ hP hD hS ls (lv_sub hl [1, 0] rfl)

-- IronedQuarrels$Company.fewestAway(LIronedQuarrels$Heap;)I
def wb_X0_fewestAway_5 (heap_whos : Nat → Int32) (heap_toWhoms : Nat → Int32) (heap_size : Int32) (heap_saidBits : Int32) (post : Int32 → (Nat → Int32) → Prop) (K5 : (Nat → Int32) → (Int32) → (Int32) → Prop) (this_tells : Nat → Int32) (x2 : Int32) (x3 : Int32) : Prop :=
  ((63 : Int32) ≤ x3 → (post x2 this_tells)) ∧ (¬ (63 : Int32) ≤ x3 → (wp_J6_bitCount_0f7a4 x3 (fun r1 => wp_J6_bitCount_0f7a4 x2 (fun r2 => (r2 ≤ r1 → (K5 this_tells x2 (x3 + 1))) ∧ (¬ r2 ≤ r1 → (wp_X0_inRings this_tells heap_whos heap_toWhoms heap_size heap_saidBits x3 (fun r3 this_tells_4 => (¬ r3 = 0 → (K5 this_tells_4 x2 (x3 + 1))) ∧ (r3 = 0 → (K5 this_tells_4 x3 (x3 + 1))))))))))
def wl_X0_fewestAway_5 (heap_whos : Nat → Int32) (heap_toWhoms : Nat → Int32) (heap_size : Int32) (heap_saidBits : Int32) (post : Int32 → (Nat → Int32) → Prop) : Nat → (Nat → Int32) → (Int32) → (Int32) → Prop
  | 0 => fun _ _ _ => False
  | zn + 1 => wb_X0_fewestAway_5 heap_whos heap_toWhoms heap_size heap_saidBits post (wl_X0_fewestAway_5 heap_whos heap_toWhoms heap_size heap_saidBits post zn)
def wp_X0_fewestAway (this_tells : Nat → Int32) (heap_whos : Nat → Int32) (heap_toWhoms : Nat → Int32) (heap_size : Int32) (heap_saidBits : Int32) (post : Int32 → (Nat → Int32) → Prop) : Prop :=
  ∃ zn, wl_X0_fewestAway_5 heap_whos heap_toWhoms heap_size heap_saidBits post zn this_tells (63 : Int32) (0 : Int32)
def rm_X0_fewestAway : Room := { frames := 4, cells := 0, slots := 0, locals := 91 }
theorem hi_X0_fewestAway_X0 : ∀ w ∈ wsX00, w ∈ wsX0_fewestAway := fun w h => List.mem_cons_of_mem _ (List.mem_append_left _ (List.mem_append_right _ h))
theorem hi_X0_fewestAway_X1 : ∀ w ∈ wsX10, w ∈ wsX0_fewestAway := fun w h => List.mem_cons_of_mem _ (List.mem_append_right _ h)
set_option maxHeartbeats 4000000 in
set_option maxRecDepth 100000 in
theorem c_X0_fewestAway (l : Launch) (D : va_G) (ca : Nat → ClassId) (a : Nat → Nat) (a_heap : Nat → Nat) (this_tells : Nat → Int32) (heap_kinds : Nat → Int32) (heap_whos : Nat → Int32) (heap_toWhoms : Nat → Int32) (heap_topics : Nat → Int32) (heap_weights : Nat → Int32) (heap_answered : Nat → Int32) (heap_deeds : Nat → Int32) (heap_size : Int32) (heap_saidBits : Int32) (heap_deedCount : Int32)  (post : Int32 → (Nat → Int32) → Prop) (hd : va_D (fun _ => True) ((W_X0 ca a this_tells) ++ (W_X1 ca a_heap heap_kinds heap_whos heap_toWhoms heap_topics heap_weights heap_answered heap_deeds heap_size heap_saidBits heap_deedCount))) (h : wp_X0_fewestAway this_tells heap_whos heap_toWhoms heap_size heap_saidBits post) : Met l yX0_fewestAway wsX0_fewestAway rm_X0_fewestAway (PcX D ca [.ref (a 0), .ref (a_heap 0)] ((W_X0 ca a this_tells) ++ (W_X1 ca a_heap heap_kinds heap_whos heap_toWhoms heap_topics heap_weights heap_answered heap_deeds heap_size heap_saidBits heap_deedCount))) (wrI (S := (Nat → Int32)) D ((W_X0 ca a this_tells) ++ (W_X1 ca a_heap heap_kinds heap_whos heap_toWhoms heap_topics heap_weights heap_answered heap_deeds heap_size heap_saidBits heap_deedCount)) (fun u => (W_X0 ca a u) ++ (W_X1 ca a_heap heap_kinds heap_whos heap_toWhoms heap_topics heap_weights heap_answered heap_deeds heap_size heap_saidBits heap_deedCount)) (fun r u => post r u)) 0 0 (adr ((W_X0 ca a this_tells) ++ (W_X1 ca a_heap heap_kinds heap_whos heap_toWhoms heap_topics heap_weights heap_answered heap_deeds heap_size heap_saidBits heap_deedCount))) := by
  refine Met.ofW (cc := cX0_fewestAway) (maxL := 4) (ret := (some .int)) (by decide) rfl ?_
  intro zp ze zs zm za zb zt zc z1 B hml hv
  obtain ⟨rfl, hP, hK⟩ := hv
  have hx := B.exec
  have hb := B.bytes
  have hr := B.returns
  have hts := atoms_spec (ws := wsX0_fewestAway) B.pre
  have hown : zs.vm.findClass RX0 = some zm.cls := findClass_of_methodNamed B.named
  have hlocks := B.notSynchronized
  have hD : va_D (adr ((W_X0 ca a this_tells) ++ (W_X1 ca a_heap heap_kinds heap_whos heap_toWhoms heap_topics heap_weights heap_answered heap_deeds heap_size heap_saidBits heap_deedCount))) ((W_X0 ca a this_tells) ++ (W_X1 ca a_heap heap_kinds heap_whos heap_toWhoms heap_topics heap_weights heap_answered heap_deeds heap_size heap_saidBits heap_deedCount)) := hd.adr
  have hS : va_S (adr ((W_X0 ca a this_tells) ++ (W_X1 ca a_heap heap_kinds heap_whos heap_toWhoms heap_topics heap_weights heap_answered heap_deeds heap_size heap_saidBits heap_deedCount))) zs.heap zs.heap [] := va_S.rf
  have hl := lv_entry ([.ref (a 0), .ref (a_heap 0)]) (n := 4) (Nat.le_of_ble_eq_true rfl)
  rw [lg_entry_eq]
  generalize (lg_sl ([.ref (a 0), .ref (a_heap 0)]) ++ List.replicate (4 - (lg_sl ([.ref (a 0), .ref (a_heap 0)])).length) Slot.unset).toArray = ls at hl ⊢
  replace hl : lv_has ls 4 [(0, .ref (a 0)), (1, .ref (a_heap 0))] := hl
  show W zp l ze rm_X0_fewestAway zs zm ([.ref (a 0), .ref (a_heap 0)] : List Value).toArray zb zt zc zs.heap [] 0 0 (MQ zb (wrI (S := (Nat → Int32)) D ((W_X0 ca a this_tells) ++ (W_X1 ca a_heap heap_kinds heap_whos heap_toWhoms heap_topics heap_weights heap_answered heap_deeds heap_size heap_saidBits heap_deedCount)) (fun u => (W_X0 ca a u) ++ (W_X1 ca a_heap heap_kinds heap_whos heap_toWhoms heap_topics heap_weights heap_answered heap_deeds heap_size heap_saidBits heap_deedCount)) (fun r u => post r u)) ([.ref (a 0), .ref (a_heap 0)] : List Value).toArray zs 0 0 (adr ((W_X0 ca a this_tells) ++ (W_X1 ca a_heap heap_kinds heap_whos heap_toWhoms heap_topics heap_weights heap_answered heap_deeds heap_size heap_saidBits heap_deedCount)))) (F0 zm 0 ls [])
  have w_5 : ∀ (zn : Nat) (this_tells : Nat → Int32) (x2 : Int32) (x3 : Int32), wl_X0_fewestAway_5 heap_whos heap_toWhoms heap_size heap_saidBits post zn this_tells x2 x3 → ∀ (H : Heap) (locs : List Loc), va_P D vwCl ((W_X0 ca a this_tells) ++ (W_X1 ca a_heap heap_kinds heap_whos heap_toWhoms heap_topics heap_weights heap_answered heap_deeds heap_size heap_saidBits heap_deedCount)) H → va_D (adr ((W_X0 ca a this_tells) ++ (W_X1 ca a_heap heap_kinds heap_whos heap_toWhoms heap_topics heap_weights heap_answered heap_deeds heap_size heap_saidBits heap_deedCount))) ((W_X0 ca a this_tells) ++ (W_X1 ca a_heap heap_kinds heap_whos heap_toWhoms heap_topics heap_weights heap_answered heap_deeds heap_size heap_saidBits heap_deedCount)) → va_S (adr ((W_X0 ca a this_tells) ++ (W_X1 ca a_heap heap_kinds heap_whos heap_toWhoms heap_topics heap_weights heap_answered heap_deeds heap_size heap_saidBits heap_deedCount))) zs.heap H locs → ∀ ls : Array Slot, lv_has ls 4 [(0, .ref (a 0)), (1, .ref (a_heap 0)), (2, .int x2), (3, .int x3)] → W zp l ze rm_X0_fewestAway zs zm ([.ref (a 0), .ref (a_heap 0)] : List Value).toArray zb zt zc H locs 0 0 (MQ zb (wrI (S := (Nat → Int32)) D ((W_X0 ca a this_tells) ++ (W_X1 ca a_heap heap_kinds heap_whos heap_toWhoms heap_topics heap_weights heap_answered heap_deeds heap_size heap_saidBits heap_deedCount)) (fun u => (W_X0 ca a u) ++ (W_X1 ca a_heap heap_kinds heap_whos heap_toWhoms heap_topics heap_weights heap_answered heap_deeds heap_size heap_saidBits heap_deedCount)) (fun r u => post r u)) ([.ref (a 0), .ref (a_heap 0)] : List Value).toArray zs 0 0 (adr ((W_X0 ca a this_tells) ++ (W_X1 ca a_heap heap_kinds heap_whos heap_toWhoms heap_topics heap_weights heap_answered heap_deeds heap_size heap_saidBits heap_deedCount)))) (F0 zm 5 ls []) := by
    intro zn
    induction zn with
    | zero => intro this_tells x2 x3 h; exact h.elim
    | succ zn ih5 =>
      intro this_tells x2 x3 h H locs hP hD hS ls hl
      replace h : wb_X0_fewestAway_5 heap_whos heap_toWhoms heap_size heap_saidBits post (wl_X0_fewestAway_5 heap_whos heap_toWhoms heap_size heap_saidBits post zn) this_tells x2 x3 := h
      unfold wb_X0_fewestAway_5 at h
      refine lv_iload_n hx hb dX0_fewestAway_5 rfl (lv_at hl 3 rfl) ?_
      refine lv_bipush (v := (63)) hx hb dX0_fewestAway_6 (by decide) ?_
      refine lv_icmp_ge (tgt := 39) hx hb dX0_fewestAway_8 (by decide) (fun hc => ?_) (fun hc => ?_)
      · have h := h.1 hc
        refine lv_iload_n hx hb dX0_fewestAway_39 rfl (lv_at hl 2 rfl) ?_
        exact W.iret (v := x2) hx hb hr (fun t ht hW => ⟨⟨x2, this_tells, rfl, h, by rw [ht]; exact hP⟩, hS.F ht⟩) hS.2.2 dX0_fewestAway_40
      · have h := h.2 hc
        refine lv_iload_n hx hb dX0_fewestAway_11 rfl (lv_at hl 3 rfl) ?_
        refine rd_calli (va_runS (As := [.int x3]) (rest := []) ⟨hx, hb, hml, hown, hts⟩ (c_J6_bitCount_0f7a4 l D ca   x3 _ h) (va_cwS 1 hts gX0_fewestAway_J6_bitCount_0f7a4 rfl rfl rfl (by decide +kernel) ⟨Nat.le_of_ble_eq_true rfl, Nat.le_of_ble_eq_true rfl⟩) (PcX.preS hK (fun k q h => by simp at h)) rfl rfl hl.1 rfl (lv_room (Nat.le_of_ble_eq_true rfl)) dX0_fewestAway_12 ⟨Nat.le_of_ble_eq_true rfl, Nat.le_of_ble_eq_true rfl⟩) (fun r1 h => ?_)
        try dsimp only at h
        refine lv_iload_n hx hb dX0_fewestAway_15 rfl (lv_at hl 2 rfl) ?_
        refine rd_calli (va_runS (As := [.int x2]) (rest := [.int r1]) ⟨hx, hb, hml, hown, hts⟩ (c_J6_bitCount_0f7a4 l D ca   x2 _ h) (va_cwS 1 hts gX0_fewestAway_J6_bitCount_0f7a4 rfl rfl rfl (by decide +kernel) ⟨Nat.le_of_ble_eq_true rfl, Nat.le_of_ble_eq_true rfl⟩) (PcX.preS hK (fun k q h => by simp at h)) rfl rfl hl.1 rfl (lv_room (Nat.le_of_ble_eq_true rfl)) dX0_fewestAway_16 ⟨Nat.le_of_ble_eq_true rfl, Nat.le_of_ble_eq_true rfl⟩) (fun r2 h => ?_)
        try dsimp only at h
        refine lv_icmp_ge (tgt := 33) hx hb dX0_fewestAway_19 (by decide) (fun hc => ?_) (fun hc => ?_)
        · have h := h.1 hc
          refine lv_iinc (v := x3 + 1) (lv' := [(3, .int (x3 + 1)), (0, .ref (a 0)), (1, .ref (a_heap 0)), (2, .int x2)]) hx hb dX0_fewestAway_33 hl (k := 3) rfl rfl (by decide) rfl (fun ls hl => ?_)
          refine lv_goto (tgt := 5) hx hb dX0_fewestAway_36 (by decide) ?_
          exact ih5 this_tells x2 (x3 + 1) h _ _ hP hD hS ls (lv_sub hl [1, 2, 3, 0] rfl)
        · have h := h.2 hc
          refine lv_aload_n hx hb dX0_fewestAway_22 rfl (lv_at hl 0 rfl) ?_
          refine lv_aload_n hx hb dX0_fewestAway_23 rfl (lv_at hl 1 rfl) ?_
          refine lv_iload_n hx hb dX0_fewestAway_24 rfl (lv_at hl 3 rfl) ?_
          refine wr_calli (ws1 := fun u => (W_X0 ca a u) ++ (W_X1 ca a_heap heap_kinds heap_whos heap_toWhoms heap_topics heap_weights heap_answered heap_deeds heap_size heap_saidBits heap_deedCount)) (wr := ([] : List Nat).filterMap (fun i => ((W_X0 ca a this_tells) ++ (W_X1 ca a_heap heap_kinds heap_whos heap_toWhoms heap_topics heap_weights heap_answered heap_deeds heap_size heap_saidBits heap_deedCount) : va_W)[i]?)) (n := 10) (va_runV (As := [.ref (a_heap 0), .int x3]) (rest := []) ⟨hx, hb, hml, hown, hts⟩ (c_X0_inRings l D ca a a_heap this_tells heap_kinds heap_whos heap_toWhoms heap_topics heap_weights heap_answered heap_deeds heap_size heap_saidBits heap_deedCount x3 _ (hD.subM [0, 1, 2, 3, 4, 5, 6, 7, 8, 9] (by decide) rfl) h) (cwV 2 hts gX0_fewestAway_X0_inRings rfl rfl rfl (by decide +kernel) ⟨Nat.le_of_ble_eq_true rfl, Nat.le_of_ble_eq_true rfl⟩) (PcX.preV (q := (RX0, TX0, 1)) (ci := 0) (q0 := 0) hK hP rfl rfl hP) rfl rfl hl.1 rfl (lv_room (Nat.le_of_ble_eq_true rfl)) dX0_fewestAway_25 ⟨Nat.le_of_ble_eq_true rfl, Nat.le_of_ble_eq_true rfl⟩) hP hD hS [0, 1, 2, 3, 4, 5, 6, 7, 8, 9] [] rfl (fun _ => rfl) rfl (fun _ => rfl) (fun _ => rfl) (fun _ => rfl) (by decide +kernel) (by decide +kernel) (fun r3 u H locs h hP hD hS => ?_)
          obtain ⟨this_tells_4, rfl⟩ : ∃ z, z = u := ⟨u, rfl⟩
          have hP : va_P D vwCl ((W_X0 ca a this_tells_4) ++ (W_X1 ca a_heap heap_kinds heap_whos heap_toWhoms heap_topics heap_weights heap_answered heap_deeds heap_size heap_saidBits heap_deedCount)) H := hP
          have hD : va_D _ ((W_X0 ca a this_tells_4) ++ (W_X1 ca a_heap heap_kinds heap_whos heap_toWhoms heap_topics heap_weights heap_answered heap_deeds heap_size heap_saidBits heap_deedCount)) := hD
          try dsimp only at h
          refine lv_if_ne (tgt := 33) hx hb dX0_fewestAway_28 (by decide) (fun hc => ?_) (fun hc => ?_)
          · have h := h.1 hc
            refine lv_iinc (v := x3 + 1) (lv' := [(3, .int (x3 + 1)), (0, .ref (a 0)), (1, .ref (a_heap 0)), (2, .int x2)]) hx hb dX0_fewestAway_33 hl (k := 3) rfl rfl (by decide) rfl (fun ls hl => ?_)
            refine lv_goto (tgt := 5) hx hb dX0_fewestAway_36 (by decide) ?_
            exact ih5 this_tells_4 x2 (x3 + 1) h _ _ hP hD hS ls (lv_sub hl [1, 2, 3, 0] rfl)
          · have h := h.2 hc
            refine lv_iload_n hx hb dX0_fewestAway_31 rfl (lv_at hl 3 rfl) ?_
            refine lv_istore_n (lv' := [(2, .int x3), (0, .ref (a 0)), (1, .ref (a_heap 0)), (3, .int x3)]) hx hb dX0_fewestAway_32 rfl hl (by decide) rfl (fun ls hl => ?_)
            refine lv_iinc (v := x3 + 1) (lv' := [(3, .int (x3 + 1)), (2, .int x3), (0, .ref (a 0)), (1, .ref (a_heap 0))]) hx hb dX0_fewestAway_33 hl (k := 3) rfl rfl (by decide) rfl (fun ls hl => ?_)
            refine lv_goto (tgt := 5) hx hb dX0_fewestAway_36 (by decide) ?_
            exact ih5 this_tells_4 x3 (x3 + 1) h _ _ hP hD hS ls (lv_sub hl [2, 3, 1, 0] rfl)
  unfold wp_X0_fewestAway at h
  refine lv_bipush (v := (63)) hx hb dX0_fewestAway_0 (by decide) ?_
  refine lv_istore_n (lv' := [(2, .int (63 : Int32)), (0, .ref (a 0)), (1, .ref (a_heap 0))]) hx hb dX0_fewestAway_2 rfl hl (by decide) rfl (fun ls hl => ?_)
  refine lv_iconst (v := (0)) hx hb dX0_fewestAway_3 (by decide) ?_
  refine lv_istore_n (lv' := [(3, .int (0 : Int32)), (2, .int (63 : Int32)), (0, .ref (a 0)), (1, .ref (a_heap 0))]) hx hb dX0_fewestAway_4 rfl hl (by decide) rfl (fun ls hl => ?_)
  obtain ⟨zn, h⟩ := h
  exact w_5  zn this_tells (63 : Int32) (0 : Int32) h _ _ hP hD hS ls (lv_sub hl [2, 3, 1, 0] rfl)
