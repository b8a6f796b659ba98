-- IronedQuarrels.longest(I)I
def wb_X7_longest_73 (rows_nc : Nat) (rows_width : Int32) (r : Int32) (post : Int32 → (Nat → Int32) → (Nat → Int32) → Prop) (K73 : (Nat → Int32) → (Nat → Int32) → (Int32) → (Int32) → (Int32) → Prop) (rows_sizes : Nat → Int32) (rows_cells : Nat → Int32) (x3 : Int32) (x4 : Int32) (x5 : Int32) : Prop :=
  (x4 ≤ x5 → (post x4 rows_sizes rows_cells)) ∧ (¬ x4 ≤ x5 → (wp_X7_numberAt x3 x5 (fun r8 => wp_X5_setCell rows_nc rows_width rows_cells r x5 r8 (fun rows_cells_9 => K73 rows_sizes rows_cells_9 x3 x4 (x5 + 1)))))
def wl_X7_longest_73 (rows_nc : Nat) (rows_width : Int32) (r : Int32) (post : Int32 → (Nat → Int32) → (Nat → Int32) → Prop) : Nat → (Nat → Int32) → (Nat → Int32) → (Int32) → (Int32) → (Int32) → Prop
  | 0 => fun _ _ _ _ _ => False
  | zn + 1 => wb_X7_longest_73 rows_nc rows_width r post (wl_X7_longest_73 rows_nc rows_width r post zn)
def wp_X7_longest (rows_ns : Nat) (rows_nc : Nat) (rows_width : Int32) (rows_sizes : Nat → Int32) (rows_cells : Nat → Int32) (heap_answered : Nat → Int32) (heap_size : Int32) (r : Int32) (post : Int32 → (Nat → Int32) → (Nat → Int32) → Prop) : Prop :=
  wp_X5_hasNumber rows_ns r (fun r1 => (¬ r1 = 0 → (wp_X1_deepest heap_answered heap_size (fun r2 => (¬ r2 = (-9 : Int32) → (wp_X1_leanedOn heap_answered heap_size r2 (fun r3 => wp_X7_bit r2 (fun r4 => wp_J6_bitCount_0f7a4 (r3 ||| r4) (fun r5 => wp_X5_makeAnew rows_ns rows_nc rows_width rows_sizes rows_cells r r5 (0 : Int32) (fun rows_sizes_6 rows_cells_7 => ∃ zn, wl_X7_longest_73 rows_nc rows_width r post zn rows_sizes_6 rows_cells_7 (r3 ||| r4) r5 (0 : Int32))))))) ∧ (r2 = (-9 : Int32) → (wp_X5_makeAnew rows_ns rows_nc rows_width rows_sizes rows_cells r (0 : Int32) (0 : Int32) (fun rows_sizes_10 rows_cells_11 => post (0 : Int32) rows_sizes_10 rows_cells_11)))))) ∧ (r1 = 0 → (post (-1 : Int32) rows_sizes rows_cells)))
def rm_X7_longest : Room := { frames := 3, cells := 0, slots := 0, locals := 69 }
theorem k_X7_longest_1 : Cond.fieldLink RX7 14 "IronedQuarrels" "rows" "LIronedQuarrels$Shelf;" ∈ wsX7_longest := List.mem_of_getElem? (i := 1) (by decide +kernel)
theorem k_X7_longest_2 : Cond.fieldLink RX7 24 "IronedQuarrels" "heap" "LIronedQuarrels$Heap;" ∈ wsX7_longest := List.mem_of_getElem? (i := 2) (by decide +kernel)
theorem hi_X7_longest_X1 : ∀ w ∈ wsX10, w ∈ wsX7_longest := fun w h => List.mem_cons_of_mem _ (List.mem_append_right _ h)
theorem hi_X7_longest_X5 : ∀ w ∈ wsX50, w ∈ wsX7_longest := fun w h => List.mem_cons_of_mem _ (List.mem_append_left _ (List.mem_append_right _ h))
theorem hi_X7_longest_X7 : ∀ w ∈ wsX70, w ∈ wsX7_longest := fun w h => List.mem_cons_of_mem _ (List.mem_append_left _ (List.mem_append_left _ (List.mem_append_right _ h)))
set_option maxHeartbeats 4000000 in
set_option maxRecDepth 100000 in
theorem c_X7_longest (l : Launch) (D : va_G) (ca : Nat → ClassId) (a : Nat → Nat) (aR : Nat → Nat) (aT : Nat → Nat) (aH : Nat → Nat) (aD : Nat → Nat) (aK : Nat) (aI : Nat → Nat) (aC : Nat → Nat) (aS : Nat → Nat) (aY : Nat → Nat) (lastTold : Int32) (rows_ns : Nat) (rows_nc : Nat) (rows_width : Int32) (rows_sizes : Nat → Int32) (rows_cells : Nat → Int32) (heap_kinds : Nat → Int32) (heap_whos : Nat → Int32) (heap_toWhoms : Nat → Int32) (heap_topics : Nat → Int32) (heap_weights : Nat → Int32) (heap_answered : Nat → Int32) (heap_deeds : Nat → Int32) (heap_size : Int32) (heap_saidBits : Int32) (heap_deedCount : Int32) (r : Int32) (post : Int32 → (Nat → Int32) → (Nat → Int32) → Prop) (hd : va_D (fun _ => True) ((W_X7 a aR aT aH aD aK aI aC aS aY lastTold) ++ (W_X5 ca aR rows_ns rows_nc rows_width rows_sizes rows_cells) ++ (W_X1 ca aH heap_kinds heap_whos heap_toWhoms heap_topics heap_weights heap_answered heap_deeds heap_size heap_saidBits heap_deedCount))) (h : wp_X7_longest rows_ns rows_nc rows_width rows_sizes rows_cells heap_answered heap_size r post) : Met l yX7_longest wsX7_longest rm_X7_longest (PcX D ca [.ref (a 0), .int r] ((W_X7 a aR aT aH aD aK aI aC aS aY lastTold) ++ (W_X5 ca aR rows_ns rows_nc rows_width rows_sizes rows_cells) ++ (W_X1 ca aH heap_kinds heap_whos heap_toWhoms heap_topics heap_weights heap_answered heap_deeds heap_size heap_saidBits heap_deedCount))) (wrI (S := (Nat → Int32) × (Nat → Int32)) D ((W_X7 a aR aT aH aD aK aI aC aS aY lastTold) ++ (W_X5 ca aR rows_ns rows_nc rows_width rows_sizes rows_cells) ++ (W_X1 ca aH heap_kinds heap_whos heap_toWhoms heap_topics heap_weights heap_answered heap_deeds heap_size heap_saidBits heap_deedCount)) (fun u => (W_X7 a aR aT aH aD aK aI aC aS aY lastTold) ++ (W_X5 ca aR rows_ns rows_nc rows_width u.1 u.2) ++ (W_X1 ca aH heap_kinds heap_whos heap_toWhoms heap_topics heap_weights heap_answered heap_deeds heap_size heap_saidBits heap_deedCount)) (fun r u => post r u.1 u.2)) 0 0 (adr ((W_X7 a aR aT aH aD aK aI aC aS aY lastTold) ++ (W_X5 ca aR rows_ns rows_nc rows_width rows_sizes rows_cells) ++ (W_X1 ca aH heap_kinds heap_whos heap_toWhoms heap_topics heap_weights heap_answered heap_deeds heap_size heap_saidBits heap_deedCount))) := by
  refine Met.ofW (cc := cX7_longest) (maxL := 6) (ret := (some .int)) (by decide) rfl ?_
  intro zp ze zs zm za zb zt zc z1 B hml hv
  obtain ⟨rfl, hP, hK⟩ := hv
  have hx := B.exec
  have hb := B.bytes
  have hr := B.returns
  have hts := atoms_spec (ws := wsX7_longest) B.pre
  have hown : zs.vm.findClass RX7 = some zm.cls := findClass_of_methodNamed B.named
  have hlocks := B.notSynchronized
  have hD : va_D (adr ((W_X7 a aR aT aH aD aK aI aC aS aY lastTold) ++ (W_X5 ca aR rows_ns rows_nc rows_width rows_sizes rows_cells) ++ (W_X1 ca aH heap_kinds heap_whos heap_toWhoms heap_topics heap_weights heap_answered heap_deeds heap_size heap_saidBits heap_deedCount))) ((W_X7 a aR aT aH aD aK aI aC aS aY lastTold) ++ (W_X5 ca aR rows_ns rows_nc rows_width rows_sizes rows_cells) ++ (W_X1 ca aH heap_kinds heap_whos heap_toWhoms heap_topics heap_weights heap_answered heap_deeds heap_size heap_saidBits heap_deedCount)) := hd.adr
  have hS : va_S (adr ((W_X7 a aR aT aH aD aK aI aC aS aY lastTold) ++ (W_X5 ca aR rows_ns rows_nc rows_width rows_sizes rows_cells) ++ (W_X1 ca aH heap_kinds heap_whos heap_toWhoms heap_topics heap_weights heap_answered heap_deeds heap_size heap_saidBits heap_deedCount))) zs.heap zs.heap [] := va_S.rf
  have hl := lv_entry ([.ref (a 0), .int r]) (n := 6) (Nat.le_of_ble_eq_true rfl)
  rw [lg_entry_eq]
  generalize (lg_sl ([.ref (a 0), .int r]) ++ List.replicate (6 - (lg_sl ([.ref (a 0), .int r])).length) Slot.unset).toArray = ls at hl ⊢
  replace hl : lv_has ls 6 [(0, .ref (a 0)), (1, .int r)] := hl
  show W zp l ze rm_X7_longest zs zm ([.ref (a 0), .int r] : List Value).toArray zb zt zc zs.heap [] 0 0 (MQ zb (wrI (S := (Nat → Int32) × (Nat → Int32)) D ((W_X7 a aR aT aH aD aK aI aC aS aY lastTold) ++ (W_X5 ca aR rows_ns rows_nc rows_width rows_sizes rows_cells) ++ (W_X1 ca aH heap_kinds heap_whos heap_toWhoms heap_topics heap_weights heap_answered heap_deeds heap_size heap_saidBits heap_deedCount)) (fun u => (W_X7 a aR aT aH aD aK aI aC aS aY lastTold) ++ (W_X5 ca aR rows_ns rows_nc rows_width u.1 u.2) ++ (W_X1 ca aH heap_kinds heap_whos heap_toWhoms heap_topics heap_weights heap_answered heap_deeds heap_size heap_saidBits heap_deedCount)) (fun r u => post r u.1 u.2)) ([.ref (a 0), .int r] : List Value).toArray zs 0 0 (adr ((W_X7 a aR aT aH aD aK aI aC aS aY lastTold) ++ (W_X5 ca aR rows_ns rows_nc rows_width rows_sizes rows_cells) ++ (W_X1 ca aH heap_kinds heap_whos heap_toWhoms heap_topics heap_weights heap_answered heap_deeds heap_size heap_saidBits heap_deedCount)))) (F0 zm 0 ls [])
  have w_73 : ∀ (zn : Nat) (rows_sizes : Nat → Int32) (rows_cells : Nat → Int32) (x3 : Int32) (x4 : Int32) (x5 : Int32), wl_X7_longest_73 rows_nc rows_width r post zn rows_sizes rows_cells x3 x4 x5 → ∀ (H : Heap) (locs : List Loc), va_P D vwCl ((W_X7 a aR aT aH aD aK aI aC aS aY lastTold) ++ (W_X5 ca aR rows_ns rows_nc rows_width rows_sizes rows_cells) ++ (W_X1 ca aH heap_kinds heap_whos heap_toWhoms heap_topics heap_weights heap_answered heap_deeds heap_size heap_saidBits heap_deedCount)) H → va_D (adr ((W_X7 a aR aT aH aD aK aI aC aS aY lastTold) ++ (W_X5 ca aR rows_ns rows_nc rows_width rows_sizes rows_cells) ++ (W_X1 ca aH heap_kinds heap_whos heap_toWhoms heap_topics heap_weights heap_answered heap_deeds heap_size heap_saidBits heap_deedCount))) ((W_X7 a aR aT aH aD aK aI aC aS aY lastTold) ++ (W_X5 ca aR rows_ns rows_nc rows_width rows_sizes rows_cells) ++ (W_X1 ca aH heap_kinds heap_whos heap_toWhoms heap_topics heap_weights heap_answered heap_deeds heap_size heap_saidBits heap_deedCount)) → va_S (adr ((W_X7 a aR aT aH aD aK aI aC aS aY lastTold) ++ (W_X5 ca aR rows_ns rows_nc rows_width rows_sizes rows_cells) ++ (W_X1 ca aH heap_kinds heap_whos heap_toWhoms heap_topics heap_weights heap_answered heap_deeds heap_size heap_saidBits heap_deedCount))) zs.heap H locs → ∀ ls : Array Slot, lv_has ls 6 [(0, .ref (a 0)), (1, .int r), (3, .int x3), (4, .int x4), (5, .int x5)] → W zp l ze rm_X7_longest zs zm ([.ref (a 0), .int r] : List Value).toArray zb zt zc H locs 0 0 (MQ zb (wrI (S := (Nat → Int32) × (Nat → Int32)) D ((W_X7 a aR aT aH aD aK aI aC aS aY lastTold) ++ (W_X5 ca aR rows_ns rows_nc rows_width rows_sizes rows_cells) ++ (W_X1 ca aH heap_kinds heap_whos heap_toWhoms heap_topics heap_weights heap_answered heap_deeds heap_size heap_saidBits heap_deedCount)) (fun u => (W_X7 a aR aT aH aD aK aI aC aS aY lastTold) ++ (W_X5 ca aR rows_ns rows_nc rows_width u.1 u.2) ++ (W_X1 ca aH heap_kinds heap_whos heap_toWhoms heap_topics heap_weights heap_answered heap_deeds heap_size heap_saidBits heap_deedCount)) (fun r u => post r u.1 u.2)) ([.ref (a 0), .int r] : List Value).toArray zs 0 0 (adr ((W_X7 a aR aT aH aD aK aI aC aS aY lastTold) ++ (W_X5 ca aR rows_ns rows_nc rows_width rows_sizes rows_cells) ++ (W_X1 ca aH heap_kinds heap_whos heap_toWhoms heap_topics heap_weights heap_answered heap_deeds heap_size heap_saidBits heap_deedCount)))) (F0 zm 73 ls []) := by
    intro zn
    induction zn with
    | zero => intro rows_sizes rows_cells x3 x4 x5 h; exact h.elim
    | succ zn ih73 =>
      intro rows_sizes rows_cells x3 x4 x5 h H locs hP hD hS ls hl
      replace h : wb_X7_longest_73 rows_nc rows_width r post (wl_X7_longest_73 rows_nc rows_width r post zn) rows_sizes rows_cells x3 x4 x5 := h
      unfold wb_X7_longest_73 at h
      refine lv_iload hx hb dX7_longest_73 (lv_at hl 4 rfl) ?_
      refine lv_iload hx hb dX7_longest_75 (lv_at hl 3 rfl) ?_
      refine lv_icmp_ge (tgt := 102) hx hb dX7_longest_77 (by decide) (fun hc => ?_) (fun hc => ?_)
      · have h := h.1 hc
        refine lv_iload hx hb dX7_longest_102 (lv_at hl 3 rfl) ?_
        exact W.iret (v := x4) hx hb hr (fun t ht hW => ⟨⟨x4, (rows_sizes, rows_cells), rfl, h, by rw [ht]; exact hP⟩, hS.F ht⟩) hS.2.2 dX7_longest_104
      · have h := h.2 hc
        refine lv_aload_n hx hb dX7_longest_80 rfl (lv_at hl 0 rfl) ?_
        refine va_get (D := D) (ci := 6) (v := .ref (aR 0)) (C := RX7) (T := TX7) (N := 10) hx hb hts hi_X7_longest_X7 hown hK.1 hP 0 rfl rfl 0 (by decide) (hts _ k_X7_longest_1) (fun _ h9 => h9) rfl dX7_longest_81 ?_
        refine lv_iload_n hx hb dX7_longest_84 rfl (lv_at hl 1 rfl) ?_
        refine lv_iload hx hb dX7_longest_85 (lv_at hl 4 rfl) ?_
        refine lv_iload_n hx hb dX7_longest_87 rfl (lv_at hl 2 rfl) ?_
        refine lv_iload hx hb dX7_longest_88 (lv_at hl 4 rfl) ?_
        refine rd_calli (va_runS (As := [.int x3, .int x5]) (rest := [.int x5, .int r, .ref (aR 0)]) ⟨hx, hb, hml, hown, hts⟩ (c_X7_numberAt l D ca   x3 x5 _ h) (va_cwS 2 hts gX7_longest_X7_numberAt rfl rfl rfl (by decide +kernel) ⟨Nat.le_of_ble_eq_true rfl, Nat.le_of_ble_eq_true rfl⟩) (PcX.preS hK (fun k q h => by simp at h)) rfl rfl hl.1 rfl (lv_room (Nat.le_of_ble_eq_true rfl)) dX7_longest_90 ⟨Nat.le_of_ble_eq_true rfl, Nat.le_of_ble_eq_true rfl⟩) (fun r8 h => ?_)
        try dsimp only at h
        refine wr_callv (ws1 := fun u => (W_X7 a aR aT aH aD aK aI aC aS aY lastTold) ++ (W_X5 ca aR rows_ns rows_nc rows_width rows_sizes u) ++ (W_X1 ca aH heap_kinds heap_whos heap_toWhoms heap_topics heap_weights heap_answered heap_deeds heap_size heap_saidBits heap_deedCount)) (wr := ([0, 4, 5, 6, 7, 8, 9, 10, 11] : List Nat).filterMap (fun i => ((W_X7 a aR aT aH aD aK aI aC aS aY lastTold) ++ (W_X5 ca aR rows_ns rows_nc rows_width rows_sizes rows_cells) ++ (W_X1 ca aH heap_kinds heap_whos heap_toWhoms heap_topics heap_weights heap_answered heap_deeds heap_size heap_saidBits heap_deedCount) : va_W)[i]?)) (n := 12) (va_runV (As := [.int r, .int x5, .int r8]) (rest := []) ⟨hx, hb, hml, hown, hts⟩ (c_X5_setCell l D ca aR rows_ns rows_nc rows_width rows_sizes rows_cells r x5 r8 _ (hD.subM [1, 2, 3] (by decide) rfl) h) (cwV 3 hts gX7_longest_X5_setCell rfl rfl rfl (by decide +kernel) ⟨Nat.le_of_ble_eq_true rfl, Nat.le_of_ble_eq_true rfl⟩) (PcX.preV (q := (RX5, TX5, 3)) (ci := 4) (q0 := 1) hK hP rfl rfl (hP.subM [1, 2, 3] rfl)) rfl rfl hl.1 rfl (lv_room (Nat.le_of_ble_eq_true rfl)) dX7_longest_93 ⟨Nat.le_of_ble_eq_true rfl, Nat.le_of_ble_eq_true rfl⟩) hP hD hS [1, 2, 3] [0, 4, 5, 6, 7, 8, 9, 10, 11] rfl (fun _ => rfl) rfl (fun _ => rfl) (fun _ => rfl) (fun _ => rfl) (by decide +kernel) (by decide +kernel) (fun u H locs h hP hD hS => ?_)
        obtain ⟨rows_cells_9, rfl⟩ : ∃ z, z = u := ⟨u, rfl⟩
        have hP : va_P D vwCl ((W_X7 a aR aT aH aD aK aI aC aS aY lastTold) ++ (W_X5 ca aR rows_ns rows_nc rows_width rows_sizes rows_cells_9) ++ (W_X1 ca aH heap_kinds heap_whos heap_toWhoms heap_topics heap_weights heap_answered heap_deeds heap_size heap_saidBits heap_deedCount)) H := hP
        have hD : va_D _ ((W_X7 a aR aT aH aD aK aI aC aS aY lastTold) ++ (W_X5 ca aR rows_ns rows_nc rows_width rows_sizes rows_cells_9) ++ (W_X1 ca aH heap_kinds heap_whos heap_toWhoms heap_topics heap_weights heap_answered heap_deeds heap_size heap_saidBits heap_deedCount)) := hD
        try dsimp only at h
        refine lv_iinc (v := x5 + 1) (lv' := [(5, .int (x5 + 1)), (0, .ref (a 0)), (1, .int r), (3, .int x3), (4, .int x4)]) hx hb dX7_longest_96 hl (k := 4) rfl rfl (by decide) rfl (fun ls hl => ?_)
        refine lv_goto (tgt := 73) hx hb dX7_longest_99 (by decide) ?_
        exact ih73 rows_sizes rows_cells_9 x3 x4 (x5 + 1) h _ _ hP hD hS ls (lv_sub hl [1, 2, 3, 4, 0] rfl)
  unfold wp_X7_longest at h
  refine lv_aload_n hx hb dX7_longest_0 rfl (lv_at hl 0 rfl) ?_
  refine va_get (D := D) (ci := 6) (v := .ref (aR 0)) (C := RX7) (T := TX7) (N := 10) hx hb hts hi_X7_longest_X7 hown hK.1 hP 0 rfl rfl 0 (by decide) (hts _ k_X7_longest_1) (fun _ h9 => h9) rfl dX7_longest_1 ?_
  refine lv_iload_n hx hb dX7_longest_4 rfl (lv_at hl 1 rfl) ?_
  refine rd_callz (va_runV (As := [.int r]) (rest := []) ⟨hx, hb, hml, hown, hts⟩ (c_X5_hasNumber l D ca aR rows_ns rows_nc rows_width rows_sizes rows_cells r _ h) (cwV 1 hts gX7_longest_X5_hasNumber rfl rfl rfl (by decide +kernel) ⟨Nat.le_of_ble_eq_true rfl, Nat.le_of_ble_eq_true rfl⟩) (PcX.preV (q := (RX5, TX5, 3)) (ci := 4) (q0 := 1) hK hP rfl rfl (hP.subM [1, 2, 3] rfl)) rfl rfl hl.1 rfl (lv_room (Nat.le_of_ble_eq_true rfl)) dX7_longest_5 ⟨Nat.le_of_ble_eq_true rfl, Nat.le_of_ble_eq_true rfl⟩) (fun r1 h hz_r1 => ?_)
  try dsimp only at h
  refine lv_if_ne (tgt := 13) hx hb dX7_longest_8 (by decide) (fun hc => ?_) (fun hc => ?_)
  · have h := h.1 hc
    refine lv_aload_n hx hb dX7_longest_13 rfl (lv_at hl 0 rfl) ?_
    refine va_get (D := D) (ci := 6) (v := .ref (aH 0)) (C := RX7) (T := TX7) (N := 10) hx hb hts hi_X7_longest_X7 hown hK.1 hP 0 rfl rfl 2 (by decide) (hts _ k_X7_longest_2) (fun _ h9 => h9) rfl dX7_longest_14 ?_
    refine rd_calli (va_runV (As := []) (rest := []) ⟨hx, hb, hml, hown, hts⟩ (c_X1_deepest l D ca aH heap_kinds heap_whos heap_toWhoms heap_topics heap_weights heap_answered heap_deeds heap_size heap_saidBits heap_deedCount  _ h) (cwV 0 hts gX7_longest_X1_deepest rfl rfl rfl (by decide +kernel) ⟨Nat.le_of_ble_eq_true rfl, Nat.le_of_ble_eq_true rfl⟩) (PcX.preV (q := (RX1, TX1, 10)) (ci := 1) (q0 := 4) hK hP rfl rfl (hP.subM [4, 5, 6, 7, 8, 9, 10, 11] rfl)) rfl rfl hl.1 rfl (lv_room (Nat.le_of_ble_eq_true rfl)) dX7_longest_17 ⟨Nat.le_of_ble_eq_true rfl, Nat.le_of_ble_eq_true rfl⟩) (fun r2 h => ?_)
    try dsimp only at h
    refine lv_istore_n (lv' := [(2, .int r2), (0, .ref (a 0)), (1, .int r)]) hx hb dX7_longest_20 rfl hl (by decide) rfl (fun ls hl => ?_)
    refine lv_iload_n hx hb dX7_longest_21 rfl (lv_at hl 0 rfl) ?_
    refine lv_bipush (v := (-9)) hx hb dX7_longest_22 (by decide) ?_
    refine lv_icmp_ne (tgt := 39) hx hb dX7_longest_24 (by decide) (fun hc => ?_) (fun hc => ?_)
    · have h := h.1 hc
      refine lv_aload_n hx hb dX7_longest_39 rfl (lv_at hl 1 rfl) ?_
      refine va_get (D := D) (ci := 6) (v := .ref (aH 0)) (C := RX7) (T := TX7) (N := 10) hx hb hts hi_X7_longest_X7 hown hK.1 hP 0 rfl rfl 2 (by decide) (hts _ k_X7_longest_2) (fun _ h9 => h9) rfl dX7_longest_40 ?_
      refine lv_iload_n hx hb dX7_longest_43 rfl (lv_at hl 0 rfl) ?_
      refine rd_calli (va_runV (As := [.int r2]) (rest := []) ⟨hx, hb, hml, hown, hts⟩ (c_X1_leanedOn l D ca aH heap_kinds heap_whos heap_toWhoms heap_topics heap_weights heap_answered heap_deeds heap_size heap_saidBits heap_deedCount r2 _ h) (cwV 1 hts gX7_longest_X1_leanedOn rfl rfl rfl (by decide +kernel) ⟨Nat.le_of_ble_eq_true rfl, Nat.le_of_ble_eq_true rfl⟩) (PcX.preV (q := (RX1, TX1, 10)) (ci := 1) (q0 := 4) hK hP rfl rfl (hP.subM [4, 5, 6, 7, 8, 9, 10, 11] rfl)) rfl rfl hl.1 rfl (lv_room (Nat.le_of_ble_eq_true rfl)) dX7_longest_44 ⟨Nat.le_of_ble_eq_true rfl, Nat.le_of_ble_eq_true rfl⟩) (fun r3 h => ?_)
      try dsimp only at h
      refine lv_iload_n hx hb dX7_longest_47 rfl (lv_at hl 0 rfl) ?_
      refine rd_calli (va_runS (As := [.int r2]) (rest := [.int r3]) ⟨hx, hb, hml, hown, hts⟩ (c_X7_bit l D ca   r2 _ h) (va_cwS 1 hts gX7_longest_X7_bit rfl rfl rfl (by decide +kernel) ⟨Nat.le_of_ble_eq_true rfl, Nat.le_of_ble_eq_true rfl⟩) (PcX.preS hK (fun k q h => by simp at h)) rfl rfl hl.1 rfl (lv_room (Nat.le_of_ble_eq_true rfl)) dX7_longest_48 ⟨Nat.le_of_ble_eq_true rfl, Nat.le_of_ble_eq_true rfl⟩) (fun r4 h => ?_)
      try dsimp only at h
      refine lv_ior hx hb dX7_longest_51 ?_
      refine lv_istore_n (lv' := [(3, .int (r3 ||| r4)), (2, .int r2), (0, .ref (a 0)), (1, .int r)]) hx hb dX7_longest_52 rfl hl (by decide) rfl (fun ls hl => ?_)
      refine lv_iload_n hx hb dX7_longest_53 rfl (lv_at hl 0 rfl) ?_
      refine rd_calli (va_runS (As := [.int (r3 ||| r4)]) (rest := []) ⟨hx, hb, hml, hown, hts⟩ (c_J6_bitCount_0f7a4 l D ca   (r3 ||| r4) _ h) (va_cwS 1 hts gX7_longest_J6_bitCount_0f7a4 rfl rfl rfl (by decide +kernel) ⟨Nat.le_of_ble_eq_true rfl, Nat.le_of_ble_eq_true rfl⟩) (PcX.preS hK (fun k q h => by simp at h)) rfl rfl hl.1 rfl (lv_room (Nat.le_of_ble_eq_true rfl)) dX7_longest_54 ⟨Nat.le_of_ble_eq_true rfl, Nat.le_of_ble_eq_true rfl⟩) (fun r5 h => ?_)
      try dsimp only at h
      refine lv_istore (lv' := [(4, .int r5), (3, .int (r3 ||| r4)), (2, .int r2), (0, .ref (a 0)), (1, .int r)]) hx hb dX7_longest_57 hl (by decide) rfl (fun ls hl => ?_)
      refine lv_aload_n hx hb dX7_longest_59 rfl (lv_at hl 3 rfl) ?_
      refine va_get (D := D) (ci := 6) (v := .ref (aR 0)) (C := RX7) (T := TX7) (N := 10) hx hb hts hi_X7_longest_X7 hown hK.1 hP 0 rfl rfl 0 (by decide) (hts _ k_X7_longest_1) (fun _ h9 => h9) rfl dX7_longest_60 ?_
      refine lv_iload_n hx hb dX7_longest_63 rfl (lv_at hl 4 rfl) ?_
      refine lv_iload hx hb dX7_longest_64 (lv_at hl 0 rfl) ?_
      refine lv_iconst (v := (0)) hx hb dX7_longest_66 (by decide) ?_
      refine wr_callv (ws1 := fun u => (W_X7 a aR aT aH aD aK aI aC aS aY lastTold) ++ (W_X5 ca aR rows_ns rows_nc rows_width u.1 u.2) ++ (W_X1 ca aH heap_kinds heap_whos heap_toWhoms heap_topics heap_weights heap_answered heap_deeds heap_size heap_saidBits heap_deedCount)) (wr := ([0, 4, 5, 6, 7, 8, 9, 10, 11] : List Nat).filterMap (fun i => ((W_X7 a aR aT aH aD aK aI aC aS aY lastTold) ++ (W_X5 ca aR rows_ns rows_nc rows_width rows_sizes rows_cells) ++ (W_X1 ca aH heap_kinds heap_whos heap_toWhoms heap_topics heap_weights heap_answered heap_deeds heap_size heap_saidBits heap_deedCount) : va_W)[i]?)) (n := 12) (va_runV (As := [.int r, .int r5, .int (0 : Int32)]) (rest := []) ⟨hx, hb, hml, hown, hts⟩ (c_X5_makeAnew l D ca aR rows_ns rows_nc rows_width rows_sizes rows_cells r r5 (0 : Int32) _ (hD.subM [1, 2, 3] (by decide) rfl) h) (cwV 3 hts gX7_longest_X5_makeAnew rfl rfl rfl (by decide +kernel) ⟨Nat.le_of_ble_eq_true rfl, Nat.le_of_ble_eq_true rfl⟩) (PcX.preV (q := (RX5, TX5, 3)) (ci := 4) (q0 := 1) hK hP rfl rfl (hP.subM [1, 2, 3] rfl)) rfl rfl hl.1 rfl (lv_room (Nat.le_of_ble_eq_true rfl)) dX7_longest_67 ⟨Nat.le_of_ble_eq_true rfl, Nat.le_of_ble_eq_true rfl⟩) hP hD hS [1, 2, 3] [0, 4, 5, 6, 7, 8, 9, 10, 11] rfl (fun _ => rfl) rfl (fun _ => rfl) (fun _ => rfl) (fun _ => rfl) (by decide +kernel) (by decide +kernel) (fun u H locs h hP hD hS => ?_)
      obtain ⟨rows_sizes_6, rows_cells_7⟩ := u
      have hP : va_P D vwCl ((W_X7 a aR aT aH aD aK aI aC aS aY lastTold) ++ (W_X5 ca aR rows_ns rows_nc rows_width rows_sizes_6 rows_cells_7) ++ (W_X1 ca aH heap_kinds heap_whos heap_toWhoms heap_topics heap_weights heap_answered heap_deeds heap_size heap_saidBits heap_deedCount)) H := hP
      have hD : va_D _ ((W_X7 a aR aT aH aD aK aI aC aS aY lastTold) ++ (W_X5 ca aR rows_ns rows_nc rows_width rows_sizes_6 rows_cells_7) ++ (W_X1 ca aH heap_kinds heap_whos heap_toWhoms heap_topics heap_weights heap_answered heap_deeds heap_size heap_saidBits heap_deedCount)) := hD
      try dsimp only at h
      refine lv_iconst (v := (0)) hx hb dX7_longest_70 (by decide) ?_
      refine lv_istore (lv' := [(5, .int (0 : Int32)), (4, .int r5), (3, .int (r3 ||| r4)), (2, .int r2), (0, .ref (a 0)), (1, .int r)]) hx hb dX7_longest_71 hl (by decide) rfl (fun ls hl => ?_)
      obtain ⟨zn, h⟩ := h
      exact w_73  zn rows_sizes_6 rows_cells_7 (r3 ||| r4) r5 (0 : Int32) h _ _ hP hD hS ls (lv_sub hl [4, 5, 2, 1, 0] rfl)
    · have h := h.2 hc
      refine lv_aload_n hx hb dX7_longest_27 rfl (lv_at hl 1 rfl) ?_
      refine va_get (D := D) (ci := 6) (v := .ref (aR 0)) (C := RX7) (T := TX7) (N := 10) hx hb hts hi_X7_longest_X7 hown hK.1 hP 0 rfl rfl 0 (by decide) (hts _ k_X7_longest_1) (fun _ h9 => h9) rfl dX7_longest_28 ?_
      refine lv_iload_n hx hb dX7_longest_31 rfl (lv_at hl 2 rfl) ?_
      refine lv_iconst (v := (0)) hx hb dX7_longest_32 (by decide) ?_
      refine lv_iconst (v := (0)) hx hb dX7_longest_33 (by decide) ?_
      refine wr_callv (ws1 := fun u => (W_X7 a aR aT aH aD aK aI aC aS aY lastTold) ++ (W_X5 ca aR rows_ns rows_nc rows_width u.1 u.2) ++ (W_X1 ca aH heap_kinds heap_whos heap_toWhoms heap_topics heap_weights heap_answered heap_deeds heap_size heap_saidBits heap_deedCount)) (wr := ([0, 4, 5, 6, 7, 8, 9, 10, 11] : List Nat).filterMap (fun i => ((W_X7 a aR aT aH aD aK aI aC aS aY lastTold) ++ (W_X5 ca aR rows_ns rows_nc rows_width rows_sizes rows_cells) ++ (W_X1 ca aH heap_kinds heap_whos heap_toWhoms heap_topics heap_weights heap_answered heap_deeds heap_size heap_saidBits heap_deedCount) : va_W)[i]?)) (n := 12) (va_runV (As := [.int r, .int (0 : Int32), .int (0 : Int32)]) (rest := []) ⟨hx, hb, hml, hown, hts⟩ (c_X5_makeAnew l D ca aR rows_ns rows_nc rows_width rows_sizes rows_cells r (0 : Int32) (0 : Int32) _ (hD.subM [1, 2, 3] (by decide) rfl) h) (cwV 3 hts gX7_longest_X5_makeAnew rfl rfl rfl (by decide +kernel) ⟨Nat.le_of_ble_eq_true rfl, Nat.le_of_ble_eq_true rfl⟩) (PcX.preV (q := (RX5, TX5, 3)) (ci := 4) (q0 := 1) hK hP rfl rfl (hP.subM [1, 2, 3] rfl)) rfl rfl hl.1 rfl (lv_room (Nat.le_of_ble_eq_true rfl)) dX7_longest_34 ⟨Nat.le_of_ble_eq_true rfl, Nat.le_of_ble_eq_true rfl⟩) hP hD hS [1, 2, 3] [0, 4, 5, 6, 7, 8, 9, 10, 11] rfl (fun _ => rfl) rfl (fun _ => rfl) (fun _ => rfl) (fun _ => rfl) (by decide +kernel) (by decide +kernel) (fun u H locs h hP hD hS => ?_)
      obtain ⟨rows_sizes_10, rows_cells_11⟩ := u
      have hP : va_P D vwCl ((W_X7 a aR aT aH aD aK aI aC aS aY lastTold) ++ (W_X5 ca aR rows_ns rows_nc rows_width rows_sizes_10 rows_cells_11) ++ (W_X1 ca aH heap_kinds heap_whos heap_toWhoms heap_topics heap_weights heap_answered heap_deeds heap_size heap_saidBits heap_deedCount)) H := hP
      have hD : va_D _ ((W_X7 a aR aT aH aD aK aI aC aS aY lastTold) ++ (W_X5 ca aR rows_ns rows_nc rows_width rows_sizes_10 rows_cells_11) ++ (W_X1 ca aH heap_kinds heap_whos heap_toWhoms heap_topics heap_weights heap_answered heap_deeds heap_size heap_saidBits heap_deedCount)) := hD
      try dsimp only at h
      refine lv_iconst (v := (0)) hx hb dX7_longest_37 (by decide) ?_
      exact W.iret (v := (0 : Int32)) hx hb hr (fun t ht hW => ⟨⟨(0 : Int32), (rows_sizes_10, rows_cells_11), rfl, h, by rw [ht]; exact hP⟩, hS.F ht⟩) hS.2.2 dX7_longest_38
  · have h := h.2 hc
    refine lv_iconst (v := (-1)) hx hb dX7_longest_11 (by decide) ?_
    exact W.iret (v := (-1 : Int32)) hx hb hr (fun t ht hW => ⟨⟨(-1 : Int32), (rows_sizes, rows_cells), rfl, h, by rw [ht]; exact hP⟩, hS.F ht⟩) hS.2.2 dX7_longest_12

-- IronedQuarrels.cheapest(I)I
def wp_X7_cheapest (rows_ns : Nat) (rows_nc : Nat) (rows_width : Int32) (rows_sizes : Nat → Int32) (rows_cells : Nat → Int32) (heap_kinds : Nat → Int32) (heap_whos : Nat → Int32) (heap_toWhoms : Nat → Int32) (heap_topics : Nat → Int32) (heap_weights : Nat → Int32) (heap_answered : Nat → Int32) (heap_size : Int32) (heap_saidBits : Int32) (ironing_least : Nat → Int32) (ironing_others : Nat → Int32) (ironing_holders : Nat → Int32) (r : Int32) (post : Int32 → (Nat → Int32) → (Nat → Int32) → (Nat → Int32) → (Nat → Int32) → (Nat → Int32) → Prop) : Prop :=
  wp_X5_hasNumber rows_ns r (fun r1 => (¬ r1 = 0 → (wp_X2_weigh ironing_least ironing_others ironing_holders heap_kinds heap_whos heap_toWhoms heap_topics heap_weights heap_answered heap_size heap_saidBits (fun r2 ironing_least_3 ironing_others_4 ironing_holders_5 => wp_X2_writeCheapest ironing_least_3 ironing_others_4 ironing_holders_5 heap_kinds heap_topics heap_weights heap_size heap_saidBits rows_ns rows_nc rows_width rows_sizes rows_cells r (fun rows_sizes_6 rows_cells_7 => post r2 rows_sizes_6 rows_cells_7 ironing_least_3 ironing_others_4 ironing_holders_5)))) ∧ (r1 = 0 → (post (-1 : Int32) rows_sizes rows_cells ironing_least ironing_others ironing_holders)))
def rm_X7_cheapest : Room := { frames := 4, cells := 0, slots := 0, locals := 96 }
theorem k_X7_cheapest_1 : Cond.fieldLink RX7 14 "IronedQuarrels" "rows" "LIronedQuarrels$Shelf;" ∈ wsX7_cheapest := List.mem_of_getElem? (i := 1) (by decide +kernel)
theorem k_X7_cheapest_2 : Cond.fieldLink RX7 38 "IronedQuarrels" "ironing" "LIronedQuarrels$Ironing;" ∈ wsX7_cheapest := List.mem_of_getElem? (i := 2) (by decide +kernel)
theorem k_X7_cheapest_3 : Cond.fieldLink RX7 24 "IronedQuarrels" "heap" "LIronedQuarrels$Heap;" ∈ wsX7_cheapest := List.mem_of_getElem? (i := 3) (by decide +kernel)
theorem hi_X7_cheapest_X1 : ∀ w ∈ wsX10, w ∈ wsX7_cheapest := fun w h => List.mem_cons_of_mem _ (List.mem_append_right _ h)
theorem hi_X7_cheapest_X2 : ∀ w ∈ wsX20, w ∈ wsX7_cheapest := fun w h => List.mem_cons_of_mem _ (List.mem_append_left _ (List.mem_append_right _ h))
theorem hi_X7_cheapest_X5 : ∀ w ∈ wsX50, w ∈ wsX7_cheapest := fun w h => List.mem_cons_of_mem _ (List.mem_append_left _ (List.mem_append_left _ (List.mem_append_right _ h)))
theorem hi_X7_cheapest_X7 : ∀ w ∈ wsX70, w ∈ wsX7_cheapest := fun w h => List.mem_cons_of_mem _ (List.mem_append_left _ (List.mem_append_left _ (List.mem_append_left _ (List.mem_append_right _ h))))
set_option maxHeartbeats 4000000 in
set_option maxRecDepth 100000 in
theorem c_X7_cheapest (l : Launch) (D : va_G) (ca : Nat → ClassId) (a : Nat → Nat) (aR : Nat → Nat) (aT : Nat → Nat) (aH : Nat → Nat) (aD : Nat → Nat) (aK : Nat) (aI : Nat → Nat) (aC : Nat → Nat) (aS : Nat → Nat) (aY : Nat → Nat) (lastTold : Int32) (rows_ns : Nat) (rows_nc : Nat) (rows_width : Int32) (rows_sizes : Nat → Int32) (rows_cells : Nat → Int32) (heap_kinds : Nat → Int32) (heap_whos : Nat → Int32) (heap_toWhoms : Nat → Int32) (heap_topics : Nat → Int32) (heap_weights : Nat → Int32) (heap_answered : Nat → Int32) (heap_deeds : Nat → Int32) (heap_size : Int32) (heap_saidBits : Int32) (heap_deedCount : Int32) (ironing_least : Nat → Int32) (ironing_others : Nat → Int32) (ironing_holders : Nat → Int32) (r : Int32) (post : Int32 → (Nat → Int32) → (Nat → Int32) → (Nat → Int32) → (Nat → Int32) → (Nat → Int32) → Prop) (hd : va_D (fun _ => True) ((W_X7 a aR aT aH aD aK aI aC aS aY lastTold) ++ (W_X5 ca aR rows_ns rows_nc rows_width rows_sizes rows_cells) ++ (W_X1 ca aH heap_kinds heap_whos heap_toWhoms heap_topics heap_weights heap_answered heap_deeds heap_size heap_saidBits heap_deedCount) ++ (W_X2 ca aI ironing_least ironing_others ironing_holders))) (h : wp_X7_cheapest rows_ns rows_nc rows_width rows_sizes rows_cells heap_kinds heap_whos heap_toWhoms heap_topics heap_weights heap_answered heap_size heap_saidBits ironing_least ironing_others ironing_holders r post) : Met l yX7_cheapest wsX7_cheapest rm_X7_cheapest (PcX D ca [.ref (a 0), .int r] ((W_X7 a aR aT aH aD aK aI aC aS aY lastTold) ++ (W_X5 ca aR rows_ns rows_nc rows_width rows_sizes rows_cells) ++ (W_X1 ca aH heap_kinds heap_whos heap_toWhoms heap_topics heap_weights heap_answered heap_deeds heap_size heap_saidBits heap_deedCount) ++ (W_X2 ca aI ironing_least ironing_others ironing_holders))) (wrI (S := (Nat → Int32) × (Nat → Int32) × (Nat → Int32) × (Nat → Int32) × (Nat → Int32)) D ((W_X7 a aR aT aH aD aK aI aC aS aY lastTold) ++ (W_X5 ca aR rows_ns rows_nc rows_width rows_sizes rows_cells) ++ (W_X1 ca aH heap_kinds heap_whos heap_toWhoms heap_topics heap_weights heap_answered heap_deeds heap_size heap_saidBits heap_deedCount) ++ (W_X2 ca aI ironing_least ironing_others ironing_holders)) (fun u => (W_X7 a aR aT aH aD aK aI aC aS aY lastTold) ++ (W_X5 ca aR rows_ns rows_nc rows_width u.1 u.2.1) ++ (W_X1 ca aH heap_kinds heap_whos heap_toWhoms heap_topics heap_weights heap_answered heap_deeds heap_size heap_saidBits heap_deedCount) ++ (W_X2 ca aI u.2.2.1 u.2.2.2.1 u.2.2.2.2)) (fun r u => post r u.1 u.2.1 u.2.2.1 u.2.2.2.1 u.2.2.2.2)) 0 0 (adr ((W_X7 a aR aT aH aD aK aI aC aS aY lastTold) ++ (W_X5 ca aR rows_ns rows_nc rows_width rows_sizes rows_cells) ++ (W_X1 ca aH heap_kinds heap_whos heap_toWhoms heap_topics heap_weights heap_answered heap_deeds heap_size heap_saidBits heap_deedCount) ++ (W_X2 ca aI ironing_least ironing_others ironing_holders))) := by
  refine Met.ofW (cc := cX7_cheapest) (maxL := 3) (ret := (some .int)) (by decide) rfl ?_
  intro zp ze zs zm za zb zt zc z1 B hml hv
  obtain ⟨rfl, hP, hK⟩ := hv
  have hx := B.exec
  have hb := B.bytes
  have hr := B.returns
  have hts := atoms_spec (ws := wsX7_cheapest) B.pre
  have hown : zs.vm.findClass RX7 = some zm.cls := findClass_of_methodNamed B.named
  have hlocks := B.notSynchronized
  have hD : va_D (adr ((W_X7 a aR aT aH aD aK aI aC aS aY lastTold) ++ (W_X5 ca aR rows_ns rows_nc rows_width rows_sizes rows_cells) ++ (W_X1 ca aH heap_kinds heap_whos heap_toWhoms heap_topics heap_weights heap_answered heap_deeds heap_size heap_saidBits heap_deedCount) ++ (W_X2 ca aI ironing_least ironing_others ironing_holders))) ((W_X7 a aR aT aH aD aK aI aC aS aY lastTold) ++ (W_X5 ca aR rows_ns rows_nc rows_width rows_sizes rows_cells) ++ (W_X1 ca aH heap_kinds heap_whos heap_toWhoms heap_topics heap_weights heap_answered heap_deeds heap_size heap_saidBits heap_deedCount) ++ (W_X2 ca aI ironing_least ironing_others ironing_holders)) := hd.adr
  have hS : va_S (adr ((W_X7 a aR aT aH aD aK aI aC aS aY lastTold) ++ (W_X5 ca aR rows_ns rows_nc rows_width rows_sizes rows_cells) ++ (W_X1 ca aH heap_kinds heap_whos heap_toWhoms heap_topics heap_weights heap_answered heap_deeds heap_size heap_saidBits heap_deedCount) ++ (W_X2 ca aI ironing_least ironing_others ironing_holders))) zs.heap zs.heap [] := va_S.rf
  have hl := lv_entry ([.ref (a 0), .int r]) (n := 3) (Nat.le_of_ble_eq_true rfl)
  rw [lg_entry_eq]
  generalize (lg_sl ([.ref (a 0), .int r]) ++ List.replicate (3 - (lg_sl ([.ref (a 0), .int r])).length) Slot.unset).toArray = ls at hl ⊢
  replace hl : lv_has ls 3 [(0, .ref (a 0)), (1, .int r)] := hl
  show W zp l ze rm_X7_cheapest zs zm ([.ref (a 0), .int r] : List Value).toArray zb zt zc zs.heap [] 0 0 (MQ zb (wrI (S := (Nat → Int32) × (Nat → Int32) × (Nat → Int32) × (Nat → Int32) × (Nat → Int32)) D ((W_X7 a aR aT aH aD aK aI aC aS aY lastTold) ++ (W_X5 ca aR rows_ns rows_nc rows_width rows_sizes rows_cells) ++ (W_X1 ca aH heap_kinds heap_whos heap_toWhoms heap_topics heap_weights heap_answered heap_deeds heap_size heap_saidBits heap_deedCount) ++ (W_X2 ca aI ironing_least ironing_others ironing_holders)) (fun u => (W_X7 a aR aT aH aD aK aI aC aS aY lastTold) ++ (W_X5 ca aR rows_ns rows_nc rows_width u.1 u.2.1) ++ (W_X1 ca aH heap_kinds heap_whos heap_toWhoms heap_topics heap_weights heap_answered heap_deeds heap_size heap_saidBits heap_deedCount) ++ (W_X2 ca aI u.2.2.1 u.2.2.2.1 u.2.2.2.2)) (fun r u => post r u.1 u.2.1 u.2.2.1 u.2.2.2.1 u.2.2.2.2)) ([.ref (a 0), .int r] : List Value).toArray zs 0 0 (adr ((W_X7 a aR aT aH aD aK aI aC aS aY lastTold) ++ (W_X5 ca aR rows_ns rows_nc rows_width rows_sizes rows_cells) ++ (W_X1 ca aH heap_kinds heap_whos heap_toWhoms heap_topics heap_weights heap_answered heap_deeds heap_size heap_saidBits heap_deedCount) ++ (W_X2 ca aI ironing_least ironing_others ironing_holders)))) (F0 zm 0 ls [])
  unfold wp_X7_cheapest at h
  refine lv_aload_n hx hb dX7_cheapest_0 rfl (lv_at hl 0 rfl) ?_
  refine va_get (D := D) (ci := 6) (v := .ref (aR 0)) (C := RX7) (T := TX7) (N := 10) hx hb hts hi_X7_cheapest_X7 hown hK.1 hP 0 rfl rfl 0 (by decide) (hts _ k_X7_cheapest_1) (fun _ h9 => h9) rfl dX7_cheapest_1 ?_
  refine lv_iload_n hx hb dX7_cheapest_4 rfl (lv_at hl 1 rfl) ?_
  refine rd_callz (va_runV (As := [.int r]) (rest := []) ⟨hx, hb, hml, hown, hts⟩ (c_X5_hasNumber l D ca aR rows_ns rows_nc rows_width rows_sizes rows_cells r _ h) (cwV 1 hts gX7_cheapest_X5_hasNumber rfl rfl rfl (by decide +kernel) ⟨Nat.le_of_ble_eq_true rfl, Nat.le_of_ble_eq_true rfl⟩) (PcX.preV (q := (RX5, TX5, 3)) (ci := 4) (q0 := 1) hK hP rfl rfl (hP.subM [1, 2, 3] rfl)) rfl rfl hl.1 rfl (lv_room (Nat.le_of_ble_eq_true rfl)) dX7_cheapest_5 ⟨Nat.le_of_ble_eq_true rfl, Nat.le_of_ble_eq_true rfl⟩) (fun r1 h hz_r1 => ?_)
  try dsimp only at h
  refine lv_if_ne (tgt := 13) hx hb dX7_cheapest_8 (by decide) (fun hc => ?_) (fun hc => ?_)
  · have h := h.1 hc
    refine lv_aload_n hx hb dX7_cheapest_13 rfl (lv_at hl 0 rfl) ?_
    refine va_get (D := D) (ci := 6) (v := .ref (aI 0)) (C := RX7) (T := TX7) (N := 10) hx hb hts hi_X7_cheapest_X7 hown hK.1 hP 0 rfl rfl 5 (by decide) (hts _ k_X7_cheapest_2) (fun _ h9 => h9) rfl dX7_cheapest_14 ?_
    refine lv_aload_n hx hb dX7_cheapest_17 rfl (lv_at hl 0 rfl) ?_
    refine va_get (D := D) (ci := 6) (v := .ref (aH 0)) (C := RX7) (T := TX7) (N := 10) hx hb hts hi_X7_cheapest_X7 hown hK.1 hP 0 rfl rfl 2 (by decide) (hts _ k_X7_cheapest_3) (fun _ h9 => h9) rfl dX7_cheapest_18 ?_
    refine wr_calli (ws1 := fun u => (W_X7 a aR aT aH aD aK aI aC aS aY lastTold) ++ (W_X5 ca aR rows_ns rows_nc rows_width rows_sizes rows_cells) ++ (W_X1 ca aH heap_kinds heap_whos heap_toWhoms heap_topics heap_weights heap_answered heap_deeds heap_size heap_saidBits heap_deedCount) ++ (W_X2 ca aI u.1 u.2.1 u.2.2)) (wr := ([0, 1, 2, 3] : List Nat).filterMap (fun i => ((W_X7 a aR aT aH aD aK aI aC aS aY lastTold) ++ (W_X5 ca aR rows_ns rows_nc rows_width rows_sizes rows_cells) ++ (W_X1 ca aH heap_kinds heap_whos heap_toWhoms heap_topics heap_weights heap_answered heap_deeds heap_size heap_saidBits heap_deedCount) ++ (W_X2 ca aI ironing_least ironing_others ironing_holders) : va_W)[i]?)) (n := 16) (va_runV (As := [.ref (aH 0)]) (rest := []) ⟨hx, hb, hml, hown, hts⟩ (c_X2_weigh l D ca aI aH ironing_least ironing_others ironing_holders heap_kinds heap_whos heap_toWhoms heap_topics heap_weights heap_answered heap_deeds heap_size heap_saidBits heap_deedCount  _ (hD.subM [12, 13, 14, 15, 4, 5, 6, 7, 8, 9, 10, 11] (by decide) rfl) h) (cwV 1 hts gX7_cheapest_X2_weigh rfl rfl rfl (by decide +kernel) ⟨Nat.le_of_ble_eq_true rfl, Nat.le_of_ble_eq_true rfl⟩) (PcX.preV (q := (RX2, TX2, 3)) (ci := 2) (q0 := 12) hK hP rfl rfl (hP.subM [12, 13, 14, 15, 4, 5, 6, 7, 8, 9, 10, 11] rfl)) rfl rfl hl.1 rfl (lv_room (Nat.le_of_ble_eq_true rfl)) dX7_cheapest_21 ⟨Nat.le_of_ble_eq_true rfl, Nat.le_of_ble_eq_true rfl⟩) hP hD hS [12, 13, 14, 15, 4, 5, 6, 7, 8, 9, 10, 11] [0, 1, 2, 3] rfl (fun _ => rfl) rfl (fun _ => rfl) (fun _ => rfl) (fun _ => rfl) (by decide +kernel) (by decide +kernel) (fun r2 u H locs h hP hD hS => ?_)
    obtain ⟨ironing_least_3, ironing_others_4, ironing_holders_5⟩ := u
    have hP : va_P D vwCl ((W_X7 a aR aT aH aD aK aI aC aS aY lastTold) ++ (W_X5 ca aR rows_ns rows_nc rows_width rows_sizes rows_cells) ++ (W_X1 ca aH heap_kinds heap_whos heap_toWhoms heap_topics heap_weights heap_answered heap_deeds heap_size heap_saidBits heap_deedCount) ++ (W_X2 ca aI ironing_least_3 ironing_others_4 ironing_holders_5)) H := hP
    have hD : va_D _ ((W_X7 a aR aT aH aD aK aI aC aS aY lastTold) ++ (W_X5 ca aR rows_ns rows_nc rows_width rows_sizes rows_cells) ++ (W_X1 ca aH heap_kinds heap_whos heap_toWhoms heap_topics heap_weights heap_answered heap_deeds heap_size heap_saidBits heap_deedCount) ++ (W_X2 ca aI ironing_least_3 ironing_others_4 ironing_holders_5)) := hD
    try dsimp only at h
    refine lv_istore_n (lv' := [(2, .int r2), (0, .ref (a 0)), (1, .int r)]) hx hb dX7_cheapest_24 rfl hl (by decide) rfl (fun ls hl => ?_)
    refine lv_aload_n hx hb dX7_cheapest_25 rfl (lv_at hl 1 rfl) ?_
    refine va_get (D := D) (ci := 6) (v := .ref (aI 0)) (C := RX7) (T := TX7) (N := 10) hx hb hts hi_X7_cheapest_X7 hown hK.1 hP 0 rfl rfl 5 (by decide) (hts _ k_X7_cheapest_2) (fun _ h9 => h9) rfl dX7_cheapest_26 ?_
    refine lv_aload_n hx hb dX7_cheapest_29 rfl (lv_at hl 1 rfl) ?_
    refine va_get (D := D) (ci := 6) (v := .ref (aH 0)) (C := RX7) (T := TX7) (N := 10) hx hb hts hi_X7_cheapest_X7 hown hK.1 hP 0 rfl rfl 2 (by decide) (hts _ k_X7_cheapest_3) (fun _ h9 => h9) rfl dX7_cheapest_30 ?_
    refine lv_aload_n hx hb dX7_cheapest_33 rfl (lv_at hl 1 rfl) ?_
    refine va_get (D := D) (ci := 6) (v := .ref (aR 0)) (C := RX7) (T := TX7) (N := 10) hx hb hts hi_X7_cheapest_X7 hown hK.1 hP 0 rfl rfl 0 (by decide) (hts _ k_X7_cheapest_1) (fun _ h9 => h9) rfl dX7_cheapest_34 ?_
    refine lv_iload_n hx hb dX7_cheapest_37 rfl (lv_at hl 2 rfl) ?_
    refine wr_callv (ws1 := fun u => (W_X7 a aR aT aH aD aK aI aC aS aY lastTold) ++ (W_X5 ca aR rows_ns rows_nc rows_width u.1 u.2) ++ (W_X1 ca aH heap_kinds heap_whos heap_toWhoms heap_topics heap_weights heap_answered heap_deeds heap_size heap_saidBits heap_deedCount) ++ (W_X2 ca aI ironing_least_3 ironing_others_4 ironing_holders_5)) (wr := ([0] : List Nat).filterMap (fun i => ((W_X7 a aR aT aH aD aK aI aC aS aY lastTold) ++ (W_X5 ca aR rows_ns rows_nc rows_width rows_sizes rows_cells) ++ (W_X1 ca aH heap_kinds heap_whos heap_toWhoms heap_topics heap_weights heap_answered heap_deeds heap_size heap_saidBits heap_deedCount) ++ (W_X2 ca aI ironing_least_3 ironing_others_4 ironing_holders_5) : va_W)[i]?)) (n := 16) (va_runV (As := [.ref (aH 0), .ref (aR 0), .int r]) (rest := []) ⟨hx, hb, hml, hown, hts⟩ (c_X2_writeCheapest l D ca aI aH aR ironing_least_3 ironing_others_4 ironing_holders_5 heap_kinds heap_whos heap_toWhoms heap_topics heap_weights heap_answered heap_deeds heap_size heap_saidBits heap_deedCount rows_ns rows_nc rows_width rows_sizes rows_cells r _ (hD.subM [12, 13, 14, 15, 4, 5, 6, 7, 8, 9, 10, 11, 1, 2, 3] (by decide) rfl) h) (cwV 3 hts gX7_cheapest_X2_writeCheapest rfl rfl rfl (by decide +kernel) ⟨Nat.le_of_ble_eq_true rfl, Nat.le_of_ble_eq_true rfl⟩) (PcX.preV (q := (RX2, TX2, 3)) (ci := 2) (q0 := 12) hK hP rfl rfl (hP.subM [12, 13, 14, 15, 4, 5, 6, 7, 8, 9, 10, 11, 1, 2, 3] rfl)) rfl rfl hl.1 rfl (lv_room (Nat.le_of_ble_eq_true rfl)) dX7_cheapest_38 ⟨Nat.le_of_ble_eq_true rfl, Nat.le_of_ble_eq_true rfl⟩) hP hD hS [12, 13, 14, 15, 4, 5, 6, 7, 8, 9, 10, 11, 1, 2, 3] [0] rfl (fun _ => rfl) rfl (fun _ => rfl) (fun _ => rfl) (fun _ => rfl) (by decide +kernel) (by decide +kernel) (fun u H locs h hP hD hS => ?_)
    obtain ⟨rows_sizes_6, rows_cells_7⟩ := u
    have hP : va_P D vwCl ((W_X7 a aR aT aH aD aK aI aC aS aY lastTold) ++ (W_X5 ca aR rows_ns rows_nc rows_width rows_sizes_6 rows_cells_7) ++ (W_X1 ca aH heap_kinds heap_whos heap_toWhoms heap_topics heap_weights heap_answered heap_deeds heap_size heap_saidBits heap_deedCount) ++ (W_X2 ca aI ironing_least_3 ironing_others_4 ironing_holders_5)) H := hP
    have hD : va_D _ ((W_X7 a aR aT aH aD aK aI aC aS aY lastTold) ++ (W_X5 ca aR rows_ns rows_nc rows_width rows_sizes_6 rows_cells_7) ++ (W_X1 ca aH heap_kinds heap_whos heap_toWhoms heap_topics heap_weights heap_answered heap_deeds heap_size heap_saidBits heap_deedCount) ++ (W_X2 ca aI ironing_least_3 ironing_others_4 ironing_holders_5)) := hD
    try dsimp only at h
    refine lv_iload_n hx hb dX7_cheapest_41 rfl (lv_at hl 0 rfl) ?_
    exact W.iret (v := r2) hx hb hr (fun t ht hW => ⟨⟨r2, (rows_sizes_6, rows_cells_7, ironing_least_3, ironing_others_4, ironing_holders_5), rfl, h, by rw [ht]; exact hP⟩, hS.F ht⟩) hS.2.2 dX7_cheapest_42
  · have h := h.2 hc
    refine lv_iconst (v := (-1)) hx hb dX7_cheapest_11 (by decide) ?_
    exact W.iret (v := (-1 : Int32)) hx hb hr (fun t ht hW => ⟨⟨(-1 : Int32), (rows_sizes, rows_cells, ironing_least, ironing_others, ironing_holders), rfl, h, by rw [ht]; exact hP⟩, hS.F ht⟩) hS.2.2 dX7_cheapest_12

-- IronedQuarrels.orders()I
def wp_X7_orders (heap_kinds : Nat → Int32) (heap_answered : Nat → Int32) (heap_size : Int32) (heap_saidBits : Int32) (post : Int32 → (Int64) → (Int64) → Prop) : Prop :=
  wp_X2_howManyOrders heap_kinds heap_answered heap_size heap_saidBits (fun r1 => wp_X4_tell r1 (1 : Int64) (fun share_top_2 share_bottom_3 => post (1 : Int32) share_top_2 share_bottom_3))
def rm_X7_orders : Room := { frames := 5, cells := 0, slots := 0, locals := 114 }
theorem k_X7_orders_1 : Cond.fieldLink RX7 52 "IronedQuarrels" "share" "LIronedQuarrels$Share;" ∈ wsX7_orders := List.mem_of_getElem? (i := 1) (by decide +kernel)
theorem k_X7_orders_2 : Cond.fieldLink RX7 38 "IronedQuarrels" "ironing" "LIronedQuarrels$Ironing;" ∈ wsX7_orders := List.mem_of_getElem? (i := 2) (by decide +kernel)
theorem k_X7_orders_3 : Cond.fieldLink RX7 24 "IronedQuarrels" "heap" "LIronedQuarrels$Heap;" ∈ wsX7_orders := List.mem_of_getElem? (i := 3) (by decide +kernel)
theorem hi_X7_orders_X1 : ∀ w ∈ wsX10, w ∈ wsX7_orders := fun w h => List.mem_cons_of_mem _ (List.mem_append_left _ (List.mem_append_right _ h))
theorem hi_X7_orders_X4 : ∀ w ∈ wsX40, w ∈ wsX7_orders := fun w h => List.mem_cons_of_mem _ (List.mem_append_right _ h)
theorem hi_X7_orders_X7 : ∀ w ∈ wsX70, w ∈ wsX7_orders := fun w h => List.mem_cons_of_mem _ (List.mem_append_left _ (List.mem_append_left _ (List.mem_append_right _ h)))
set_option maxHeartbeats 4000000 in
set_option maxRecDepth 100000 in
theorem c_X7_orders (l : Launch) (D : va_G) (ca : Nat → ClassId) (a : Nat → Nat) (aR : Nat → Nat) (aT : Nat → Nat) (aH : Nat → Nat) (aD : Nat → Nat) (aK : Nat) (aI : Nat → Nat) (aC : Nat → Nat) (aS : Nat → Nat) (aY : Nat → Nat) (lastTold : Int32) (heap_kinds : Nat → Int32) (heap_whos : Nat → Int32) (heap_toWhoms : Nat → Int32) (heap_topics : Nat → Int32) (heap_weights : Nat → Int32) (heap_answered : Nat → Int32) (heap_deeds : Nat → Int32) (heap_size : Int32) (heap_saidBits : Int32) (heap_deedCount : Int32) (ironing_least : Nat → Int32) (ironing_others : Nat → Int32) (ironing_holders : Nat → Int32) (share_top : Int64) (share_bottom : Int64)  (post : Int32 → (Int64) → (Int64) → Prop) (hd : va_D (fun _ => True) ((W_X7 a aR aT aH aD aK aI aC aS aY lastTold) ++ (W_X1 ca aH heap_kinds heap_whos heap_toWhoms heap_topics heap_weights heap_answered heap_deeds heap_size heap_saidBits heap_deedCount) ++ (W_X2 ca aI ironing_least ironing_others ironing_holders) ++ (W_X4 ca aS share_top share_bottom))) (h : wp_X7_orders heap_kinds heap_answered heap_size heap_saidBits post) : Met l yX7_orders wsX7_orders rm_X7_orders (PcX D ca [.ref (a 0)] ((W_X7 a aR aT aH aD aK aI aC aS aY lastTold) ++ (W_X1 ca aH heap_kinds heap_whos heap_toWhoms heap_topics heap_weights heap_answered heap_deeds heap_size heap_saidBits heap_deedCount) ++ (W_X2 ca aI ironing_least ironing_others ironing_holders) ++ (W_X4 ca aS share_top share_bottom))) (wrI (S := (Int64) × (Int64)) D ((W_X7 a aR aT aH aD aK aI aC aS aY lastTold) ++ (W_X1 ca aH heap_kinds heap_whos heap_toWhoms heap_topics heap_weights heap_answered heap_deeds heap_size heap_saidBits heap_deedCount) ++ (W_X2 ca aI ironing_least ironing_others ironing_holders) ++ (W_X4 ca aS share_top share_bottom)) (fun u => (W_X7 a aR aT aH aD aK aI aC aS aY lastTold) ++ (W_X1 ca aH heap_kinds heap_whos heap_toWhoms heap_topics heap_weights heap_answered heap_deeds heap_size heap_saidBits heap_deedCount) ++ (W_X2 ca aI ironing_least ironing_others ironing_holders) ++ (W_X4 ca aS u.1 u.2)) (fun r u => post r u.1 u.2)) 0 0 (adr ((W_X7 a aR aT aH aD aK aI aC aS aY lastTold) ++ (W_X1 ca aH heap_kinds heap_whos heap_toWhoms heap_topics heap_weights heap_answered heap_deeds heap_size heap_saidBits heap_deedCount) ++ (W_X2 ca aI ironing_least ironing_others ironing_holders) ++ (W_X4 ca aS share_top share_bottom))) := by
  refine Met.ofW (cc := cX7_orders) (maxL := 1) (ret := (some .int)) (by decide) rfl ?_
  intro zp ze zs zm za zb zt zc z1 B hml hv
  obtain ⟨rfl, hP, hK⟩ := hv
  have hx := B.exec
  have hb := B.bytes
  have hr := B.returns
  have hts := atoms_spec (ws := wsX7_orders) B.pre
  have hown : zs.vm.findClass RX7 = some zm.cls := findClass_of_methodNamed B.named
  have hlocks := B.notSynchronized
  have hD : va_D (adr ((W_X7 a aR aT aH aD aK aI aC aS aY lastTold) ++ (W_X1 ca aH heap_kinds heap_whos heap_toWhoms heap_topics heap_weights heap_answered heap_deeds heap_size heap_saidBits heap_deedCount) ++ (W_X2 ca aI ironing_least ironing_others ironing_holders) ++ (W_X4 ca aS share_top share_bottom))) ((W_X7 a aR aT aH aD aK aI aC aS aY lastTold) ++ (W_X1 ca aH heap_kinds heap_whos heap_toWhoms heap_topics heap_weights heap_answered heap_deeds heap_size heap_saidBits heap_deedCount) ++ (W_X2 ca aI ironing_least ironing_others ironing_holders) ++ (W_X4 ca aS share_top share_bottom)) := hd.adr
  have hS : va_S (adr ((W_X7 a aR aT aH aD aK aI aC aS aY lastTold) ++ (W_X1 ca aH heap_kinds heap_whos heap_toWhoms heap_topics heap_weights heap_answered heap_deeds heap_size heap_saidBits heap_deedCount) ++ (W_X2 ca aI ironing_least ironing_others ironing_holders) ++ (W_X4 ca aS share_top share_bottom))) zs.heap zs.heap [] := va_S.rf
  have hl := lv_entry ([.ref (a 0)]) (n := 1) (Nat.le_of_ble_eq_true rfl)
  rw [lg_entry_eq]
  generalize (lg_sl ([.ref (a 0)]) ++ List.replicate (1 - (lg_sl ([.ref (a 0)])).length) Slot.unset).toArray = ls at hl ⊢
  replace hl : lv_has ls 1 [(0, .ref (a 0))] := hl
  show W zp l ze rm_X7_orders zs zm ([.ref (a 0)] : List Value).toArray zb zt zc zs.heap [] 0 0 (MQ zb (wrI (S := (Int64) × (Int64)) D ((W_X7 a aR aT aH aD aK aI aC aS aY lastTold) ++ (W_X1 ca aH heap_kinds heap_whos heap_toWhoms heap_topics heap_weights heap_answered heap_deeds heap_size heap_saidBits heap_deedCount) ++ (W_X2 ca aI ironing_least ironing_others ironing_holders) ++ (W_X4 ca aS share_top share_bottom)) (fun u => (W_X7 a aR aT aH aD aK aI aC aS aY lastTold) ++ (W_X1 ca aH heap_kinds heap_whos heap_toWhoms heap_topics heap_weights heap_answered heap_deeds heap_size heap_saidBits heap_deedCount) ++ (W_X2 ca aI ironing_least ironing_others ironing_holders) ++ (W_X4 ca aS u.1 u.2)) (fun r u => post r u.1 u.2)) ([.ref (a 0)] : List Value).toArray zs 0 0 (adr ((W_X7 a aR aT aH aD aK aI aC aS aY lastTold) ++ (W_X1 ca aH heap_kinds heap_whos heap_toWhoms heap_topics heap_weights heap_answered heap_deeds heap_size heap_saidBits heap_deedCount) ++ (W_X2 ca aI ironing_least ironing_others ironing_holders) ++ (W_X4 ca aS share_top share_bottom)))) (F0 zm 0 ls [])
  unfold wp_X7_orders at h
  refine lv_aload_n hx hb dX7_orders_0 rfl (lv_at hl 0 rfl) ?_
  refine va_get (D := D) (ci := 6) (v := .ref (aS 0)) (C := RX7) (T := TX7) (N := 10) hx hb hts hi_X7_orders_X7 hown hK.1 hP 0 rfl rfl 7 (by decide) (hts _ k_X7_orders_1) (fun _ h9 => h9) rfl dX7_orders_1 ?_
  refine lv_aload_n hx hb dX7_orders_4 rfl (lv_at hl 0 rfl) ?_
  refine va_get (D := D) (ci := 6) (v := .ref (aI 0)) (C := RX7) (T := TX7) (N := 10) hx hb hts hi_X7_orders_X7 hown hK.1 hP 0 rfl rfl 5 (by decide) (hts _ k_X7_orders_2) (fun _ h9 => h9) rfl dX7_orders_5 ?_
  refine lv_aload_n hx hb dX7_orders_8 rfl (lv_at hl 0 rfl) ?_
  refine va_get (D := D) (ci := 6) (v := .ref (aH 0)) (C := RX7) (T := TX7) (N := 10) hx hb hts hi_X7_orders_X7 hown hK.1 hP 0 rfl rfl 2 (by decide) (hts _ k_X7_orders_3) (fun _ h9 => h9) rfl dX7_orders_9 ?_
  refine rd_calll (va_runV (As := [.ref (aH 0)]) (rest := [.ref (aS 0)]) ⟨hx, hb, hml, hown, hts⟩ (c_X2_howManyOrders l D ca aI aH ironing_least ironing_others ironing_holders heap_kinds heap_whos heap_toWhoms heap_topics heap_weights heap_answered heap_deeds heap_size heap_saidBits heap_deedCount  _ h) (cwV 1 hts gX7_orders_X2_howManyOrders rfl rfl rfl (by decide +kernel) ⟨Nat.le_of_ble_eq_true rfl, Nat.le_of_ble_eq_true rfl⟩) (PcX.preV (q := (RX2, TX2, 3)) (ci := 2) (q0 := 9) hK hP rfl rfl (hP.subM [9, 10, 11, 12, 1, 2, 3, 4, 5, 6, 7, 8] rfl)) rfl rfl hl.1 rfl (lv_room (Nat.le_of_ble_eq_true rfl)) dX7_orders_12 ⟨Nat.le_of_ble_eq_true rfl, Nat.le_of_ble_eq_true rfl⟩) (fun r1 h => ?_)
  try dsimp only at h
  refine lv_lconst (v := (1)) hx hb dX7_orders_15 (by decide) ?_
  refine wr_callv (ws1 := fun u => (W_X7 a aR aT aH aD aK aI aC aS aY lastTold) ++ (W_X1 ca aH heap_kinds heap_whos heap_toWhoms heap_topics heap_weights heap_answered heap_deeds heap_size heap_saidBits heap_deedCount) ++ (W_X2 ca aI ironing_least ironing_others ironing_holders) ++ (W_X4 ca aS u.1 u.2)) (wr := ([0, 1, 2, 3, 4, 5, 6, 7, 8, 9, 10, 11, 12] : List Nat).filterMap (fun i => ((W_X7 a aR aT aH aD aK aI aC aS aY lastTold) ++ (W_X1 ca aH heap_kinds heap_whos heap_toWhoms heap_topics heap_weights heap_answered heap_deeds heap_size heap_saidBits heap_deedCount) ++ (W_X2 ca aI ironing_least ironing_others ironing_holders) ++ (W_X4 ca aS share_top share_bottom) : va_W)[i]?)) (n := 14) (va_runV (As := [.long r1, .long (1 : Int64)]) (rest := []) ⟨hx, hb, hml, hown, hts⟩ (c_X4_tell l D ca aS share_top share_bottom r1 (1 : Int64) _ (hD.subM [13] (by decide) rfl) h) (cwV 2 hts gX7_orders_X4_tell rfl rfl rfl (by decide +kernel) ⟨Nat.le_of_ble_eq_true rfl, Nat.le_of_ble_eq_true rfl⟩) (PcX.preV (q := (RX4, TX4, 2)) (ci := 3) (q0 := 13) hK hP rfl rfl (hP.subM [13] rfl)) rfl rfl hl.1 rfl (lv_room (Nat.le_of_ble_eq_true rfl)) dX7_orders_16 ⟨Nat.le_of_ble_eq_true rfl, Nat.le_of_ble_eq_true rfl⟩) hP hD hS [13] [0, 1, 2, 3, 4, 5, 6, 7, 8, 9, 10, 11, 12] rfl (fun _ => rfl) rfl (fun _ => rfl) (fun _ => rfl) (fun _ => rfl) (by decide +kernel) (by decide +kernel) (fun u H locs h hP hD hS => ?_)
  obtain ⟨share_top_2, share_bottom_3⟩ := u
  have hP : va_P D vwCl ((W_X7 a aR aT aH aD aK aI aC aS aY lastTold) ++ (W_X1 ca aH heap_kinds heap_whos heap_toWhoms heap_topics heap_weights heap_answered heap_deeds heap_size heap_saidBits heap_deedCount) ++ (W_X2 ca aI ironing_least ironing_others ironing_holders) ++ (W_X4 ca aS share_top_2 share_bottom_3)) H := hP
  have hD : va_D _ ((W_X7 a aR aT aH aD aK aI aC aS aY lastTold) ++ (W_X1 ca aH heap_kinds heap_whos heap_toWhoms heap_topics heap_weights heap_answered heap_deeds heap_size heap_saidBits heap_deedCount) ++ (W_X2 ca aI ironing_least ironing_others ironing_holders) ++ (W_X4 ca aS share_top_2 share_bottom_3)) := hD
  try dsimp only at h
  refine lv_iconst (v := (1)) hx hb dX7_orders_19 (by decide) ?_
  exact W.iret (v := (1 : Int32)) hx hb hr (fun t ht hW => ⟨⟨(1 : Int32), (share_top_2, share_bottom_3), rfl, h, by rw [ht]; exact hP⟩, hS.F ht⟩) hS.2.2 dX7_orders_20

-- IronedQuarrels.judge(I)I
def wb_X7_judge_158 (post : Int32 → (Int32) → (Nat → Int32) → (Int32) → Prop) (lastTold : Int32) (tally_often : Nat → Int32) (tally_latest : Int32) (x3 : Int32) (x4 : Int32) (x5 : Int32) (x6 : Int32) : Prop :=
  (¬ x6 = x3 → (post (-9 : Int32) x6 tally_often tally_latest)) ∧ (x6 = x3 → ((¬ x4 = 0 → (post (-9 : Int32) x6 tally_often tally_latest)) ∧ (x4 = 0 → (post x5 x6 tally_often tally_latest))))
def wb_X7_judge_84 (rows_nc : Nat) (rows_width : Int32) (rows_cells : Nat → Int32) (heap_kinds : Nat → Int32) (heap_whos : Nat → Int32) (heap_toWhoms : Nat → Int32) (heap_topics : Nat → Int32) (heap_weights : Nat → Int32) (heap_answered : Nat → Int32) (heap_size : Int32) (r : Int32) (post : Int32 → (Int32) → (Nat → Int32) → (Int32) → Prop) (K84 : (Int32) → (Nat → Int32) → (Int32) → (Int32) → (Int32) → (Int32) → (Int32) → Prop) (lastTold : Int32) (tally_often : Nat → Int32) (tally_latest : Int32) (x3 : Int32) (x4 : Int32) (x5 : Int32) (x6 : Int32) : Prop :=
  (x3 ≤ x6 → (wb_X7_judge_158 post lastTold tally_often tally_latest x3 x4 x5 x6)) ∧ (¬ x3 ≤ x6 → (wp_X5_cell rows_nc rows_width rows_cells r x6 (fun r6 => wp_X1_mayGo heap_kinds heap_answered heap_size r6 x4 (fun r7 => (r7 = 0 → (wb_X7_judge_158 post lastTold tally_often tally_latest x3 x4 x5 x6)) ∧ (¬ r7 = 0 → (wp_X5_cell rows_nc rows_width rows_cells r x6 (fun r8 => wp_X1_priceAmong heap_kinds heap_whos heap_toWhoms heap_topics heap_weights heap_size r8 x4 (fun r9 => wp_X7_bit r8 (fun r10 => K84 lastTold tally_often tally_latest x3 (x4 &&& (r10 ^^^ (-1 : Int32))) (x5 + r9) (x6 + 1))))))))))
def wl_X7_judge_84 (rows_nc : Nat) (rows_width : Int32) (rows_cells : Nat → Int32) (heap_kinds : Nat → Int32) (heap_whos : Nat → Int32) (heap_toWhoms : Nat → Int32) (heap_topics : Nat → Int32) (heap_weights : Nat → Int32) (heap_answered : Nat → Int32) (heap_size : Int32) (r : Int32) (post : Int32 → (Int32) → (Nat → Int32) → (Int32) → Prop) : Nat → (Int32) → (Nat → Int32) → (Int32) → (Int32) → (Int32) → (Int32) → (Int32) → Prop
  | 0 => fun _ _ _ _ _ _ _ => False
  | zn + 1 => wb_X7_judge_84 rows_nc rows_width rows_cells heap_kinds heap_whos heap_toWhoms heap_topics heap_weights heap_answered heap_size r post (wl_X7_judge_84 rows_nc rows_width rows_cells heap_kinds heap_whos heap_toWhoms heap_topics heap_weights heap_answered heap_size r post zn)
def wb_X7_judge_28 (rows_nc : Nat) (rows_width : Int32) (rows_cells : Nat → Int32) (heap_kinds : Nat → Int32) (heap_whos : Nat → Int32) (heap_toWhoms : Nat → Int32) (heap_topics : Nat → Int32) (heap_weights : Nat → Int32) (heap_answered : Nat → Int32) (heap_size : Int32) (heap_saidBits : Int32) (r : Int32) (post : Int32 → (Int32) → (Nat → Int32) → (Int32) → Prop) (K28 : (Int32) → (Nat → Int32) → (Int32) → (Int32) → (Int32) → Prop) (lastTold : Int32) (tally_often : Nat → Int32) (tally_latest : Int32) (x3 : Int32) (x4 : Int32) : Prop :=
  (x3 ≤ x4 → (wp_X1_saidBits heap_saidBits (fun r5 => ∃ zn, wl_X7_judge_84 rows_nc rows_width rows_cells heap_kinds heap_whos heap_toWhoms heap_topics heap_weights heap_answered heap_size r post zn lastTold tally_often tally_latest x3 r5 (0 : Int32) (0 : Int32)))) ∧ (¬ x3 ≤ x4 → (wp_X5_cell rows_nc rows_width rows_cells r x4 (fun r11 => wp_X1_hasNumber heap_size r11 (fun r12 => (¬ r12 = 0 → (K28 lastTold tally_often tally_latest x3 (x4 + 1))) ∧ (r12 = 0 → (wp_X6_note tally_often (3 : Int32) (fun r13 tally_often_14 tally_latest_15 => post r13 lastTold tally_often_14 tally_latest_15)))))))
def wl_X7_judge_28 (rows_nc : Nat) (rows_width : Int32) (rows_cells : Nat → Int32) (heap_kinds : Nat → Int32) (heap_whos : Nat → Int32) (heap_toWhoms : Nat → Int32) (heap_topics : Nat → Int32) (heap_weights : Nat → Int32) (heap_answered : Nat → Int32) (heap_size : Int32) (heap_saidBits : Int32) (r : Int32) (post : Int32 → (Int32) → (Nat → Int32) → (Int32) → Prop) : Nat → (Int32) → (Nat → Int32) → (Int32) → (Int32) → (Int32) → Prop
  | 0 => fun _ _ _ _ _ => False
  | zn + 1 => wb_X7_judge_28 rows_nc rows_width rows_cells heap_kinds heap_whos heap_toWhoms heap_topics heap_weights heap_answered heap_size heap_saidBits r post (wl_X7_judge_28 rows_nc rows_width rows_cells heap_kinds heap_whos heap_toWhoms heap_topics heap_weights heap_answered heap_size heap_saidBits r post zn)
def wp_X7_judge (lastTold : Int32) (rows_ns : Nat) (rows_nc : Nat) (rows_width : Int32) (rows_sizes : Nat → Int32) (rows_cells : Nat → Int32) (heap_kinds : Nat → Int32) (heap_whos : Nat → Int32) (heap_toWhoms : Nat → Int32) (heap_topics : Nat → Int32) (heap_weights : Nat → Int32) (heap_answered : Nat → Int32) (heap_size : Int32) (heap_saidBits : Int32) (tally_often : Nat → Int32) (tally_latest : Int32) (r : Int32) (post : Int32 → (Int32) → (Nat → Int32) → (Int32) → Prop) : Prop :=
  wp_X7_refusalOfShelf rows_ns rows_sizes tally_often tally_latest r (fun r1 tally_often_2 tally_latest_3 => (r1 = 0 → (wp_X5_sizeOf rows_ns rows_sizes r (fun r4 => ∃ zn, wl_X7_judge_28 rows_nc rows_width rows_cells heap_kinds heap_whos heap_toWhoms heap_topics heap_weights heap_answered heap_size heap_saidBits r post zn lastTold tally_often_2 tally_latest_3 r4 (0 : Int32)))) ∧ (¬ r1 = 0 → (post r1 lastTold tally_often_2 tally_latest_3)))
def rm_X7_judge : Room := { frames := 4, cells := 0, slots := 0, locals := 87 }
theorem k_X7_judge_1 : Cond.fieldLink RX7 14 "IronedQuarrels" "rows" "LIronedQuarrels$Shelf;" ∈ wsX7_judge := List.mem_of_getElem? (i := 1) (by decide +kernel)
theorem k_X7_judge_2 : Cond.fieldLink RX7 24 "IronedQuarrels" "heap" "LIronedQuarrels$Heap;" ∈ wsX7_judge := List.mem_of_getElem? (i := 2) (by decide +kernel)
theorem k_X7_judge_3 : Cond.fieldLink RX7 59 "IronedQuarrels" "tally" "LIronedQuarrels$Tally;" ∈ wsX7_judge := List.mem_of_getElem? (i := 3) (by decide +kernel)
theorem k_X7_judge_4 : Cond.fieldLink RX7 63 "IronedQuarrels" "lastTold" "I" ∈ wsX7_judge := List.mem_of_getElem? (i := 4) (by decide +kernel)
theorem hi_X7_judge_X1 : ∀ w ∈ wsX10, w ∈ wsX7_judge := fun w h => List.mem_cons_of_mem _ (List.mem_append_right _ h)
theorem hi_X7_judge_X5 : ∀ w ∈ wsX50, w ∈ wsX7_judge := fun w h => List.mem_cons_of_mem _ (List.mem_append_left _ (List.mem_append_left _ (List.mem_append_right _ h)))
theorem hi_X7_judge_X6 : ∀ w ∈ wsX60, w ∈ wsX7_judge := fun w h => List.mem_cons_of_mem _ (List.mem_append_left _ (List.mem_append_right _ h))
theorem hi_X7_judge_X7 : ∀ w ∈ wsX70, w ∈ wsX7_judge := fun w h => List.mem_cons_of_mem _ (List.mem_append_left _ (List.mem_append_left _ (List.mem_append_left _ (List.mem_append_right _ h))))
set_option maxHeartbeats 4000000 in
set_option maxRecDepth 100000 in
theorem c_X7_judge (l : Launch) (D : va_G) (ca : Nat → ClassId) (a : Nat → Nat) (aR : Nat → Nat) (aT : Nat → Nat) (aH : Nat → Nat) (aD : Nat → Nat) (aK : Nat) (aI : Nat → Nat) (aC : Nat → Nat) (aS : Nat → Nat) (aY : Nat → Nat) (lastTold : Int32) (rows_ns : Nat) (rows_nc : Nat) (rows_width : Int32) (rows_sizes : Nat → Int32) (rows_cells : Nat → Int32) (heap_kinds : Nat → Int32) (heap_whos : Nat → Int32) (heap_toWhoms : Nat → Int32) (heap_topics : Nat → Int32) (heap_weights : Nat → Int32) (heap_answered : Nat → Int32) (heap_deeds : Nat → Int32) (heap_size : Int32) (heap_saidBits : Int32) (heap_deedCount : Int32) (tally_often : Nat → Int32) (tally_latest : Int32) (r : Int32) (post : Int32 → (Int32) → (Nat → Int32) → (Int32) → Prop) (hd : va_D (fun _ => True) ((W_X7 a aR aT aH aD aK aI aC aS aY lastTold) ++ (W_X5 ca aR rows_ns rows_nc rows_width rows_sizes rows_cells) ++ (W_X1 ca aH heap_kinds heap_whos heap_toWhoms heap_topics heap_weights heap_answered heap_deeds heap_size heap_saidBits heap_deedCount) ++ (W_X6 ca aY tally_often tally_latest))) (h : wp_X7_judge lastTold rows_ns rows_nc rows_width rows_sizes rows_cells heap_kinds heap_whos heap_toWhoms heap_topics heap_weights heap_answered heap_size heap_saidBits tally_often tally_latest r post) : Met l yX7_judge wsX7_judge rm_X7_judge (PcX D ca [.ref (a 0), .int r] ((W_X7 a aR aT aH aD aK aI aC aS aY lastTold) ++ (W_X5 ca aR rows_ns rows_nc rows_width rows_sizes rows_cells) ++ (W_X1 ca aH heap_kinds heap_whos heap_toWhoms heap_topics heap_weights heap_answered heap_deeds heap_size heap_saidBits heap_deedCount) ++ (W_X6 ca aY tally_often tally_latest))) (wrI (S := (Int32) × (Nat → Int32) × (Int32)) D ((W_X7 a aR aT aH aD aK aI aC aS aY lastTold) ++ (W_X5 ca aR rows_ns rows_nc rows_width rows_sizes rows_cells) ++ (W_X1 ca aH heap_kinds heap_whos heap_toWhoms heap_topics heap_weights heap_answered heap_deeds heap_size heap_saidBits heap_deedCount) ++ (W_X6 ca aY tally_often tally_latest)) (fun u => (W_X7 a aR aT aH aD aK aI aC aS aY u.1) ++ (W_X5 ca aR rows_ns rows_nc rows_width rows_sizes rows_cells) ++ (W_X1 ca aH heap_kinds heap_whos heap_toWhoms heap_topics heap_weights heap_answered heap_deeds heap_size heap_saidBits heap_deedCount) ++ (W_X6 ca aY u.2.1 u.2.2)) (fun r u => post r u.1 u.2.1 u.2.2)) 0 0 (adr ((W_X7 a aR aT aH aD aK aI aC aS aY lastTold) ++ (W_X5 ca aR rows_ns rows_nc rows_width rows_sizes rows_cells) ++ (W_X1 ca aH heap_kinds heap_whos heap_toWhoms heap_topics heap_weights heap_answered heap_deeds heap_size heap_saidBits heap_deedCount) ++ (W_X6 ca aY tally_often tally_latest))) := by
  refine Met.ofW (cc := cX7_judge) (maxL := 8) (ret := (some .int)) (by decide) rfl ?_
  intro zp ze zs zm za zb zt zc z1 B hml hv
  obtain ⟨rfl, hP, hK⟩ := hv
  have hx := B.exec
  have hb := B.bytes
  have hr := B.returns
  have hts := atoms_spec (ws := wsX7_judge) B.pre
  have hown : zs.vm.findClass RX7 = some zm.cls := findClass_of_methodNamed B.named
  have hlocks := B.notSynchronized
  have hD : va_D (adr ((W_X7 a aR aT aH aD aK aI aC aS aY lastTold) ++ (W_X5 ca aR rows_ns rows_nc rows_width rows_sizes rows_cells) ++ (W_X1 ca aH heap_kinds heap_whos heap_toWhoms heap_topics heap_weights heap_answered heap_deeds heap_size heap_saidBits heap_deedCount) ++ (W_X6 ca aY tally_often tally_latest))) ((W_X7 a aR aT aH aD aK aI aC aS aY lastTold) ++ (W_X5 ca aR rows_ns rows_nc rows_width rows_sizes rows_cells) ++ (W_X1 ca aH heap_kinds heap_whos heap_toWhoms heap_topics heap_weights heap_answered heap_deeds heap_size heap_saidBits heap_deedCount) ++ (W_X6 ca aY tally_often tally_latest)) := hd.adr
  have hS : va_S (adr ((W_X7 a aR aT aH aD aK aI aC aS aY lastTold) ++ (W_X5 ca aR rows_ns rows_nc rows_width rows_sizes rows_cells) ++ (W_X1 ca aH heap_kinds heap_whos heap_toWhoms heap_topics heap_weights heap_answered heap_deeds heap_size heap_saidBits heap_deedCount) ++ (W_X6 ca aY tally_often tally_latest))) zs.heap zs.heap [] := va_S.rf
  have hl := lv_entry ([.ref (a 0), .int r]) (n := 8) (Nat.le_of_ble_eq_true rfl)
  rw [lg_entry_eq]
  generalize (lg_sl ([.ref (a 0), .int r]) ++ List.replicate (8 - (lg_sl ([.ref (a 0), .int r])).length) Slot.unset).toArray = ls at hl ⊢
  replace hl : lv_has ls 8 [(0, .ref (a 0)), (1, .int r)] := hl
  show W zp l ze rm_X7_judge zs zm ([.ref (a 0), .int r] : List Value).toArray zb zt zc zs.heap [] 0 0 (MQ zb (wrI (S := (Int32) × (Nat → Int32) × (Int32)) D ((W_X7 a aR aT aH aD aK aI aC aS aY lastTold) ++ (W_X5 ca aR rows_ns rows_nc rows_width rows_sizes rows_cells) ++ (W_X1 ca aH heap_kinds heap_whos heap_toWhoms heap_topics heap_weights heap_answered heap_deeds heap_size heap_saidBits heap_deedCount) ++ (W_X6 ca aY tally_often tally_latest)) (fun u => (W_X7 a aR aT aH aD aK aI aC aS aY u.1) ++ (W_X5 ca aR rows_ns rows_nc rows_width rows_sizes rows_cells) ++ (W_X1 ca aH heap_kinds heap_whos heap_toWhoms heap_topics heap_weights heap_answered heap_deeds heap_size heap_saidBits heap_deedCount) ++ (W_X6 ca aY u.2.1 u.2.2)) (fun r u => post r u.1 u.2.1 u.2.2)) ([.ref (a 0), .int r] : List Value).toArray zs 0 0 (adr ((W_X7 a aR aT aH aD aK aI aC aS aY lastTold) ++ (W_X5 ca aR rows_ns rows_nc rows_width rows_sizes rows_cells) ++ (W_X1 ca aH heap_kinds heap_whos heap_toWhoms heap_topics heap_weights heap_answered heap_deeds heap_size heap_saidBits heap_deedCount) ++ (W_X6 ca aY tally_often tally_latest)))) (F0 zm 0 ls [])
  have w_158 : ∀ (lastTold : Int32) (tally_often : Nat → Int32) (tally_latest : Int32) (x3 : Int32) (x4 : Int32) (x5 : Int32) (x6 : Int32), wb_X7_judge_158 post lastTold tally_often tally_latest x3 x4 x5 x6 → ∀ (H : Heap) (locs : List Loc), va_P D vwCl ((W_X7 a aR aT aH aD aK aI aC aS aY lastTold) ++ (W_X5 ca aR rows_ns rows_nc rows_width rows_sizes rows_cells) ++ (W_X1 ca aH heap_kinds heap_whos heap_toWhoms heap_topics heap_weights heap_answered heap_deeds heap_size heap_saidBits heap_deedCount) ++ (W_X6 ca aY tally_often tally_latest)) H → va_D (adr ((W_X7 a aR aT aH aD aK aI aC aS aY lastTold) ++ (W_X5 ca aR rows_ns rows_nc rows_width rows_sizes rows_cells) ++ (W_X1 ca aH heap_kinds heap_whos heap_toWhoms heap_topics heap_weights heap_answered heap_deeds heap_size heap_saidBits heap_deedCount) ++ (W_X6 ca aY tally_often tally_latest))) ((W_X7 a aR aT aH aD aK aI aC aS aY lastTold) ++ (W_X5 ca aR rows_ns rows_nc rows_width rows_sizes rows_cells) ++ (W_X1 ca aH heap_kinds heap_whos heap_toWhoms heap_topics heap_weights heap_answered heap_deeds heap_size heap_saidBits heap_deedCount) ++ (W_X6 ca aY tally_often tally_latest)) → va_S (adr ((W_X7 a aR aT aH aD aK aI aC aS aY lastTold) ++ (W_X5 ca aR rows_ns rows_nc rows_width rows_sizes rows_cells) ++ (W_X1 ca aH heap_kinds heap_whos heap_toWhoms heap_topics heap_weights heap_answered heap_deeds heap_size heap_saidBits heap_deedCount) ++ (W_X6 ca aY tally_often tally_latest))) zs.heap H locs → ∀ ls : Array Slot, lv_has ls 8 [(0, .ref (a 0)), (3, .int x3), (4, .int x4), (5, .int x5), (6, .int x6)] → W zp l ze rm_X7_judge zs zm ([.ref (a 0), .int r] : List Value).toArray zb zt zc H locs 0 0 (MQ zb (wrI (S := (Int32) × (Nat → Int32) × (Int32)) D ((W_X7 a aR aT aH aD aK aI aC aS aY lastTold) ++ (W_X5 ca aR rows_ns rows_nc rows_width rows_sizes rows_cells) ++ (W_X1 ca aH heap_kinds heap_whos heap_toWhoms heap_topics heap_weights heap_answered heap_deeds heap_size heap_saidBits heap_deedCount) ++ (W_X6 ca aY tally_often tally_latest)) (fun u => (W_X7 a aR aT aH aD aK aI aC aS aY u.1) ++ (W_X5 ca aR rows_ns rows_nc rows_width rows_sizes rows_cells) ++ (W_X1 ca aH heap_kinds heap_whos heap_toWhoms heap_topics heap_weights heap_answered heap_deeds heap_size heap_saidBits heap_deedCount) ++ (W_X6 ca aY u.2.1 u.2.2)) (fun r u => post r u.1 u.2.1 u.2.2)) ([.ref (a 0), .int r] : List Value).toArray zs 0 0 (adr ((W_X7 a aR aT aH aD aK aI aC aS aY lastTold) ++ (W_X5 ca aR rows_ns rows_nc rows_width rows_sizes rows_cells) ++ (W_X1 ca aH heap_kinds heap_whos heap_toWhoms heap_topics heap_weights heap_answered heap_deeds heap_size heap_saidBits heap_deedCount) ++ (W_X6 ca aY tally_often tally_latest)))) (F0 zm 158 ls []) := by
    intro lastTold tally_often tally_latest x3 x4 x5 x6 h H locs hP hD hS ls hl
    unfold wb_X7_judge_158 at h
    refine lv_aload_n hx hb dX7_judge_158 rfl (lv_at hl 0 rfl) ?_
    refine lv_iload hx hb dX7_judge_159 (lv_at hl 4 rfl) ?_
    refine va_put (D := D) (ci := 6) (v := .int x6) (ty := .int) (C := RX7) (T := TX7) (N := 10) hx hb hts hi_X7_judge_X7 tyX7 tyX7_ok nmX7 hown hK.1 hP hD hS 0 rfl rfl 9 (by decide) (hts _ k_X7_judge_4) (fun _ h9 => h9) rfl (by decide +kernel) rfl rfl (Nat.le_of_ble_eq_true rfl) dX7_judge_161 (fun H locs hP hD hS => ?_)
    have hP : va_P D vwCl ((W_X7 a aR aT aH aD aK aI aC aS aY x6) ++ (W_X5 ca aR rows_ns rows_nc rows_width rows_sizes rows_cells) ++ (W_X1 ca aH heap_kinds heap_whos heap_toWhoms heap_topics heap_weights heap_answered heap_deeds heap_size heap_saidBits heap_deedCount) ++ (W_X6 ca aY tally_often tally_latest)) H := hP
    have hD : va_D _ ((W_X7 a aR aT aH aD aK aI aC aS aY x6) ++ (W_X5 ca aR rows_ns rows_nc rows_width rows_sizes rows_cells) ++ (W_X1 ca aH heap_kinds heap_whos heap_toWhoms heap_topics heap_weights heap_answered heap_deeds heap_size heap_saidBits heap_deedCount) ++ (W_X6 ca aY tally_often tally_latest)) := hD
    refine lv_iload hx hb dX7_judge_164 (lv_at hl 4 rfl) ?_
    refine lv_iload_n hx hb dX7_judge_166 rfl (lv_at hl 1 rfl) ?_
    refine lv_icmp_ne (tgt := 180) hx hb dX7_judge_167 (by decide) (fun hc => ?_) (fun hc => ?_)
    · have h := h.1 hc
      refine lv_bipush (v := (-9)) hx hb dX7_judge_180 (by decide) ?_
      exact W.iret (v := (-9 : Int32)) hx hb hr (fun t ht hW => ⟨⟨(-9 : Int32), (x6, tally_often, tally_latest), rfl, h, by rw [ht]; exact hP⟩, hS.F ht⟩) hS.2.2 dX7_judge_182
    · have h := h.2 hc
      refine lv_iload hx hb dX7_judge_170 (lv_at hl 2 rfl) ?_
      refine lv_if_ne (tgt := 180) hx hb dX7_judge_172 (by decide) (fun hc => ?_) (fun hc => ?_)
      · have h := h.1 hc
        refine lv_bipush (v := (-9)) hx hb dX7_judge_180 (by decide) ?_
        exact W.iret (v := (-9 : Int32)) hx hb hr (fun t ht hW => ⟨⟨(-9 : Int32), (x6, tally_often, tally_latest), rfl, h, by rw [ht]; exact hP⟩, hS.F ht⟩) hS.2.2 dX7_judge_182
      · have h := h.2 hc
        refine lv_iload hx hb dX7_judge_175 (lv_at hl 3 rfl) ?_
        refine lv_goto (tgt := 182) hx hb dX7_judge_177 (by decide) ?_
        exact W.iret (v := x5) hx hb hr (fun t ht hW => ⟨⟨x5, (x6, tally_often, tally_latest), rfl, h, by rw [ht]; exact hP⟩, hS.F ht⟩) hS.2.2 dX7_judge_182
  have w_84 : ∀ (zn : Nat) (lastTold : Int32) (tally_often : Nat → Int32) (tally_latest : Int32) (x3 : Int32) (x4 : Int32) (x5 : Int32) (x6 : Int32), wl_X7_judge_84 rows_nc rows_width rows_cells heap_kinds heap_whos heap_toWhoms heap_topics heap_weights heap_answered heap_size r post zn lastTold tally_often tally_latest x3 x4 x5 x6 → ∀ (H : Heap) (locs : List Loc), va_P D vwCl ((W_X7 a aR aT aH aD aK aI aC aS aY lastTold) ++ (W_X5 ca aR rows_ns rows_nc rows_width rows_sizes rows_cells) ++ (W_X1 ca aH heap_kinds heap_whos heap_toWhoms heap_topics heap_weights heap_answered heap_deeds heap_size heap_saidBits heap_deedCount) ++ (W_X6 ca aY tally_often tally_latest)) H → va_D (adr ((W_X7 a aR aT aH aD aK aI aC aS aY lastTold) ++ (W_X5 ca aR rows_ns rows_nc rows_width rows_sizes rows_cells) ++ (W_X1 ca aH heap_kinds heap_whos heap_toWhoms heap_topics heap_weights heap_answered heap_deeds heap_size heap_saidBits heap_deedCount) ++ (W_X6 ca aY tally_often tally_latest))) ((W_X7 a aR aT aH aD aK aI aC aS aY lastTold) ++ (W_X5 ca aR rows_ns rows_nc rows_width rows_sizes rows_cells) ++ (W_X1 ca aH heap_kinds heap_whos heap_toWhoms heap_topics heap_weights heap_answered heap_deeds heap_size heap_saidBits heap_deedCount) ++ (W_X6 ca aY tally_often tally_latest)) → va_S (adr ((W_X7 a aR aT aH aD aK aI aC aS aY lastTold) ++ (W_X5 ca aR rows_ns rows_nc rows_width rows_sizes rows_cells) ++ (W_X1 ca aH heap_kinds heap_whos heap_toWhoms heap_topics heap_weights heap_answered heap_deeds heap_size heap_saidBits heap_deedCount) ++ (W_X6 ca aY tally_often tally_latest))) zs.heap H locs → ∀ ls : Array Slot, lv_has ls 8 [(0, .ref (a 0)), (1, .int r), (3, .int x3), (4, .int x4), (5, .int x5), (6, .int x6)] → W zp l ze rm_X7_judge zs zm ([.ref (a 0), .int r] : List Value).toArray zb zt zc H locs 0 0 (MQ zb (wrI (S := (Int32) × (Nat → Int32) × (Int32)) D ((W_X7 a aR aT aH aD aK aI aC aS aY lastTold) ++ (W_X5 ca aR rows_ns rows_nc rows_width rows_sizes rows_cells) ++ (W_X1 ca aH heap_kinds heap_whos heap_toWhoms heap_topics heap_weights heap_answered heap_deeds heap_size heap_saidBits heap_deedCount) ++ (W_X6 ca aY tally_often tally_latest)) (fun u => (W_X7 a aR aT aH aD aK aI aC aS aY u.1) ++ (W_X5 ca aR rows_ns rows_nc rows_width rows_sizes rows_cells) ++ (W_X1 ca aH heap_kinds heap_whos heap_toWhoms heap_topics heap_weights heap_answered heap_deeds heap_size heap_saidBits heap_deedCount) ++ (W_X6 ca aY u.2.1 u.2.2)) (fun r u => post r u.1 u.2.1 u.2.2)) ([.ref (a 0), .int r] : List Value).toArray zs 0 0 (adr ((W_X7 a aR aT aH aD aK aI aC aS aY lastTold) ++ (W_X5 ca aR rows_ns rows_nc rows_width rows_sizes rows_cells) ++ (W_X1 ca aH heap_kinds heap_whos heap_toWhoms heap_topics heap_weights heap_answered heap_deeds heap_size heap_saidBits heap_deedCount) ++ (W_X6 ca aY tally_often tally_latest)))) (F0 zm 84 ls []) := by
    intro zn
    induction zn with
    | zero => intro lastTold tally_often tally_latest x3 x4 x5 x6 h; exact h.elim
    | succ zn ih84 =>
      intro lastTold tally_often tally_latest x3 x4 x5 x6 h H locs hP hD hS ls hl
      replace h : wb_X7_judge_84 rows_nc rows_width rows_cells heap_kinds heap_whos heap_toWhoms heap_topics heap_weights heap_answered heap_size r post (wl_X7_judge_84 rows_nc rows_width rows_cells heap_kinds heap_whos heap_toWhoms heap_topics heap_weights heap_answered heap_size r post zn) lastTold tally_often tally_latest x3 x4 x5 x6 := h
      unfold wb_X7_judge_84 at h
      refine lv_iload hx hb dX7_judge_84 (lv_at hl 5 rfl) ?_
      refine lv_iload_n hx hb dX7_judge_86 rfl (lv_at hl 2 rfl) ?_
      refine lv_icmp_ge (tgt := 158) hx hb dX7_judge_87 (by decide) (fun hc => ?_) (fun hc => ?_)
      · have h := h.1 hc
        exact w_158  lastTold tally_often tally_latest x3 x4 x5 x6 h _ _ hP hD hS ls (lv_sub hl [0, 2, 3, 4, 5] rfl)
      · have h := h.2 hc
        refine lv_aload_n hx hb dX7_judge_90 rfl (lv_at hl 0 rfl) ?_
        refine va_get (D := D) (ci := 6) (v := .ref (aH 0)) (C := RX7) (T := TX7) (N := 10) hx hb hts hi_X7_judge_X7 hown hK.1 hP 0 rfl rfl 2 (by decide) (hts _ k_X7_judge_2) (fun _ h9 => h9) rfl dX7_judge_91 ?_
        refine lv_aload_n hx hb dX7_judge_94 rfl (lv_at hl 0 rfl) ?_
        refine va_get (D := D) (ci := 6) (v := .ref (aR 0)) (C := RX7) (T := TX7) (N := 10) hx hb hts hi_X7_judge_X7 hown hK.1 hP 0 rfl rfl 0 (by decide) (hts _ k_X7_judge_1) (fun _ h9 => h9) rfl dX7_judge_95 ?_
        refine lv_iload_n hx hb dX7_judge_98 rfl (lv_at hl 1 rfl) ?_
        refine lv_iload hx hb dX7_judge_99 (lv_at hl 5 rfl) ?_
        refine rd_calli (va_runV (As := [.int r, .int x6]) (rest := [.ref (aH 0)]) ⟨hx, hb, hml, hown, hts⟩ (c_X5_cell l D ca aR rows_ns rows_nc rows_width rows_sizes rows_cells r x6 _ h) (cwV 2 hts gX7_judge_X5_cell rfl rfl rfl (by decide +kernel) ⟨Nat.le_of_ble_eq_true rfl, Nat.le_of_ble_eq_true rfl⟩) (PcX.preV (q := (RX5, TX5, 3)) (ci := 4) (q0 := 1) hK hP rfl rfl (hP.subM [1, 2, 3] rfl)) rfl rfl hl.1 rfl (lv_room (Nat.le_of_ble_eq_true rfl)) dX7_judge_101 ⟨Nat.le_of_ble_eq_true rfl, Nat.le_of_ble_eq_true rfl⟩) (fun r6 h => ?_)
        try dsimp only at h
        refine lv_iload hx hb dX7_judge_104 (lv_at hl 3 rfl) ?_
        refine rd_callz (va_runV (As := [.int r6, .int x4]) (rest := []) ⟨hx, hb, hml, hown, hts⟩ (c_X1_mayGo l D ca aH heap_kinds heap_whos heap_toWhoms heap_topics heap_weights heap_answered heap_deeds heap_size heap_saidBits heap_deedCount r6 x4 _ h) (cwV 2 hts gX7_judge_X1_mayGo rfl rfl rfl (by decide +kernel) ⟨Nat.le_of_ble_eq_true rfl, Nat.le_of_ble_eq_true rfl⟩) (PcX.preV (q := (RX1, TX1, 10)) (ci := 1) (q0 := 4) hK hP rfl rfl (hP.subM [4, 5, 6, 7, 8, 9, 10, 11] rfl)) rfl rfl hl.1 rfl (lv_room (Nat.le_of_ble_eq_true rfl)) dX7_judge_106 ⟨Nat.le_of_ble_eq_true rfl, Nat.le_of_ble_eq_true rfl⟩) (fun r7 h hz_r7 => ?_)
        try dsimp only at h
        refine lv_if_eq (tgt := 158) hx hb dX7_judge_109 (by decide) (fun hc => ?_) (fun hc => ?_)
        · have h := h.1 hc
          exact w_158  lastTold tally_often tally_latest x3 x4 x5 x6 h _ _ hP hD hS ls (lv_sub hl [0, 2, 3, 4, 5] rfl)
        · have h := h.2 hc
          refine lv_aload_n hx hb dX7_judge_112 rfl (lv_at hl 0 rfl) ?_
          refine va_get (D := D) (ci := 6) (v := .ref (aR 0)) (C := RX7) (T := TX7) (N := 10) hx hb hts hi_X7_judge_X7 hown hK.1 hP 0 rfl rfl 0 (by decide) (hts _ k_X7_judge_1) (fun _ h9 => h9) rfl dX7_judge_113 ?_
          refine lv_iload_n hx hb dX7_judge_116 rfl (lv_at hl 1 rfl) ?_
          refine lv_iload hx hb dX7_judge_117 (lv_at hl 5 rfl) ?_
          refine rd_calli (va_runV (As := [.int r, .int x6]) (rest := []) ⟨hx, hb, hml, hown, hts⟩ (c_X5_cell l D ca aR rows_ns rows_nc rows_width rows_sizes rows_cells r x6 _ h) (cwV 2 hts gX7_judge_X5_cell rfl rfl rfl (by decide +kernel) ⟨Nat.le_of_ble_eq_true rfl, Nat.le_of_ble_eq_true rfl⟩) (PcX.preV (q := (RX5, TX5, 3)) (ci := 4) (q0 := 1) hK hP rfl rfl (hP.subM [1, 2, 3] rfl)) rfl rfl hl.1 rfl (lv_room (Nat.le_of_ble_eq_true rfl)) dX7_judge_119 ⟨Nat.le_of_ble_eq_true rfl, Nat.le_of_ble_eq_true rfl⟩) (fun r8 h => ?_)
          try dsimp only at h
          refine lv_istore (lv' := [(7, .int r8), (0, .ref (a 0)), (1, .int r), (3, .int x3), (4, .int x4), (5, .int x5), (6, .int x6)]) hx hb dX7_judge_122 hl (by decide) rfl (fun ls hl => ?_)
          refine lv_iload hx hb dX7_judge_124 (lv_at hl 5 rfl) ?_
          refine lv_aload_n hx hb dX7_judge_126 rfl (lv_at hl 1 rfl) ?_
          refine va_get (D := D) (ci := 6) (v := .ref (aH 0)) (C := RX7) (T := TX7) (N := 10) hx hb hts hi_X7_judge_X7 hown hK.1 hP 0 rfl rfl 2 (by decide) (hts _ k_X7_judge_2) (fun _ h9 => h9) rfl dX7_judge_127 ?_
          refine lv_iload hx hb dX7_judge_130 (lv_at hl 0 rfl) ?_
          refine lv_iload hx hb dX7_judge_132 (lv_at hl 4 rfl) ?_
          refine rd_calli (va_runV (As := [.int r8, .int x4]) (rest := [.int x5]) ⟨hx, hb, hml, hown, hts⟩ (c_X1_priceAmong l D ca aH heap_kinds heap_whos heap_toWhoms heap_topics heap_weights heap_answered heap_deeds heap_size heap_saidBits heap_deedCount r8 x4 _ h) (cwV 2 hts gX7_judge_X1_priceAmong rfl rfl rfl (by decide +kernel) ⟨Nat.le_of_ble_eq_true rfl, Nat.le_of_ble_eq_true rfl⟩) (PcX.preV (q := (RX1, TX1, 10)) (ci := 1) (q0 := 4) hK hP rfl rfl (hP.subM [4, 5, 6, 7, 8, 9, 10, 11] rfl)) rfl rfl hl.1 rfl (lv_room (Nat.le_of_ble_eq_true rfl)) dX7_judge_134 ⟨Nat.le_of_ble_eq_true rfl, Nat.le_of_ble_eq_true rfl⟩) (fun r9 h => ?_)
          try dsimp only at h
          refine lv_iadd hx hb dX7_judge_137 ?_
          refine lv_istore (lv' := [(5, .int (x5 + r9)), (7, .int r8), (0, .ref (a 0)), (1, .int r), (3, .int x3), (4, .int x4), (6, .int x6)]) hx hb dX7_judge_138 hl (by decide) rfl (fun ls hl => ?_)
          refine lv_iload hx hb dX7_judge_140 (lv_at hl 5 rfl) ?_
          refine lv_iload hx hb dX7_judge_142 (lv_at hl 1 rfl) ?_
          refine rd_calli (va_runS (As := [.int r8]) (rest := [.int x4]) ⟨hx, hb, hml, hown, hts⟩ (c_X7_bit l D ca   r8 _ h) (va_cwS 1 hts gX7_judge_X7_bit rfl rfl rfl (by decide +kernel) ⟨Nat.le_of_ble_eq_true rfl, Nat.le_of_ble_eq_true rfl⟩) (PcX.preS hK (fun k q h => by simp at h)) rfl rfl hl.1 rfl (lv_room (Nat.le_of_ble_eq_true rfl)) dX7_judge_144 ⟨Nat.le_of_ble_eq_true rfl, Nat.le_of_ble_eq_true rfl⟩) (fun r10 h => ?_)
          try dsimp only at h
          refine lv_iconst (v := (-1)) hx hb dX7_judge_147 (by decide) ?_
          refine lv_ixor hx hb dX7_judge_148 ?_
          refine lv_iand hx hb dX7_judge_149 ?_
          refine lv_istore (lv' := [(4, .int (x4 &&& (r10 ^^^ (-1 : Int32)))), (5, .int (x5 + r9)), (7, .int r8), (0, .ref (a 0)), (1, .int r), (3, .int x3), (6, .int x6)]) hx hb dX7_judge_150 hl (by decide) rfl (fun ls hl => ?_)
          refine lv_iinc (v := x6 + 1) (lv' := [(6, .int (x6 + 1)), (4, .int (x4 &&& (r10 ^^^ (-1 : Int32)))), (5, .int (x5 + r9)), (7, .int r8), (0, .ref (a 0)), (1, .int r), (3, .int x3)]) hx hb dX7_judge_152 hl (k := 6) rfl rfl (by decide) rfl (fun ls hl => ?_)
          refine lv_goto (tgt := 84) hx hb dX7_judge_155 (by decide) ?_
          exact ih84 lastTold tally_often tally_latest x3 (x4 &&& (r10 ^^^ (-1 : Int32))) (x5 + r9) (x6 + 1) h _ _ hP hD hS ls (lv_sub hl [4, 5, 6, 1, 2, 0] rfl)
  have w_28 : ∀ (zn : Nat) (lastTold : Int32) (tally_often : Nat → Int32) (tally_latest : Int32) (x3 : Int32) (x4 : Int32), wl_X7_judge_28 rows_nc rows_width rows_cells heap_kinds heap_whos heap_toWhoms heap_topics heap_weights heap_answered heap_size heap_saidBits r post zn lastTold tally_often tally_latest x3 x4 → ∀ (H : Heap) (locs : List Loc), va_P D vwCl ((W_X7 a aR aT aH aD aK aI aC aS aY lastTold) ++ (W_X5 ca aR rows_ns rows_nc rows_width rows_sizes rows_cells) ++ (W_X1 ca aH heap_kinds heap_whos heap_toWhoms heap_topics heap_weights heap_answered heap_deeds heap_size heap_saidBits heap_deedCount) ++ (W_X6 ca aY tally_often tally_latest)) H → va_D (adr ((W_X7 a aR aT aH aD aK aI aC aS aY lastTold) ++ (W_X5 ca aR rows_ns rows_nc rows_width rows_sizes rows_cells) ++ (W_X1 ca aH heap_kinds heap_whos heap_toWhoms heap_topics heap_weights heap_answered heap_deeds heap_size heap_saidBits heap_deedCount) ++ (W_X6 ca aY tally_often tally_latest))) ((W_X7 a aR aT aH aD aK aI aC aS aY lastTold) ++ (W_X5 ca aR rows_ns rows_nc rows_width rows_sizes rows_cells) ++ (W_X1 ca aH heap_kinds heap_whos heap_toWhoms heap_topics heap_weights heap_answered heap_deeds heap_size heap_saidBits heap_deedCount) ++ (W_X6 ca aY tally_often tally_latest)) → va_S (adr ((W_X7 a aR aT aH aD aK aI aC aS aY lastTold) ++ (W_X5 ca aR rows_ns rows_nc rows_width rows_sizes rows_cells) ++ (W_X1 ca aH heap_kinds heap_whos heap_toWhoms heap_topics heap_weights heap_answered heap_deeds heap_size heap_saidBits heap_deedCount) ++ (W_X6 ca aY tally_often tally_latest))) zs.heap H locs → ∀ ls : Array Slot, lv_has ls 8 [(0, .ref (a 0)), (1, .int r), (3, .int x3), (4, .int x4)] → W zp l ze rm_X7_judge zs zm ([.ref (a 0), .int r] : List Value).toArray zb zt zc H locs 0 0 (MQ zb (wrI (S := (Int32) × (Nat → Int32) × (Int32)) D ((W_X7 a aR aT aH aD aK aI aC aS aY lastTold) ++ (W_X5 ca aR rows_ns rows_nc rows_width rows_sizes rows_cells) ++ (W_X1 ca aH heap_kinds heap_whos heap_toWhoms heap_topics heap_weights heap_answered heap_deeds heap_size heap_saidBits heap_deedCount) ++ (W_X6 ca aY tally_often tally_latest)) (fun u => (W_X7 a aR aT aH aD aK aI aC aS aY u.1) ++ (W_X5 ca aR rows_ns rows_nc rows_width rows_sizes rows_cells) ++ (W_X1 ca aH heap_kinds heap_whos heap_toWhoms heap_topics heap_weights heap_answered heap_deeds heap_size heap_saidBits heap_deedCount) ++ (W_X6 ca aY u.2.1 u.2.2)) (fun r u => post r u.1 u.2.1 u.2.2)) ([.ref (a 0), .int r] : List Value).toArray zs 0 0 (adr ((W_X7 a aR aT aH aD aK aI aC aS aY lastTold) ++ (W_X5 ca aR rows_ns rows_nc rows_width rows_sizes rows_cells) ++ (W_X1 ca aH heap_kinds heap_whos heap_toWhoms heap_topics heap_weights heap_answered heap_deeds heap_size heap_saidBits heap_deedCount) ++ (W_X6 ca aY tally_often tally_latest)))) (F0 zm 28 ls []) := by
    intro zn
    induction zn with
    | zero => intro lastTold tally_often tally_latest x3 x4 h; exact h.elim
    | succ zn ih28 =>
      intro lastTold tally_often tally_latest x3 x4 h H locs hP hD hS ls hl
      replace h : wb_X7_judge_28 rows_nc rows_width rows_cells heap_kinds heap_whos heap_toWhoms heap_topics heap_weights heap_answered heap_size heap_saidBits r post (wl_X7_judge_28 rows_nc rows_width rows_cells heap_kinds heap_whos heap_toWhoms heap_topics heap_weights heap_answered heap_size heap_saidBits r post zn) lastTold tally_often tally_latest x3 x4 := h
      unfold wb_X7_judge_28 at h
      refine lv_iload hx hb dX7_judge_28 (lv_at hl 3 rfl) ?_
      refine lv_iload_n hx hb dX7_judge_30 rfl (lv_at hl 2 rfl) ?_
      refine lv_icmp_ge (tgt := 69) hx hb dX7_judge_31 (by decide) (fun hc => ?_) (fun hc => ?_)
      · have h := h.1 hc
        refine lv_aload_n hx hb dX7_judge_69 rfl (lv_at hl 0 rfl) ?_
        refine va_get (D := D) (ci := 6) (v := .ref (aH 0)) (C := RX7) (T := TX7) (N := 10) hx hb hts hi_X7_judge_X7 hown hK.1 hP 0 rfl rfl 2 (by decide) (hts _ k_X7_judge_2) (fun _ h9 => h9) rfl dX7_judge_70 ?_
        refine rd_calli (va_runV (As := []) (rest := []) ⟨hx, hb, hml, hown, hts⟩ (c_X1_saidBits l D ca aH heap_kinds heap_whos heap_toWhoms heap_topics heap_weights heap_answered heap_deeds heap_size heap_saidBits heap_deedCount  _ h) (cwV 0 hts gX7_judge_X1_saidBits rfl rfl rfl (by decide +kernel) ⟨Nat.le_of_ble_eq_true rfl, Nat.le_of_ble_eq_true rfl⟩) (PcX.preV (q := (RX1, TX1, 10)) (ci := 1) (q0 := 4) hK hP rfl rfl (hP.subM [4, 5, 6, 7, 8, 9, 10, 11] rfl)) rfl rfl hl.1 rfl (lv_room (Nat.le_of_ble_eq_true rfl)) dX7_judge_73 ⟨Nat.le_of_ble_eq_true rfl, Nat.le_of_ble_eq_true rfl⟩) (fun r5 h => ?_)
        try dsimp only at h
        refine lv_istore (lv' := [(4, .int r5), (0, .ref (a 0)), (1, .int r), (3, .int x3)]) hx hb dX7_judge_76 hl (by decide) rfl (fun ls hl => ?_)
        refine lv_iconst (v := (0)) hx hb dX7_judge_78 (by decide) ?_
        refine lv_istore (lv' := [(5, .int (0 : Int32)), (4, .int r5), (0, .ref (a 0)), (1, .int r), (3, .int x3)]) hx hb dX7_judge_79 hl (by decide) rfl (fun ls hl => ?_)
        refine lv_iconst (v := (0)) hx hb dX7_judge_81 (by decide) ?_
        refine lv_istore (lv' := [(6, .int (0 : Int32)), (5, .int (0 : Int32)), (4, .int r5), (0, .ref (a 0)), (1, .int r), (3, .int x3)]) hx hb dX7_judge_82 hl (by decide) rfl (fun ls hl => ?_)
        obtain ⟨zn, h⟩ := h
        exact w_84  zn lastTold tally_often tally_latest x3 r5 (0 : Int32) (0 : Int32) h _ _ hP hD hS ls (lv_sub hl [3, 4, 5, 2, 1, 0] rfl)
      · have h := h.2 hc
        refine lv_aload_n hx hb dX7_judge_34 rfl (lv_at hl 0 rfl) ?_
        refine va_get (D := D) (ci := 6) (v := .ref (aH 0)) (C := RX7) (T := TX7) (N := 10) hx hb hts hi_X7_judge_X7 hown hK.1 hP 0 rfl rfl 2 (by decide) (hts _ k_X7_judge_2) (fun _ h9 => h9) rfl dX7_judge_35 ?_
        refine lv_aload_n hx hb dX7_judge_38 rfl (lv_at hl 0 rfl) ?_
        refine va_get (D := D) (ci := 6) (v := .ref (aR 0)) (C := RX7) (T := TX7) (N := 10) hx hb hts hi_X7_judge_X7 hown hK.1 hP 0 rfl rfl 0 (by decide) (hts _ k_X7_judge_1) (fun _ h9 => h9) rfl dX7_judge_39 ?_
        refine lv_iload_n hx hb dX7_judge_42 rfl (lv_at hl 1 rfl) ?_
        refine lv_iload hx hb dX7_judge_43 (lv_at hl 3 rfl) ?_
        refine rd_calli (va_runV (As := [.int r, .int x4]) (rest := [.ref (aH 0)]) ⟨hx, hb, hml, hown, hts⟩ (c_X5_cell l D ca aR rows_ns rows_nc rows_width rows_sizes rows_cells r x4 _ h) (cwV 2 hts gX7_judge_X5_cell rfl rfl rfl (by decide +kernel) ⟨Nat.le_of_ble_eq_true rfl, Nat.le_of_ble_eq_true rfl⟩) (PcX.preV (q := (RX5, TX5, 3)) (ci := 4) (q0 := 1) hK hP rfl rfl (hP.subM [1, 2, 3] rfl)) rfl rfl hl.1 rfl (lv_room (Nat.le_of_ble_eq_true rfl)) dX7_judge_45 ⟨Nat.le_of_ble_eq_true rfl, Nat.le_of_ble_eq_true rfl⟩) (fun r11 h => ?_)
        try dsimp only at h
        refine rd_callz (va_runV (As := [.int r11]) (rest := []) ⟨hx, hb, hml, hown, hts⟩ (c_X1_hasNumber l D ca aH heap_kinds heap_whos heap_toWhoms heap_topics heap_weights heap_answered heap_deeds heap_size heap_saidBits heap_deedCount r11 _ h) (cwV 1 hts gX7_judge_X1_hasNumber rfl rfl rfl (by decide +kernel) ⟨Nat.le_of_ble_eq_true rfl, Nat.le_of_ble_eq_true rfl⟩) (PcX.preV (q := (RX1, TX1, 10)) (ci := 1) (q0 := 4) hK hP rfl rfl (hP.subM [4, 5, 6, 7, 8, 9, 10, 11] rfl)) rfl rfl hl.1 rfl (lv_room (Nat.le_of_ble_eq_true rfl)) dX7_judge_48 ⟨Nat.le_of_ble_eq_true rfl, Nat.le_of_ble_eq_true rfl⟩) (fun r12 h hz_r12 => ?_)
        try dsimp only at h
        refine lv_if_ne (tgt := 63) hx hb dX7_judge_51 (by decide) (fun hc => ?_) (fun hc => ?_)
        · have h := h.1 hc
          refine lv_iinc (v := x4 + 1) (lv' := [(4, .int (x4 + 1)), (0, .ref (a 0)), (1, .int r), (3, .int x3)]) hx hb dX7_judge_63 hl (k := 3) rfl rfl (by decide) rfl (fun ls hl => ?_)
          refine lv_goto (tgt := 28) hx hb dX7_judge_66 (by decide) ?_
          exact ih28 lastTold tally_often tally_latest x3 (x4 + 1) h _ _ hP hD hS ls (lv_sub hl [1, 2, 3, 0] rfl)
        · have h := h.2 hc
          refine lv_aload_n hx hb dX7_judge_54 rfl (lv_at hl 0 rfl) ?_
          refine va_get (D := D) (ci := 6) (v := .ref (aY 0)) (C := RX7) (T := TX7) (N := 10) hx hb hts hi_X7_judge_X7 hown hK.1 hP 0 rfl rfl 8 (by decide) (hts _ k_X7_judge_3) (fun _ h9 => h9) rfl dX7_judge_55 ?_
          refine lv_iconst (v := (3)) hx hb dX7_judge_58 (by decide) ?_
          refine wr_calli (ws1 := fun u => (W_X7 a aR aT aH aD aK aI aC aS aY lastTold) ++ (W_X5 ca aR rows_ns rows_nc rows_width rows_sizes rows_cells) ++ (W_X1 ca aH heap_kinds heap_whos heap_toWhoms heap_topics heap_weights heap_answered heap_deeds heap_size heap_saidBits heap_deedCount) ++ (W_X6 ca aY u.1 u.2)) (wr := ([0, 1, 2, 3, 4, 5, 6, 7, 8, 9, 10, 11] : List Nat).filterMap (fun i => ((W_X7 a aR aT aH aD aK aI aC aS aY lastTold) ++ (W_X5 ca aR rows_ns rows_nc rows_width rows_sizes rows_cells) ++ (W_X1 ca aH heap_kinds heap_whos heap_toWhoms heap_topics heap_weights heap_answered heap_deeds heap_size heap_saidBits heap_deedCount) ++ (W_X6 ca aY tally_often tally_latest) : va_W)[i]?)) (n := 14) (va_runV (As := [.int (3 : Int32)]) (rest := []) ⟨hx, hb, hml, hown, hts⟩ (c_X6_note l D ca aY tally_often tally_latest (3 : Int32) _ (hD.subM [12, 13] (by decide) rfl) h) (cwV 1 hts gX7_judge_X6_note rfl rfl rfl (by decide +kernel) ⟨Nat.le_of_ble_eq_true rfl, Nat.le_of_ble_eq_true rfl⟩) (PcX.preV (q := (RX6, TX6, 2)) (ci := 5) (q0 := 12) hK hP rfl rfl (hP.subM [12, 13] rfl)) rfl rfl hl.1 rfl (lv_room (Nat.le_of_ble_eq_true rfl)) dX7_judge_59 ⟨Nat.le_of_ble_eq_true rfl, Nat.le_of_ble_eq_true rfl⟩) hP hD hS [12, 13] [0, 1, 2, 3, 4, 5, 6, 7, 8, 9, 10, 11] rfl (fun _ => rfl) rfl (fun _ => rfl) (fun _ => rfl) (fun _ => rfl) (by decide +kernel) (by decide +kernel) (fun r13 u H locs h hP hD hS => ?_)
          obtain ⟨tally_often_14, tally_latest_15⟩ := u
          have hP : va_P D vwCl ((W_X7 a aR aT aH aD aK aI aC aS aY lastTold) ++ (W_X5 ca aR rows_ns rows_nc rows_width rows_sizes rows_cells) ++ (W_X1 ca aH heap_kinds heap_whos heap_toWhoms heap_topics heap_weights heap_answered heap_deeds heap_size heap_saidBits heap_deedCount) ++ (W_X6 ca aY tally_often_14 tally_latest_15)) H := hP
          have hD : va_D _ ((W_X7 a aR aT aH aD aK aI aC aS aY lastTold) ++ (W_X5 ca aR rows_ns rows_nc rows_width rows_sizes rows_cells) ++ (W_X1 ca aH heap_kinds heap_whos heap_toWhoms heap_topics heap_weights heap_answered heap_deeds heap_size heap_saidBits heap_deedCount) ++ (W_X6 ca aY tally_often_14 tally_latest_15)) := hD
          try dsimp only at h
          exact W.iret (v := r13) hx hb hr (fun t ht hW => ⟨⟨r13, (lastTold, tally_often_14, tally_latest_15), rfl, h, by rw [ht]; exact hP⟩, hS.F ht⟩) hS.2.2 dX7_judge_62
  unfold wp_X7_judge at h
  refine lv_aload_n hx hb dX7_judge_0 rfl (lv_at hl 0 rfl) ?_
  refine lv_aload_n hx hb dX7_judge_1 rfl (lv_at hl 0 rfl) ?_
  refine va_get (D := D) (ci := 6) (v := .ref (aR 0)) (C := RX7) (T := TX7) (N := 10) hx hb hts hi_X7_judge_X7 hown hK.1 hP 0 rfl rfl 0 (by decide) (hts _ k_X7_judge_1) (fun _ h9 => h9) rfl dX7_judge_2 ?_
  refine lv_iload_n hx hb dX7_judge_5 rfl (lv_at hl 1 rfl) ?_
  refine wr_calli (ws1 := fun u => (W_X7 a aR aT aH aD aK aI aC aS aY lastTold) ++ (W_X5 ca aR rows_ns rows_nc rows_width rows_sizes rows_cells) ++ (W_X1 ca aH heap_kinds heap_whos heap_toWhoms heap_topics heap_weights heap_answered heap_deeds heap_size heap_saidBits heap_deedCount) ++ (W_X6 ca aY u.1 u.2)) (wr := ([4, 5, 6, 7, 8, 9, 10, 11] : List Nat).filterMap (fun i => ((W_X7 a aR aT aH aD aK aI aC aS aY lastTold) ++ (W_X5 ca aR rows_ns rows_nc rows_width rows_sizes rows_cells) ++ (W_X1 ca aH heap_kinds heap_whos heap_toWhoms heap_topics heap_weights heap_answered heap_deeds heap_size heap_saidBits heap_deedCount) ++ (W_X6 ca aY tally_often tally_latest) : va_W)[i]?)) (n := 14) (va_runV (As := [.ref (aR 0), .int r]) (rest := []) ⟨hx, hb, hml, hown, hts⟩ (c_X7_refusalOfShelf l D ca a aR aT aH aD aK aI aC aS aY aR lastTold rows_ns rows_nc rows_width rows_sizes rows_cells tally_often tally_latest r _ (hD.subM [0, 1, 2, 3, 12, 13] (by decide) rfl) h) (cwV 2 hts gX7_judge_X7_refusalOfShelf rfl rfl rfl (by decide +kernel) ⟨Nat.le_of_ble_eq_true rfl, Nat.le_of_ble_eq_true rfl⟩) (PcX.preV (q := (RX7, TX7, 10)) (ci := 6) (q0 := 0) hK hP rfl rfl (hP.subM [0, 1, 2, 3, 12, 13] rfl)) rfl rfl hl.1 rfl (lv_room (Nat.le_of_ble_eq_true rfl)) dX7_judge_6 ⟨Nat.le_of_ble_eq_true rfl, Nat.le_of_ble_eq_true rfl⟩) hP hD hS [0, 1, 2, 3, 12, 13] [4, 5, 6, 7, 8, 9, 10, 11] rfl (fun _ => rfl) rfl (fun _ => rfl) (fun _ => rfl) (fun _ => rfl) (by decide +kernel) (by decide +kernel) (fun r1 u H locs h hP hD hS => ?_)
  obtain ⟨tally_often_2, tally_latest_3⟩ := u
  have hP : va_P D vwCl ((W_X7 a aR aT aH aD aK aI aC aS aY lastTold) ++ (W_X5 ca aR rows_ns rows_nc rows_width rows_sizes rows_cells) ++ (W_X1 ca aH heap_kinds heap_whos heap_toWhoms heap_topics heap_weights heap_answered heap_deeds heap_size heap_saidBits heap_deedCount) ++ (W_X6 ca aY tally_often_2 tally_latest_3)) H := hP
  have hD : va_D _ ((W_X7 a aR aT aH aD aK aI aC aS aY lastTold) ++ (W_X5 ca aR rows_ns rows_nc rows_width rows_sizes rows_cells) ++ (W_X1 ca aH heap_kinds heap_whos heap_toWhoms heap_topics heap_weights heap_answered heap_deeds heap_size heap_saidBits heap_deedCount) ++ (W_X6 ca aY tally_often_2 tally_latest_3)) := hD
  try dsimp only at h
  refine lv_istore_n (lv' := [(2, .int r1), (0, .ref (a 0)), (1, .int r)]) hx hb dX7_judge_9 rfl hl (by decide) rfl (fun ls hl => ?_)
  refine lv_iload_n hx hb dX7_judge_10 rfl (lv_at hl 0 rfl) ?_
  refine lv_if_eq (tgt := 16) hx hb dX7_judge_11 (by decide) (fun hc => ?_) (fun hc => ?_)
  · have h := h.1 hc
    refine lv_aload_n hx hb dX7_judge_16 rfl (lv_at hl 1 rfl) ?_
    refine va_get (D := D) (ci := 6) (v := .ref (aR 0)) (C := RX7) (T := TX7) (N := 10) hx hb hts hi_X7_judge_X7 hown hK.1 hP 0 rfl rfl 0 (by decide) (hts _ k_X7_judge_1) (fun _ h9 => h9) rfl dX7_judge_17 ?_
    refine lv_iload_n hx hb dX7_judge_20 rfl (lv_at hl 2 rfl) ?_
    refine rd_calli (va_runV (As := [.int r]) (rest := []) ⟨hx, hb, hml, hown, hts⟩ (c_X5_sizeOf l D ca aR rows_ns rows_nc rows_width rows_sizes rows_cells r _ h) (cwV 1 hts gX7_judge_X5_sizeOf rfl rfl rfl (by decide +kernel) ⟨Nat.le_of_ble_eq_true rfl, Nat.le_of_ble_eq_true rfl⟩) (PcX.preV (q := (RX5, TX5, 3)) (ci := 4) (q0 := 1) hK hP rfl rfl (hP.subM [1, 2, 3] rfl)) rfl rfl hl.1 rfl (lv_room (Nat.le_of_ble_eq_true rfl)) dX7_judge_21 ⟨Nat.le_of_ble_eq_true rfl, Nat.le_of_ble_eq_true rfl⟩) (fun r4 h => ?_)
    try dsimp only at h
    refine lv_istore_n (lv' := [(3, .int r4), (2, .int r1), (0, .ref (a 0)), (1, .int r)]) hx hb dX7_judge_24 rfl hl (by decide) rfl (fun ls hl => ?_)
    refine lv_iconst (v := (0)) hx hb dX7_judge_25 (by decide) ?_
    refine lv_istore (lv' := [(4, .int (0 : Int32)), (3, .int r4), (2, .int r1), (0, .ref (a 0)), (1, .int r)]) hx hb dX7_judge_26 hl (by decide) rfl (fun ls hl => ?_)
    obtain ⟨zn, h⟩ := h
    exact w_28  zn lastTold tally_often_2 tally_latest_3 r4 (0 : Int32) h _ _ hP hD hS ls (lv_sub hl [3, 4, 1, 0] rfl)
  · have h := h.2 hc
    refine lv_iload_n hx hb dX7_judge_14 rfl (lv_at hl 0 rfl) ?_
    exact W.iret (v := r1) hx hb hr (fun t ht hW => ⟨⟨r1, (lastTold, tally_often_2, tally_latest_3), rfl, h, by rw [ht]; exact hP⟩, hS.F ht⟩) hS.2.2 dX7_judge_15

-- IronedQuarrels.last(I)I
def wb_X7_last_56 (heap_saidBits : Int32) (post : Int32 → (Int64) → (Int64) → Prop) (share_top : Int64) (share_bottom : Int64) (s0 : Int32) : Prop :=
  wp_X1_saidBits heap_saidBits (fun r7 => wp_J6_bitCount_0f7a4 r7 (fun r8 => wp_X4_tell s0.toInt64 r8.toInt64 (fun share_top_9 share_bottom_10 => post (1 : Int32) share_top_9 share_bottom_10)))
def wp_X7_last (heap_kinds : Nat → Int32) (heap_answered : Nat → Int32) (heap_size : Int32) (heap_saidBits : Int32) (share_top : Int64) (share_bottom : Int64) (i : Int32) (post : Int32 → (Int64) → (Int64) → Prop) : Prop :=
  wp_X1_hasNumber heap_size i (fun r1 => (¬ r1 = 0 → (wp_X1_isSaid heap_saidBits i (fun r2 => (¬ r2 = 0 → (wp_X1_hasToGoAhead heap_kinds heap_answered heap_size heap_saidBits i (fun r3 => (r3 = 0 → (wp_X7_bit i (fun r4 => wp_X1_hasToGoWith heap_kinds heap_answered heap_size heap_saidBits r4 (fun r5 => wp_J6_bitCount_0f7a4 r5 (fun r6 => wb_X7_last_56 heap_saidBits post share_top share_bottom r6))))) ∧ (¬ r3 = 0 → (wb_X7_last_56 heap_saidBits post share_top share_bottom (0 : Int32)))))) ∧ (r2 = 0 → (post (-4 : Int32) share_top share_bottom))))) ∧ (r1 = 0 → (post (-1 : Int32) share_top share_bottom)))
def rm_X7_last : Room := { frames := 4, cells := 0, slots := 0, locals := 87 }
theorem k_X7_last_1 : Cond.fieldLink RX7 24 "IronedQuarrels" "heap" "LIronedQuarrels$Heap;" ∈ wsX7_last := List.mem_of_getElem? (i := 1) (by decide +kernel)
theorem k_X7_last_2 : Cond.fieldLink RX7 52 "IronedQuarrels" "share" "LIronedQuarrels$Share;" ∈ wsX7_last := List.mem_of_getElem? (i := 2) (by decide +kernel)
theorem hi_X7_last_X1 : ∀ w ∈ wsX10, w ∈ wsX7_last := fun w h => List.mem_cons_of_mem _ (List.mem_append_left _ (List.mem_append_right _ h))
theorem hi_X7_last_X4 : ∀ w ∈ wsX40, w ∈ wsX7_last := fun w h => List.mem_cons_of_mem _ (List.mem_append_right _ h)
theorem hi_X7_last_X7 : ∀ w ∈ wsX70, w ∈ wsX7_last := fun w h => List.mem_cons_of_mem _ (List.mem_append_left _ (List.mem_append_left _ (List.mem_append_right _ h)))
set_option maxHeartbeats 4000000 in
set_option maxRecDepth 100000 in
theorem c_X7_last (l : Launch) (D : va_G) (ca : Nat → ClassId) (a : Nat → Nat) (aR : Nat → Nat) (aT : Nat → Nat) (aH : Nat → Nat) (aD : Nat → Nat) (aK : Nat) (aI : Nat → Nat) (aC : Nat → Nat) (aS : Nat → Nat) (aY : Nat → Nat) (lastTold : Int32) (heap_kinds : Nat → Int32) (heap_whos : Nat → Int32) (heap_toWhoms : Nat → Int32) (heap_topics : Nat → Int32) (heap_weights : Nat → Int32) (heap_answered : Nat → Int32) (heap_deeds : Nat → Int32) (heap_size : Int32) (heap_saidBits : Int32) (heap_deedCount : Int32) (share_top : Int64) (share_bottom : Int64) (i : Int32) (post : Int32 → (Int64) → (Int64) → Prop) (hd : va_D (fun _ => True) ((W_X7 a aR aT aH aD aK aI aC aS aY lastTold) ++ (W_X1 ca aH heap_kinds heap_whos heap_toWhoms heap_topics heap_weights heap_answered heap_deeds heap_size heap_saidBits heap_deedCount) ++ (W_X4 ca aS share_top share_bottom))) (h : wp_X7_last heap_kinds heap_answered heap_size heap_saidBits share_top share_bottom i post) : Met l yX7_last wsX7_last rm_X7_last (PcX D ca [.ref (a 0), .int i] ((W_X7 a aR aT aH aD aK aI aC aS aY lastTold) ++ (W_X1 ca aH heap_kinds heap_whos heap_toWhoms heap_topics heap_weights heap_answered heap_deeds heap_size heap_saidBits heap_deedCount) ++ (W_X4 ca aS share_top share_bottom))) (wrI (S := (Int64) × (Int64)) D ((W_X7 a aR aT aH aD aK aI aC aS aY lastTold) ++ (W_X1 ca aH heap_kinds heap_whos heap_toWhoms heap_topics heap_weights heap_answered heap_deeds heap_size heap_saidBits heap_deedCount) ++ (W_X4 ca aS share_top share_bottom)) (fun u => (W_X7 a aR aT aH aD aK aI aC aS aY lastTold) ++ (W_X1 ca aH heap_kinds heap_whos heap_toWhoms heap_topics heap_weights heap_answered heap_deeds heap_size heap_saidBits heap_deedCount) ++ (W_X4 ca aS u.1 u.2)) (fun r u => post r u.1 u.2)) 0 0 (adr ((W_X7 a aR aT aH aD aK aI aC aS aY lastTold) ++ (W_X1 ca aH heap_kinds heap_whos heap_toWhoms heap_topics heap_weights heap_answered heap_deeds heap_size heap_saidBits heap_deedCount) ++ (W_X4 ca aS share_top share_bottom))) := by
  refine Met.ofW (cc := cX7_last) (maxL := 3) (ret := (some .int)) (by decide) rfl ?_
  intro zp ze zs zm za zb zt zc z1 B hml hv
  obtain ⟨rfl, hP, hK⟩ := hv
  have hx := B.exec
  have hb := B.bytes
  have hr := B.returns
  have hts := atoms_spec (ws := wsX7_last) B.pre
  have hown : zs.vm.findClass RX7 = some zm.cls := findClass_of_methodNamed B.named
  have hlocks := B.notSynchronized
  have hD : va_D (adr ((W_X7 a aR aT aH aD aK aI aC aS aY lastTold) ++ (W_X1 ca aH heap_kinds heap_whos heap_toWhoms heap_topics heap_weights heap_answered heap_deeds heap_size heap_saidBits heap_deedCount) ++ (W_X4 ca aS share_top share_bottom))) ((W_X7 a aR aT aH aD aK aI aC aS aY lastTold) ++ (W_X1 ca aH heap_kinds heap_whos heap_toWhoms heap_topics heap_weights heap_answered heap_deeds heap_size heap_saidBits heap_deedCount) ++ (W_X4 ca aS share_top share_bottom)) := hd.adr
  have hS : va_S (adr ((W_X7 a aR aT aH aD aK aI aC aS aY lastTold) ++ (W_X1 ca aH heap_kinds heap_whos heap_toWhoms heap_topics heap_weights heap_answered heap_deeds heap_size heap_saidBits heap_deedCount) ++ (W_X4 ca aS share_top share_bottom))) zs.heap zs.heap [] := va_S.rf
  have hl := lv_entry ([.ref (a 0), .int i]) (n := 3) (Nat.le_of_ble_eq_true rfl)
  rw [lg_entry_eq]
  generalize (lg_sl ([.ref (a 0), .int i]) ++ List.replicate (3 - (lg_sl ([.ref (a 0), .int i])).length) Slot.unset).toArray = ls at hl ⊢
  replace hl : lv_has ls 3 [(0, .ref (a 0)), (1, .int i)] := hl
  show W zp l ze rm_X7_last zs zm ([.ref (a 0), .int i] : List Value).toArray zb zt zc zs.heap [] 0 0 (MQ zb (wrI (S := (Int64) × (Int64)) D ((W_X7 a aR aT aH aD aK aI aC aS aY lastTold) ++ (W_X1 ca aH heap_kinds heap_whos heap_toWhoms heap_topics heap_weights heap_answered heap_deeds heap_size heap_saidBits heap_deedCount) ++ (W_X4 ca aS share_top share_bottom)) (fun u => (W_X7 a aR aT aH aD aK aI aC aS aY lastTold) ++ (W_X1 ca aH heap_kinds heap_whos heap_toWhoms heap_topics heap_weights heap_answered heap_deeds heap_size heap_saidBits heap_deedCount) ++ (W_X4 ca aS u.1 u.2)) (fun r u => post r u.1 u.2)) ([.ref (a 0), .int i] : List Value).toArray zs 0 0 (adr ((W_X7 a aR aT aH aD aK aI aC aS aY lastTold) ++ (W_X1 ca aH heap_kinds heap_whos heap_toWhoms heap_topics heap_weights heap_answered heap_deeds heap_size heap_saidBits heap_deedCount) ++ (W_X4 ca aS share_top share_bottom)))) (F0 zm 0 ls [])
  have w_56 : ∀ (share_top : Int64) (share_bottom : Int64) (s0 : Int32), wb_X7_last_56 heap_saidBits post share_top share_bottom s0 → ∀ (H : Heap) (locs : List Loc), va_P D vwCl ((W_X7 a aR aT aH aD aK aI aC aS aY lastTold) ++ (W_X1 ca aH heap_kinds heap_whos heap_toWhoms heap_topics heap_weights heap_answered heap_deeds heap_size heap_saidBits heap_deedCount) ++ (W_X4 ca aS share_top share_bottom)) H → va_D (adr ((W_X7 a aR aT aH aD aK aI aC aS aY lastTold) ++ (W_X1 ca aH heap_kinds heap_whos heap_toWhoms heap_topics heap_weights heap_answered heap_deeds heap_size heap_saidBits heap_deedCount) ++ (W_X4 ca aS share_top share_bottom))) ((W_X7 a aR aT aH aD aK aI aC aS aY lastTold) ++ (W_X1 ca aH heap_kinds heap_whos heap_toWhoms heap_topics heap_weights heap_answered heap_deeds heap_size heap_saidBits heap_deedCount) ++ (W_X4 ca aS share_top share_bottom)) → va_S (adr ((W_X7 a aR aT aH aD aK aI aC aS aY lastTold) ++ (W_X1 ca aH heap_kinds heap_whos heap_toWhoms heap_topics heap_weights heap_answered heap_deeds heap_size heap_saidBits heap_deedCount) ++ (W_X4 ca aS share_top share_bottom))) zs.heap H locs → ∀ ls : Array Slot, lv_has ls 3 [(0, .ref (a 0))] → W zp l ze rm_X7_last zs zm ([.ref (a 0), .int i] : List Value).toArray zb zt zc H locs 0 0 (MQ zb (wrI (S := (Int64) × (Int64)) D ((W_X7 a aR aT aH aD aK aI aC aS aY lastTold) ++ (W_X1 ca aH heap_kinds heap_whos heap_toWhoms heap_topics heap_weights heap_answered heap_deeds heap_size heap_saidBits heap_deedCount) ++ (W_X4 ca aS share_top share_bottom)) (fun u => (W_X7 a aR aT aH aD aK aI aC aS aY lastTold) ++ (W_X1 ca aH heap_kinds heap_whos heap_toWhoms heap_topics heap_weights heap_answered heap_deeds heap_size heap_saidBits heap_deedCount) ++ (W_X4 ca aS u.1 u.2)) (fun r u => post r u.1 u.2)) ([.ref (a 0), .int i] : List Value).toArray zs 0 0 (adr ((W_X7 a aR aT aH aD aK aI aC aS aY lastTold) ++ (W_X1 ca aH heap_kinds heap_whos heap_toWhoms heap_topics heap_weights heap_answered heap_deeds heap_size heap_saidBits heap_deedCount) ++ (W_X4 ca aS share_top share_bottom)))) (F0 zm 56 ls [.int s0]) := by
    intro share_top share_bottom s0 h H locs hP hD hS ls hl
    unfold wb_X7_last_56 at h
    refine lv_istore_n (lv' := [(2, .int s0), (0, .ref (a 0))]) hx hb dX7_last_56 rfl hl (by decide) rfl (fun ls hl => ?_)
    refine lv_aload_n hx hb dX7_last_57 rfl (lv_at hl 1 rfl) ?_
    refine va_get (D := D) (ci := 6) (v := .ref (aS 0)) (C := RX7) (T := TX7) (N := 10) hx hb hts hi_X7_last_X7 hown hK.1 hP 0 rfl rfl 7 (by decide) (hts _ k_X7_last_2) (fun _ h9 => h9) rfl dX7_last_58 ?_
    refine lv_iload_n hx hb dX7_last_61 rfl (lv_at hl 0 rfl) ?_
    refine lv_i2l hx hb dX7_last_62 rfl ?_
    refine lv_aload_n hx hb dX7_last_63 rfl (lv_at hl 1 rfl) ?_
    refine va_get (D := D) (ci := 6) (v := .ref (aH 0)) (C := RX7) (T := TX7) (N := 10) hx hb hts hi_X7_last_X7 hown hK.1 hP 0 rfl rfl 2 (by decide) (hts _ k_X7_last_1) (fun _ h9 => h9) rfl dX7_last_64 ?_
    refine rd_calli (va_runV (As := []) (rest := [.long s0.toInt64, .ref (aS 0)]) ⟨hx, hb, hml, hown, hts⟩ (c_X1_saidBits l D ca aH heap_kinds heap_whos heap_toWhoms heap_topics heap_weights heap_answered heap_deeds heap_size heap_saidBits heap_deedCount  _ h) (cwV 0 hts gX7_last_X1_saidBits rfl rfl rfl (by decide +kernel) ⟨Nat.le_of_ble_eq_true rfl, Nat.le_of_ble_eq_true rfl⟩) (PcX.preV (q := (RX1, TX1, 10)) (ci := 1) (q0 := 1) hK hP rfl rfl (hP.subM [1, 2, 3, 4, 5, 6, 7, 8] rfl)) rfl rfl hl.1 rfl (lv_room (Nat.le_of_ble_eq_true rfl)) dX7_last_67 ⟨Nat.le_of_ble_eq_true rfl, Nat.le_of_ble_eq_true rfl⟩) (fun r7 h => ?_)
    try dsimp only at h
    refine rd_calli (va_runS (As := [.int r7]) (rest := [.long s0.toInt64, .ref (aS 0)]) ⟨hx, hb, hml, hown, hts⟩ (c_J6_bitCount_0f7a4 l D ca   r7 _ h) (va_cwS 1 hts gX7_last_J6_bitCount_0f7a4 rfl rfl rfl (by decide +kernel) ⟨Nat.le_of_ble_eq_true rfl, Nat.le_of_ble_eq_true rfl⟩) (PcX.preS hK (fun k q h => by simp at h)) rfl rfl hl.1 rfl (lv_room (Nat.le_of_ble_eq_true rfl)) dX7_last_70 ⟨Nat.le_of_ble_eq_true rfl, Nat.le_of_ble_eq_true rfl⟩) (fun r8 h => ?_)
    try dsimp only at h
    refine lv_i2l hx hb dX7_last_73 rfl ?_
    refine wr_callv (ws1 := fun u => (W_X7 a aR aT aH aD aK aI aC aS aY lastTold) ++ (W_X1 ca aH heap_kinds heap_whos heap_toWhoms heap_topics heap_weights heap_answered heap_deeds heap_size heap_saidBits heap_deedCount) ++ (W_X4 ca aS u.1 u.2)) (wr := ([0, 1, 2, 3, 4, 5, 6, 7, 8] : List Nat).filterMap (fun i => ((W_X7 a aR aT aH aD aK aI aC aS aY lastTold) ++ (W_X1 ca aH heap_kinds heap_whos heap_toWhoms heap_topics heap_weights heap_answered heap_deeds heap_size heap_saidBits heap_deedCount) ++ (W_X4 ca aS share_top share_bottom) : va_W)[i]?)) (n := 10) (va_runV (As := [.long s0.toInt64, .long r8.toInt64]) (rest := []) ⟨hx, hb, hml, hown, hts⟩ (c_X4_tell l D ca aS share_top share_bottom s0.toInt64 r8.toInt64 _ (hD.subM [9] (by decide) rfl) h) (cwV 2 hts gX7_last_X4_tell rfl rfl rfl (by decide +kernel) ⟨Nat.le_of_ble_eq_true rfl, Nat.le_of_ble_eq_true rfl⟩) (PcX.preV (q := (RX4, TX4, 2)) (ci := 3) (q0 := 9) hK hP rfl rfl (hP.subM [9] rfl)) rfl rfl hl.1 rfl (lv_room (Nat.le_of_ble_eq_true rfl)) dX7_last_74 ⟨Nat.le_of_ble_eq_true rfl, Nat.le_of_ble_eq_true rfl⟩) hP hD hS [9] [0, 1, 2, 3, 4, 5, 6, 7, 8] rfl (fun _ => rfl) rfl (fun _ => rfl) (fun _ => rfl) (fun _ => rfl) (by decide +kernel) (by decide +kernel) (fun u H locs h hP hD hS => ?_)
    obtain ⟨share_top_9, share_bottom_10⟩ := u
    have hP : va_P D vwCl ((W_X7 a aR aT aH aD aK aI aC aS aY lastTold) ++ (W_X1 ca aH heap_kinds heap_whos heap_toWhoms heap_topics heap_weights heap_answered heap_deeds heap_size heap_saidBits heap_deedCount) ++ (W_X4 ca aS share_top_9 share_bottom_10)) H := hP
    have hD : va_D _ ((W_X7 a aR aT aH aD aK aI aC aS aY lastTold) ++ (W_X1 ca aH heap_kinds heap_whos heap_toWhoms heap_topics heap_weights heap_answered heap_deeds heap_size heap_saidBits heap_deedCount) ++ (W_X4 ca aS share_top_9 share_bottom_10)) := hD
    try dsimp only at h
    refine lv_iconst (v := (1)) hx hb dX7_last_77 (by decide) ?_
    exact W.iret (v := (1 : Int32)) hx hb hr (fun t ht hW => ⟨⟨(1 : Int32), (share_top_9, share_bottom_10), rfl, h, by rw [ht]; exact hP⟩, hS.F ht⟩) hS.2.2 dX7_last_78
  unfold wp_X7_last at h
  refine lv_aload_n hx hb dX7_last_0 rfl (lv_at hl 0 rfl) ?_
  refine va_get (D := D) (ci := 6) (v := .ref (aH 0)) (C := RX7) (T := TX7) (N := 10) hx hb hts hi_X7_last_X7 hown hK.1 hP 0 rfl rfl 2 (by decide) (hts _ k_X7_last_1) (fun _ h9 => h9) rfl dX7_last_1 ?_
  refine lv_iload_n hx hb dX7_last_4 rfl (lv_at hl 1 rfl) ?_
  refine rd_callz (va_runV (As := [.int i]) (rest := []) ⟨hx, hb, hml, hown, hts⟩ (c_X1_hasNumber l D ca aH heap_kinds heap_whos heap_toWhoms heap_topics heap_weights heap_answered heap_deeds heap_size heap_saidBits heap_deedCount i _ h) (cwV 1 hts gX7_last_X1_hasNumber rfl rfl rfl (by decide +kernel) ⟨Nat.le_of_ble_eq_true rfl, Nat.le_of_ble_eq_true rfl⟩) (PcX.preV (q := (RX1, TX1, 10)) (ci := 1) (q0 := 1) hK hP rfl rfl (hP.subM [1, 2, 3, 4, 5, 6, 7, 8] rfl)) rfl rfl hl.1 rfl (lv_room (Nat.le_of_ble_eq_true rfl)) dX7_last_5 ⟨Nat.le_of_ble_eq_true rfl, Nat.le_of_ble_eq_true rfl⟩) (fun r1 h hz_r1 => ?_)
  try dsimp only at h
  refine lv_if_ne (tgt := 13) hx hb dX7_last_8 (by decide) (fun hc => ?_) (fun hc => ?_)
  · have h := h.1 hc
    refine lv_aload_n hx hb dX7_last_13 rfl (lv_at hl 0 rfl) ?_
    refine va_get (D := D) (ci := 6) (v := .ref (aH 0)) (C := RX7) (T := TX7) (N := 10) hx hb hts hi_X7_last_X7 hown hK.1 hP 0 rfl rfl 2 (by decide) (hts _ k_X7_last_1) (fun _ h9 => h9) rfl dX7_last_14 ?_
    refine lv_iload_n hx hb dX7_last_17 rfl (lv_at hl 1 rfl) ?_
    refine rd_callz (va_runV (As := [.int i]) (rest := []) ⟨hx, hb, hml, hown, hts⟩ (c_X1_isSaid l D ca aH heap_kinds heap_whos heap_toWhoms heap_topics heap_weights heap_answered heap_deeds heap_size heap_saidBits heap_deedCount i _ h) (cwV 1 hts gX7_last_X1_isSaid rfl rfl rfl (by decide +kernel) ⟨Nat.le_of_ble_eq_true rfl, Nat.le_of_ble_eq_true rfl⟩) (PcX.preV (q := (RX1, TX1, 10)) (ci := 1) (q0 := 1) hK hP rfl rfl (hP.subM [1, 2, 3, 4, 5, 6, 7, 8] rfl)) rfl rfl hl.1 rfl (lv_room (Nat.le_of_ble_eq_true rfl)) dX7_last_18 ⟨Nat.le_of_ble_eq_true rfl, Nat.le_of_ble_eq_true rfl⟩) (fun r2 h hz_r2 => ?_)
    try dsimp only at h
    refine lv_if_ne (tgt := 27) hx hb dX7_last_21 (by decide) (fun hc => ?_) (fun hc => ?_)
    · have h := h.1 hc
      refine lv_aload_n hx hb dX7_last_27 rfl (lv_at hl 0 rfl) ?_
      refine va_get (D := D) (ci := 6) (v := .ref (aH 0)) (C := RX7) (T := TX7) (N := 10) hx hb hts hi_X7_last_X7 hown hK.1 hP 0 rfl rfl 2 (by decide) (hts _ k_X7_last_1) (fun _ h9 => h9) rfl dX7_last_28 ?_
      refine lv_iload_n hx hb dX7_last_31 rfl (lv_at hl 1 rfl) ?_
      refine rd_callz (va_runV (As := [.int i]) (rest := []) ⟨hx, hb, hml, hown, hts⟩ (c_X1_hasToGoAhead l D ca aH heap_kinds heap_whos heap_toWhoms heap_topics heap_weights heap_answered heap_deeds heap_size heap_saidBits heap_deedCount i _ h) (cwV 1 hts gX7_last_X1_hasToGoAhead rfl rfl rfl (by decide +kernel) ⟨Nat.le_of_ble_eq_true rfl, Nat.le_of_ble_eq_true rfl⟩) (PcX.preV (q := (RX1, TX1, 10)) (ci := 1) (q0 := 1) hK hP rfl rfl (hP.subM [1, 2, 3, 4, 5, 6, 7, 8] rfl)) rfl rfl hl.1 rfl (lv_room (Nat.le_of_ble_eq_true rfl)) dX7_last_32 ⟨Nat.le_of_ble_eq_true rfl, Nat.le_of_ble_eq_true rfl⟩) (fun r3 h hz_r3 => ?_)
      try dsimp only at h
      refine lv_if_eq (tgt := 42) hx hb dX7_last_35 (by decide) (fun hc => ?_) (fun hc => ?_)
      · have h := h.1 hc
        refine lv_aload_n hx hb dX7_last_42 rfl (lv_at hl 0 rfl) ?_
        refine va_get (D := D) (ci := 6) (v := .ref (aH 0)) (C := RX7) (T := TX7) (N := 10) hx hb hts hi_X7_last_X7 hown hK.1 hP 0 rfl rfl 2 (by decide) (hts _ k_X7_last_1) (fun _ h9 => h9) rfl dX7_last_43 ?_
        refine lv_iload_n hx hb dX7_last_46 rfl (lv_at hl 1 rfl) ?_
        refine rd_calli (va_runS (As := [.int i]) (rest := [.ref (aH 0)]) ⟨hx, hb, hml, hown, hts⟩ (c_X7_bit l D ca   i _ h) (va_cwS 1 hts gX7_last_X7_bit rfl rfl rfl (by decide +kernel) ⟨Nat.le_of_ble_eq_true rfl, Nat.le_of_ble_eq_true rfl⟩) (PcX.preS hK (fun k q h => by simp at h)) rfl rfl hl.1 rfl (lv_room (Nat.le_of_ble_eq_true rfl)) dX7_last_47 ⟨Nat.le_of_ble_eq_true rfl, Nat.le_of_ble_eq_true rfl⟩) (fun r4 h => ?_)
        try dsimp only at h
        refine rd_calli (va_runV (As := [.int r4]) (rest := []) ⟨hx, hb, hml, hown, hts⟩ (c_X1_hasToGoWith l D ca aH heap_kinds heap_whos heap_toWhoms heap_topics heap_weights heap_answered heap_deeds heap_size heap_saidBits heap_deedCount r4 _ h) (cwV 1 hts gX7_last_X1_hasToGoWith rfl rfl rfl (by decide +kernel) ⟨Nat.le_of_ble_eq_true rfl, Nat.le_of_ble_eq_true rfl⟩) (PcX.preV (q := (RX1, TX1, 10)) (ci := 1) (q0 := 1) hK hP rfl rfl (hP.subM [1, 2, 3, 4, 5, 6, 7, 8] rfl)) rfl rfl hl.1 rfl (lv_room (Nat.le_of_ble_eq_true rfl)) dX7_last_50 ⟨Nat.le_of_ble_eq_true rfl, Nat.le_of_ble_eq_true rfl⟩) (fun r5 h => ?_)
        try dsimp only at h
        refine rd_calli (va_runS (As := [.int r5]) (rest := []) ⟨hx, hb, hml, hown, hts⟩ (c_J6_bitCount_0f7a4 l D ca   r5 _ h) (va_cwS 1 hts gX7_last_J6_bitCount_0f7a4 rfl rfl rfl (by decide +kernel) ⟨Nat.le_of_ble_eq_true rfl, Nat.le_of_ble_eq_true rfl⟩) (PcX.preS hK (fun k q h => by simp at h)) rfl rfl hl.1 rfl (lv_room (Nat.le_of_ble_eq_true rfl)) dX7_last_53 ⟨Nat.le_of_ble_eq_true rfl, Nat.le_of_ble_eq_true rfl⟩) (fun r6 h => ?_)
        try dsimp only at h
        exact w_56  share_top share_bottom r6 h _ _ hP hD hS ls (lv_sub hl [0] rfl)
      · have h := h.2 hc
        refine lv_iconst (v := (0)) hx hb dX7_last_38 (by decide) ?_
        refine lv_goto (tgt := 56) hx hb dX7_last_39 (by decide) ?_
        exact w_56  share_top share_bottom (0 : Int32) h _ _ hP hD hS ls (lv_sub hl [0] rfl)
    · have h := h.2 hc
      refine lv_bipush (v := (-4)) hx hb dX7_last_24 (by decide) ?_
      exact W.iret (v := (-4 : Int32)) hx hb hr (fun t ht hW => ⟨⟨(-4 : Int32), (share_top, share_bottom), rfl, h, by rw [ht]; exact hP⟩, hS.F ht⟩) hS.2.2 dX7_last_26
  · have h := h.2 hc
    refine lv_iconst (v := (-1)) hx hb dX7_last_11 (by decide) ?_
    exact W.iret (v := (-1 : Int32)) hx hb hr (fun t ht hW => ⟨⟨(-1 : Int32), (share_top, share_bottom), rfl, h, by rw [ht]; exact hP⟩, hS.F ht⟩) hS.2.2 dX7_last_12

-- IronedQuarrels.end(II)I
def wp_X7_end (lastTold : Int32) (heap_kinds : Nat → Int32) (heap_whos : Nat → Int32) (heap_toWhoms : Nat → Int32) (heap_answered : Nat → Int32) (heap_size : Int32) (heap_saidBits : Int32) (p : Int32) (q : Int32) (post : Int32 → (Int32) → Prop) : Prop :=
  wp_X0_hasNumber p (fun r1 => (r1 = 0 → (post (-1 : Int32) lastTold)) ∧ (¬ r1 = 0 → (wp_X0_hasNumber q (fun r2 => (r2 = 0 → (post (-1 : Int32) lastTold)) ∧ (¬ r2 = 0 → ((¬ p = q → (wp_X1_between heap_whos heap_toWhoms heap_size p q (fun r3 => wp_X1_saidBits heap_saidBits (fun r4 => wp_X1_hasToGoWith heap_kinds heap_answered heap_size heap_saidBits (r3 &&& r4) (fun r5 => wp_J6_bitCount_0f7a4 r5 (fun r6 => post r5 r6)))))) ∧ (p = q → (post (-1 : Int32) lastTold))))))))
def rm_X7_end : Room := { frames := 4, cells := 0, slots := 0, locals := 87 }
theorem k_X7_end_1 : Cond.fieldLink RX7 45 "IronedQuarrels" "company" "LIronedQuarrels$Company;" ∈ wsX7_end := List.mem_of_getElem? (i := 1) (by decide +kernel)
theorem k_X7_end_2 : Cond.fieldLink RX7 24 "IronedQuarrels" "heap" "LIronedQuarrels$Heap;" ∈ wsX7_end := List.mem_of_getElem? (i := 2) (by decide +kernel)
theorem k_X7_end_3 : Cond.fieldLink RX7 63 "IronedQuarrels" "lastTold" "I" ∈ wsX7_end := List.mem_of_getElem? (i := 3) (by decide +kernel)
theorem hi_X7_end_X1 : ∀ w ∈ wsX10, w ∈ wsX7_end := fun w h => List.mem_cons_of_mem _ (List.mem_append_right _ h)
theorem hi_X7_end_X7 : ∀ w ∈ wsX70, w ∈ wsX7_end := fun w h => List.mem_cons_of_mem _ (List.mem_append_left _ (List.mem_append_right _ h))
set_option maxHeartbeats 4000000 in
set_option maxRecDepth 100000 in
theorem c_X7_end (l : Launch) (D : va_G) (ca : Nat → ClassId) (a : Nat → Nat) (aR : Nat → Nat) (aT : Nat → Nat) (aH : Nat → Nat) (aD : Nat → Nat) (aK : Nat) (aI : Nat → Nat) (aC : Nat → Nat) (aS : Nat → Nat) (aY : Nat → Nat) (lastTold : Int32) (heap_kinds : Nat → Int32) (heap_whos : Nat → Int32) (heap_toWhoms : Nat → Int32) (heap_topics : Nat → Int32) (heap_weights : Nat → Int32) (heap_answered : Nat → Int32) (heap_deeds : Nat → Int32) (heap_size : Int32) (heap_saidBits : Int32) (heap_deedCount : Int32) (company_tells : Nat → Int32) (p : Int32) (q : Int32) (post : Int32 → (Int32) → Prop) (hd : va_D (fun _ => True) ((W_X7 a aR aT aH aD aK aI aC aS aY lastTold) ++ (W_X1 ca aH heap_kinds heap_whos heap_toWhoms heap_topics heap_weights heap_answered heap_deeds heap_size heap_saidBits heap_deedCount) ++ (W_X0 ca aC company_tells))) (h : wp_X7_end lastTold heap_kinds heap_whos heap_toWhoms heap_answered heap_size heap_saidBits p q post) : Met l yX7_end wsX7_end rm_X7_end (PcX D ca [.ref (a 0), .int p, .int q] ((W_X7 a aR aT aH aD aK aI aC aS aY lastTold) ++ (W_X1 ca aH heap_kinds heap_whos heap_toWhoms heap_topics heap_weights heap_answered heap_deeds heap_size heap_saidBits heap_deedCount) ++ (W_X0 ca aC company_tells))) (wrI (S := (Int32)) D ((W_X7 a aR aT aH aD aK aI aC aS aY lastTold) ++ (W_X1 ca aH heap_kinds heap_whos heap_toWhoms heap_topics heap_weights heap_answered heap_deeds heap_size heap_saidBits heap_deedCount) ++ (W_X0 ca aC company_tells)) (fun u => (W_X7 a aR aT aH aD aK aI aC aS aY u) ++ (W_X1 ca aH heap_kinds heap_whos heap_toWhoms heap_topics heap_weights heap_answered heap_deeds heap_size heap_saidBits heap_deedCount) ++ (W_X0 ca aC company_tells)) (fun r u => post r u)) 0 0 (adr ((W_X7 a aR aT aH aD aK aI aC aS aY lastTold) ++ (W_X1 ca aH heap_kinds heap_whos heap_toWhoms heap_topics heap_weights heap_answered heap_deeds heap_size heap_saidBits heap_deedCount) ++ (W_X0 ca aC company_tells))) := by
  refine Met.ofW (cc := cX7_end) (maxL := 4) (ret := (some .int)) (by decide) rfl ?_
  intro zp ze zs zm za zb zt zc z1 B hml hv
  obtain ⟨rfl, hP, hK⟩ := hv
  have hx := B.exec
  have hb := B.bytes
  have hr := B.returns
  have hts := atoms_spec (ws := wsX7_end) B.pre
  have hown : zs.vm.findClass RX7 = some zm.cls := findClass_of_methodNamed B.named
  have hlocks := B.notSynchronized
  have hD : va_D (adr ((W_X7 a aR aT aH aD aK aI aC aS aY lastTold) ++ (W_X1 ca aH heap_kinds heap_whos heap_toWhoms heap_topics heap_weights heap_answered heap_deeds heap_size heap_saidBits heap_deedCount) ++ (W_X0 ca aC company_tells))) ((W_X7 a aR aT aH aD aK aI aC aS aY lastTold) ++ (W_X1 ca aH heap_kinds heap_whos heap_toWhoms heap_topics heap_weights heap_answered heap_deeds heap_size heap_saidBits heap_deedCount) ++ (W_X0 ca aC company_tells)) := hd.adr
  have hS : va_S (adr ((W_X7 a aR aT aH aD aK aI aC aS aY lastTold) ++ (W_X1 ca aH heap_kinds heap_whos heap_toWhoms heap_topics heap_weights heap_answered heap_deeds heap_size heap_saidBits heap_deedCount) ++ (W_X0 ca aC company_tells))) zs.heap zs.heap [] := va_S.rf
  have hl := lv_entry ([.ref (a 0), .int p, .int q]) (n := 4) (Nat.le_of_ble_eq_true rfl)
  rw [lg_entry_eq]
  generalize (lg_sl ([.ref (a 0), .int p, .int q]) ++ List.replicate (4 - (lg_sl ([.ref (a 0), .int p, .int q])).length) Slot.unset).toArray = ls at hl ⊢
  replace hl : lv_has ls 4 [(0, .ref (a 0)), (1, .int p), (2, .int q)] := hl
  show W zp l ze rm_X7_end zs zm ([.ref (a 0), .int p, .int q] : List Value).toArray zb zt zc zs.heap [] 0 0 (MQ zb (wrI (S := (Int32)) D ((W_X7 a aR aT aH aD aK aI aC aS aY lastTold) ++ (W_X1 ca aH heap_kinds heap_whos heap_toWhoms heap_topics heap_weights heap_answered heap_deeds heap_size heap_saidBits heap_deedCount) ++ (W_X0 ca aC company_tells)) (fun u => (W_X7 a aR aT aH aD aK aI aC aS aY u) ++ (W_X1 ca aH heap_kinds heap_whos heap_toWhoms heap_topics heap_weights heap_answered heap_deeds heap_size heap_saidBits heap_deedCount) ++ (W_X0 ca aC company_tells)) (fun r u => post r u)) ([.ref (a 0), .int p, .int q] : List Value).toArray zs 0 0 (adr ((W_X7 a aR aT aH aD aK aI aC aS aY lastTold) ++ (W_X1 ca aH heap_kinds heap_whos heap_toWhoms heap_topics heap_weights heap_answered heap_deeds heap_size heap_saidBits heap_deedCount) ++ (W_X0 ca aC company_tells)))) (F0 zm 0 ls [])
  unfold wp_X7_end at h
  refine lv_aload_n hx hb dX7_end_0 rfl (lv_at hl 0 rfl) ?_
  refine va_get (D := D) (ci := 6) (v := .ref (aC 0)) (C := RX7) (T := TX7) (N := 10) hx hb hts hi_X7_end_X7 hown hK.1 hP 0 rfl rfl 6 (by decide) (hts _ k_X7_end_1) (fun _ h9 => h9) rfl dX7_end_1 ?_
  refine lv_iload_n hx hb dX7_end_4 rfl (lv_at hl 1 rfl) ?_
  refine rd_callz (va_runV (As := [.int p]) (rest := []) ⟨hx, hb, hml, hown, hts⟩ (c_X0_hasNumber l D ca aC company_tells p _ h) (cwV 1 hts gX7_end_X0_hasNumber rfl rfl rfl (by decide +kernel) ⟨Nat.le_of_ble_eq_true rfl, Nat.le_of_ble_eq_true rfl⟩) (PcX.preV (q := (RX0, TX0, 1)) (ci := 0) (q0 := 9) hK hP rfl rfl (hP.subM [9, 10] rfl)) rfl rfl hl.1 rfl (lv_room (Nat.le_of_ble_eq_true rfl)) dX7_end_5 ⟨Nat.le_of_ble_eq_true rfl, Nat.le_of_ble_eq_true rfl⟩) (fun r1 h hz_r1 => ?_)
  try dsimp only at h
  refine lv_if_eq (tgt := 27) hx hb dX7_end_8 (by decide) (fun hc => ?_) (fun hc => ?_)
  · have h := h.1 hc
    refine lv_iconst (v := (-1)) hx hb dX7_end_27 (by decide) ?_
    exact W.iret (v := (-1 : Int32)) hx hb hr (fun t ht hW => ⟨⟨(-1 : Int32), lastTold, rfl, h, by rw [ht]; exact hP⟩, hS.F ht⟩) hS.2.2 dX7_end_28
  · have h := h.2 hc
    refine lv_aload_n hx hb dX7_end_11 rfl (lv_at hl 0 rfl) ?_
    refine va_get (D := D) (ci := 6) (v := .ref (aC 0)) (C := RX7) (T := TX7) (N := 10) hx hb hts hi_X7_end_X7 hown hK.1 hP 0 rfl rfl 6 (by decide) (hts _ k_X7_end_1) (fun _ h9 => h9) rfl dX7_end_12 ?_
    refine lv_iload_n hx hb dX7_end_15 rfl (lv_at hl 2 rfl) ?_
    refine rd_callz (va_runV (As := [.int q]) (rest := []) ⟨hx, hb, hml, hown, hts⟩ (c_X0_hasNumber l D ca aC company_tells q _ h) (cwV 1 hts gX7_end_X0_hasNumber rfl rfl rfl (by decide +kernel) ⟨Nat.le_of_ble_eq_true rfl, Nat.le_of_ble_eq_true rfl⟩) (PcX.preV (q := (RX0, TX0, 1)) (ci := 0) (q0 := 9) hK hP rfl rfl (hP.subM [9, 10] rfl)) rfl rfl hl.1 rfl (lv_room (Nat.le_of_ble_eq_true rfl)) dX7_end_16 ⟨Nat.le_of_ble_eq_true rfl, Nat.le_of_ble_eq_true rfl⟩) (fun r2 h hz_r2 => ?_)
    try dsimp only at h
    refine lv_if_eq (tgt := 27) hx hb dX7_end_19 (by decide) (fun hc => ?_) (fun hc => ?_)
    · have h := h.1 hc
      refine lv_iconst (v := (-1)) hx hb dX7_end_27 (by decide) ?_
      exact W.iret (v := (-1 : Int32)) hx hb hr (fun t ht hW => ⟨⟨(-1 : Int32), lastTold, rfl, h, by rw [ht]; exact hP⟩, hS.F ht⟩) hS.2.2 dX7_end_28
    · have h := h.2 hc
      refine lv_iload_n hx hb dX7_end_22 rfl (lv_at hl 1 rfl) ?_
      refine lv_iload_n hx hb dX7_end_23 rfl (lv_at hl 2 rfl) ?_
      refine lv_icmp_ne (tgt := 29) hx hb dX7_end_24 (by decide) (fun hc => ?_) (fun hc => ?_)
      · have h := h.1 hc
        refine lv_aload_n hx hb dX7_end_29 rfl (lv_at hl 0 rfl) ?_
        refine va_get (D := D) (ci := 6) (v := .ref (aH 0)) (C := RX7) (T := TX7) (N := 10) hx hb hts hi_X7_end_X7 hown hK.1 hP 0 rfl rfl 2 (by decide) (hts _ k_X7_end_2) (fun _ h9 => h9) rfl dX7_end_30 ?_
        refine lv_aload_n hx hb dX7_end_33 rfl (lv_at hl 0 rfl) ?_
        refine va_get (D := D) (ci := 6) (v := .ref (aH 0)) (C := RX7) (T := TX7) (N := 10) hx hb hts hi_X7_end_X7 hown hK.1 hP 0 rfl rfl 2 (by decide) (hts _ k_X7_end_2) (fun _ h9 => h9) rfl dX7_end_34 ?_
        refine lv_iload_n hx hb dX7_end_37 rfl (lv_at hl 1 rfl) ?_
        refine lv_iload_n hx hb dX7_end_38 rfl (lv_at hl 2 rfl) ?_
        refine rd_calli (va_runV (As := [.int p, .int q]) (rest := [.ref (aH 0)]) ⟨hx, hb, hml, hown, hts⟩ (c_X1_between l D ca aH heap_kinds heap_whos heap_toWhoms heap_topics heap_weights heap_answered heap_deeds heap_size heap_saidBits heap_deedCount p q _ h) (cwV 2 hts gX7_end_X1_between rfl rfl rfl (by decide +kernel) ⟨Nat.le_of_ble_eq_true rfl, Nat.le_of_ble_eq_true rfl⟩) (PcX.preV (q := (RX1, TX1, 10)) (ci := 1) (q0 := 1) hK hP rfl rfl (hP.subM [1, 2, 3, 4, 5, 6, 7, 8] rfl)) rfl rfl hl.1 rfl (lv_room (Nat.le_of_ble_eq_true rfl)) dX7_end_39 ⟨Nat.le_of_ble_eq_true rfl, Nat.le_of_ble_eq_true rfl⟩) (fun r3 h => ?_)
        try dsimp only at h
        refine lv_aload_n hx hb dX7_end_42 rfl (lv_at hl 0 rfl) ?_
        refine va_get (D := D) (ci := 6) (v := .ref (aH 0)) (C := RX7) (T := TX7) (N := 10) hx hb hts hi_X7_end_X7 hown hK.1 hP 0 rfl rfl 2 (by decide) (hts _ k_X7_end_2) (fun _ h9 => h9) rfl dX7_end_43 ?_
        refine rd_calli (va_runV (As := []) (rest := [.int r3, .ref (aH 0)]) ⟨hx, hb, hml, hown, hts⟩ (c_X1_saidBits l D ca aH heap_kinds heap_whos heap_toWhoms heap_topics heap_weights heap_answered heap_deeds heap_size heap_saidBits heap_deedCount  _ h) (cwV 0 hts gX7_end_X1_saidBits rfl rfl rfl (by decide +kernel) ⟨Nat.le_of_ble_eq_true rfl, Nat.le_of_ble_eq_true rfl⟩) (PcX.preV (q := (RX1, TX1, 10)) (ci := 1) (q0 := 1) hK hP rfl rfl (hP.subM [1, 2, 3, 4, 5, 6, 7, 8] rfl)) rfl rfl hl.1 rfl (lv_room (Nat.le_of_ble_eq_true rfl)) dX7_end_46 ⟨Nat.le_of_ble_eq_true rfl, Nat.le_of_ble_eq_true rfl⟩) (fun r4 h => ?_)
        try dsimp only at h
        refine lv_iand hx hb dX7_end_49 ?_
        refine rd_calli (va_runV (As := [.int (r3 &&& r4)]) (rest := []) ⟨hx, hb, hml, hown, hts⟩ (c_X1_hasToGoWith l D ca aH heap_kinds heap_whos heap_toWhoms heap_topics heap_weights heap_answered heap_deeds heap_size heap_saidBits heap_deedCount (r3 &&& r4) _ h) (cwV 1 hts gX7_end_X1_hasToGoWith rfl rfl rfl (by decide +kernel) ⟨Nat.le_of_ble_eq_true rfl, Nat.le_of_ble_eq_true rfl⟩) (PcX.preV (q := (RX1, TX1, 10)) (ci := 1) (q0 := 1) hK hP rfl rfl (hP.subM [1, 2, 3, 4, 5, 6, 7, 8] rfl)) rfl rfl hl.1 rfl (lv_room (Nat.le_of_ble_eq_true rfl)) dX7_end_50 ⟨Nat.le_of_ble_eq_true rfl, Nat.le_of_ble_eq_true rfl⟩) (fun r5 h => ?_)
        try dsimp only at h
        refine lv_istore_n (lv' := [(3, .int r5), (0, .ref (a 0)), (1, .int p), (2, .int q)]) hx hb dX7_end_53 rfl hl (by decide) rfl (fun ls hl => ?_)
        refine lv_aload_n hx hb dX7_end_54 rfl (lv_at hl 1 rfl) ?_
        refine lv_iload_n hx hb dX7_end_55 rfl (lv_at hl 0 rfl) ?_
        refine rd_calli (va_runS (As := [.int r5]) (rest := [.ref (a 0)]) ⟨hx, hb, hml, hown, hts⟩ (c_J6_bitCount_0f7a4 l D ca   r5 _ h) (va_cwS 1 hts gX7_end_J6_bitCount_0f7a4 rfl rfl rfl (by decide +kernel) ⟨Nat.le_of_ble_eq_true rfl, Nat.le_of_ble_eq_true rfl⟩) (PcX.preS hK (fun k q h => by simp at h)) rfl rfl hl.1 rfl (lv_room (Nat.le_of_ble_eq_true rfl)) dX7_end_56 ⟨Nat.le_of_ble_eq_true rfl, Nat.le_of_ble_eq_true rfl⟩) (fun r6 h => ?_)
        try dsimp only at h
        refine va_put (D := D) (ci := 6) (v := .int r6) (ty := .int) (C := RX7) (T := TX7) (N := 10) hx hb hts hi_X7_end_X7 tyX7 tyX7_ok nmX7 hown hK.1 hP hD hS 0 rfl rfl 9 (by decide) (hts _ k_X7_end_3) (fun _ h9 => h9) rfl (by decide +kernel) rfl rfl (Nat.le_of_ble_eq_true rfl) dX7_end_59 (fun H locs hP hD hS => ?_)
        have hP : va_P D vwCl ((W_X7 a aR aT aH aD aK aI aC aS aY r6) ++ (W_X1 ca aH heap_kinds heap_whos heap_toWhoms heap_topics heap_weights heap_answered heap_deeds heap_size heap_saidBits heap_deedCount) ++ (W_X0 ca aC company_tells)) H := hP
        have hD : va_D _ ((W_X7 a aR aT aH aD aK aI aC aS aY r6) ++ (W_X1 ca aH heap_kinds heap_whos heap_toWhoms heap_topics heap_weights heap_answered heap_deeds heap_size heap_saidBits heap_deedCount) ++ (W_X0 ca aC company_tells)) := hD
        refine lv_iload_n hx hb dX7_end_62 rfl (lv_at hl 0 rfl) ?_
        exact W.iret (v := r5) hx hb hr (fun t ht hW => ⟨⟨r5, r6, rfl, h, by rw [ht]; exact hP⟩, hS.F ht⟩) hS.2.2 dX7_end_63
      · have h := h.2 hc
        refine lv_iconst (v := (-1)) hx hb dX7_end_27 (by decide) ?_
        exact W.iret (v := (-1 : Int32)) hx hb hr (fun t ht hW => ⟨⟨(-1 : Int32), lastTold, rfl, h, by rw [ht]; exact hP⟩, hS.F ht⟩) hS.2.2 dX7_end_28

-- IronedQuarrels.rings()I
def wp_X7_rings (heap_whos : Nat → Int32) (heap_toWhoms : Nat → Int32) (heap_size : Int32) (heap_saidBits : Int32) (company_tells : Nat → Int32) (post : Int32 → (Int32) → (Nat → Int32) → Prop) : Prop :=
  wp_X1_personsOfSaid heap_whos heap_toWhoms heap_size heap_saidBits (fun r1 => wp_J6_bitCount_0f7a4 r1 (fun r2 => wp_X0_inRings company_tells heap_whos heap_toWhoms heap_size heap_saidBits (0 : Int32) (fun r3 company_tells_4 => post r3 r2 company_tells_4)))
def rm_X7_rings : Room := { frames := 4, cells := 0, slots := 0, locals := 91 }
theorem k_X7_rings_1 : Cond.fieldLink RX7 24 "IronedQuarrels" "heap" "LIronedQuarrels$Heap;" ∈ wsX7_rings := List.mem_of_getElem? (i := 1) (by decide +kernel)
theorem k_X7_rings_2 : Cond.fieldLink RX7 63 "IronedQuarrels" "lastTold" "I" ∈ wsX7_rings := List.mem_of_getElem? (i := 2) (by decide +kernel)
theorem k_X7_rings_3 : Cond.fieldLink RX7 45 "IronedQuarrels" "company" "LIronedQuarrels$Company;" ∈ wsX7_rings := List.mem_of_getElem? (i := 3) (by decide +kernel)
theorem hi_X7_rings_X0 : ∀ w ∈ wsX00, w ∈ wsX7_rings := fun w h => List.mem_cons_of_mem _ (List.mem_append_right _ h)
theorem hi_X7_rings_X1 : ∀ w ∈ wsX10, w ∈ wsX7_rings := fun w h => List.mem_cons_of_mem _ (List.mem_append_left _ (List.mem_append_right _ h))
theorem hi_X7_rings_X7 : ∀ w ∈ wsX70, w ∈ wsX7_rings := fun w h => List.mem_cons_of_mem _ (List.mem_append_left _ (List.mem_append_left _ (List.mem_append_right _ h)))
set_option maxHeartbeats 4000000 in
set_option maxRecDepth 100000 in
theorem c_X7_rings (l : Launch) (D : va_G) (ca : Nat → ClassId) (a : Nat → Nat) (aR : Nat → Nat) (aT : Nat → Nat) (aH : Nat → Nat) (aD : Nat → Nat) (aK : Nat) (aI : Nat → Nat) (aC : Nat → Nat) (aS : Nat → Nat) (aY : Nat → Nat) (lastTold : Int32) (heap_kinds : Nat → Int32) (heap_whos : Nat → Int32) (heap_toWhoms : Nat → Int32) (heap_topics : Nat → Int32) (heap_weights : Nat → Int32) (heap_answered : Nat → Int32) (heap_deeds : Nat → Int32) (heap_size : Int32) (heap_saidBits : Int32) (heap_deedCount : Int32) (company_tells : Nat → Int32)  (post : Int32 → (Int32) → (Nat → Int32) → Prop) (hd : va_D (fun _ => True) ((W_X7 a aR aT aH aD aK aI aC aS aY lastTold) ++ (W_X1 ca aH heap_kinds heap_whos heap_toWhoms heap_topics heap_weights heap_answered heap_deeds heap_size heap_saidBits heap_deedCount) ++ (W_X0 ca aC company_tells))) (h : wp_X7_rings heap_whos heap_toWhoms heap_size heap_saidBits company_tells post) : Met l yX7_rings wsX7_rings rm_X7_rings (PcX D ca [.ref (a 0)] ((W_X7 a aR aT aH aD aK aI aC aS aY lastTold) ++ (W_X1 ca aH heap_kinds heap_whos heap_toWhoms heap_topics heap_weights heap_answered heap_deeds heap_size heap_saidBits heap_deedCount) ++ (W_X0 ca aC company_tells))) (wrI (S := (Int32) × (Nat → Int32)) D ((W_X7 a aR aT aH aD aK aI aC aS aY lastTold) ++ (W_X1 ca aH heap_kinds heap_whos heap_toWhoms heap_topics heap_weights heap_answered heap_deeds heap_size heap_saidBits heap_deedCount) ++ (W_X0 ca aC company_tells)) (fun u => (W_X7 a aR aT aH aD aK aI aC aS aY u.1) ++ (W_X1 ca aH heap_kinds heap_whos heap_toWhoms heap_topics heap_weights heap_answered heap_deeds heap_size heap_saidBits heap_deedCount) ++ (W_X0 ca aC u.2)) (fun r u => post r u.1 u.2)) 0 0 (adr ((W_X7 a aR aT aH aD aK aI aC aS aY lastTold) ++ (W_X1 ca aH heap_kinds heap_whos heap_toWhoms heap_topics heap_weights heap_answered heap_deeds heap_size heap_saidBits heap_deedCount) ++ (W_X0 ca aC company_tells))) := by
  refine Met.ofW (cc := cX7_rings) (maxL := 1) (ret := (some .int)) (by decide) rfl ?_
  intro zp ze zs zm za zb zt zc z1 B hml hv
  obtain ⟨rfl, hP, hK⟩ := hv
  have hx := B.exec
  have hb := B.bytes
  have hr := B.returns
  have hts := atoms_spec (ws := wsX7_rings) B.pre
  have hown : zs.vm.findClass RX7 = some zm.cls := findClass_of_methodNamed B.named
  have hlocks := B.notSynchronized
  have hD : va_D (adr ((W_X7 a aR aT aH aD aK aI aC aS aY lastTold) ++ (W_X1 ca aH heap_kinds heap_whos heap_toWhoms heap_topics heap_weights heap_answered heap_deeds heap_size heap_saidBits heap_deedCount) ++ (W_X0 ca aC company_tells))) ((W_X7 a aR aT aH aD aK aI aC aS aY lastTold) ++ (W_X1 ca aH heap_kinds heap_whos heap_toWhoms heap_topics heap_weights heap_answered heap_deeds heap_size heap_saidBits heap_deedCount) ++ (W_X0 ca aC company_tells)) := hd.adr
  have hS : va_S (adr ((W_X7 a aR aT aH aD aK aI aC aS aY lastTold) ++ (W_X1 ca aH heap_kinds heap_whos heap_toWhoms heap_topics heap_weights heap_answered heap_deeds heap_size heap_saidBits heap_deedCount) ++ (W_X0 ca aC company_tells))) zs.heap zs.heap [] := va_S.rf
  have hl := lv_entry ([.ref (a 0)]) (n := 1) (Nat.le_of_ble_eq_true rfl)
  rw [lg_entry_eq]
  generalize (lg_sl ([.ref (a 0)]) ++ List.replicate (1 - (lg_sl ([.ref (a 0)])).length) Slot.unset).toArray = ls at hl ⊢
  replace hl : lv_has ls 1 [(0, .ref (a 0))] := hl
  show W zp l ze rm_X7_rings zs zm ([.ref (a 0)] : List Value).toArray zb zt zc zs.heap [] 0 0 (MQ zb (wrI (S := (Int32) × (Nat → Int32)) D ((W_X7 a aR aT aH aD aK aI aC aS aY lastTold) ++ (W_X1 ca aH heap_kinds heap_whos heap_toWhoms heap_topics heap_weights heap_answered heap_deeds heap_size heap_saidBits heap_deedCount) ++ (W_X0 ca aC company_tells)) (fun u => (W_X7 a aR aT aH aD aK aI aC aS aY u.1) ++ (W_X1 ca aH heap_kinds heap_whos heap_toWhoms heap_topics heap_weights heap_answered heap_deeds heap_size heap_saidBits heap_deedCount) ++ (W_X0 ca aC u.2)) (fun r u => post r u.1 u.2)) ([.ref (a 0)] : List Value).toArray zs 0 0 (adr ((W_X7 a aR aT aH aD aK aI aC aS aY lastTold) ++ (W_X1 ca aH heap_kinds heap_whos heap_toWhoms heap_topics heap_weights heap_answered heap_deeds heap_size heap_saidBits heap_deedCount) ++ (W_X0 ca aC company_tells)))) (F0 zm 0 ls [])
  unfold wp_X7_rings at h
  refine lv_aload_n hx hb dX7_rings_0 rfl (lv_at hl 0 rfl) ?_
  refine lv_aload_n hx hb dX7_rings_1 rfl (lv_at hl 0 rfl) ?_
  refine va_get (D := D) (ci := 6) (v := .ref (aH 0)) (C := RX7) (T := TX7) (N := 10) hx hb hts hi_X7_rings_X7 hown hK.1 hP 0 rfl rfl 2 (by decide) (hts _ k_X7_rings_1) (fun _ h9 => h9) rfl dX7_rings_2 ?_
  refine rd_calli (va_runV (As := []) (rest := [.ref (a 0)]) ⟨hx, hb, hml, hown, hts⟩ (c_X1_personsOfSaid l D ca aH heap_kinds heap_whos heap_toWhoms heap_topics heap_weights heap_answered heap_deeds heap_size heap_saidBits heap_deedCount  _ h) (cwV 0 hts gX7_rings_X1_personsOfSaid rfl rfl rfl (by decide +kernel) ⟨Nat.le_of_ble_eq_true rfl, Nat.le_of_ble_eq_true rfl⟩) (PcX.preV (q := (RX1, TX1, 10)) (ci := 1) (q0 := 1) hK hP rfl rfl (hP.subM [1, 2, 3, 4, 5, 6, 7, 8] rfl)) rfl rfl hl.1 rfl (lv_room (Nat.le_of_ble_eq_true rfl)) dX7_rings_5 ⟨Nat.le_of_ble_eq_true rfl, Nat.le_of_ble_eq_true rfl⟩) (fun r1 h => ?_)
  try dsimp only at h
  refine rd_calli (va_runS (As := [.int r1]) (rest := [.ref (a 0)]) ⟨hx, hb, hml, hown, hts⟩ (c_J6_bitCount_0f7a4 l D ca   r1 _ h) (va_cwS 1 hts gX7_rings_J6_bitCount_0f7a4 rfl rfl rfl (by decide +kernel) ⟨Nat.le_of_ble_eq_true rfl, Nat.le_of_ble_eq_true rfl⟩) (PcX.preS hK (fun k q h => by simp at h)) rfl rfl hl.1 rfl (lv_room (Nat.le_of_ble_eq_true rfl)) dX7_rings_8 ⟨Nat.le_of_ble_eq_true rfl, Nat.le_of_ble_eq_true rfl⟩) (fun r2 h => ?_)
  try dsimp only at h
  refine va_put (D := D) (ci := 6) (v := .int r2) (ty := .int) (C := RX7) (T := TX7) (N := 10) hx hb hts hi_X7_rings_X7 tyX7 tyX7_ok nmX7 hown hK.1 hP hD hS 0 rfl rfl 9 (by decide) (hts _ k_X7_rings_2) (fun _ h9 => h9) rfl (by decide +kernel) rfl rfl (Nat.le_of_ble_eq_true rfl) dX7_rings_11 (fun H locs hP hD hS => ?_)
  have hP : va_P D vwCl ((W_X7 a aR aT aH aD aK aI aC aS aY r2) ++ (W_X1 ca aH heap_kinds heap_whos heap_toWhoms heap_topics heap_weights heap_answered heap_deeds heap_size heap_saidBits heap_deedCount) ++ (W_X0 ca aC company_tells)) H := hP
  have hD : va_D _ ((W_X7 a aR aT aH aD aK aI aC aS aY r2) ++ (W_X1 ca aH heap_kinds heap_whos heap_toWhoms heap_topics heap_weights heap_answered heap_deeds heap_size heap_saidBits heap_deedCount) ++ (W_X0 ca aC company_tells)) := hD
  refine lv_aload_n hx hb dX7_rings_14 rfl (lv_at hl 0 rfl) ?_
  refine va_get (D := D) (ci := 6) (v := .ref (aC 0)) (C := RX7) (T := TX7) (N := 10) hx hb hts hi_X7_rings_X7 hown hK.1 hP 0 rfl rfl 6 (by decide) (hts _ k_X7_rings_3) (fun _ h9 => h9) rfl dX7_rings_15 ?_
  refine lv_aload_n hx hb dX7_rings_18 rfl (lv_at hl 0 rfl) ?_
  refine va_get (D := D) (ci := 6) (v := .ref (aH 0)) (C := RX7) (T := TX7) (N := 10) hx hb hts hi_X7_rings_X7 hown hK.1 hP 0 rfl rfl 2 (by decide) (hts _ k_X7_rings_1) (fun _ h9 => h9) rfl dX7_rings_19 ?_
  refine lv_iconst (v := (0)) hx hb dX7_rings_22 (by decide) ?_
  refine wr_calli (ws1 := fun u => (W_X7 a aR aT aH aD aK aI aC aS aY r2) ++ (W_X1 ca aH heap_kinds heap_whos heap_toWhoms heap_topics heap_weights heap_answered heap_deeds heap_size heap_saidBits heap_deedCount) ++ (W_X0 ca aC u)) (wr := ([0] : List Nat).filterMap (fun i => ((W_X7 a aR aT aH aD aK aI aC aS aY r2) ++ (W_X1 ca aH heap_kinds heap_whos heap_toWhoms heap_topics heap_weights heap_answered heap_deeds heap_size heap_saidBits heap_deedCount) ++ (W_X0 ca aC company_tells) : va_W)[i]?)) (n := 11) (va_runV (As := [.ref (aH 0), .int (0 : Int32)]) (rest := []) ⟨hx, hb, hml, hown, hts⟩ (c_X0_inRings l D ca aC aH company_tells heap_kinds heap_whos heap_toWhoms heap_topics heap_weights heap_answered heap_deeds heap_size heap_saidBits heap_deedCount (0 : Int32) _ (hD.subM [9, 10, 1, 2, 3, 4, 5, 6, 7, 8] (by decide) rfl) h) (cwV 2 hts gX7_rings_X0_inRings rfl rfl rfl (by decide +kernel) ⟨Nat.le_of_ble_eq_true rfl, Nat.le_of_ble_eq_true rfl⟩) (PcX.preV (q := (RX0, TX0, 1)) (ci := 0) (q0 := 9) hK hP rfl rfl (hP.subM [9, 10, 1, 2, 3, 4, 5, 6, 7, 8] rfl)) rfl rfl hl.1 rfl (lv_room (Nat.le_of_ble_eq_true rfl)) dX7_rings_23 ⟨Nat.le_of_ble_eq_true rfl, Nat.le_of_ble_eq_true rfl⟩) hP hD hS [9, 10, 1, 2, 3, 4, 5, 6, 7, 8] [0] rfl (fun _ => rfl) rfl (fun _ => rfl) (fun _ => rfl) (fun _ => rfl) (by decide +kernel) (by decide +kernel) (fun r3 u H locs h hP hD hS => ?_)
  obtain ⟨company_tells_4, rfl⟩ : ∃ z, z = u := ⟨u, rfl⟩
  have hP : va_P D vwCl ((W_X7 a aR aT aH aD aK aI aC aS aY r2) ++ (W_X1 ca aH heap_kinds heap_whos heap_toWhoms heap_topics heap_weights heap_answered heap_deeds heap_size heap_saidBits heap_deedCount) ++ (W_X0 ca aC company_tells_4)) H := hP
  have hD : va_D _ ((W_X7 a aR aT aH aD aK aI aC aS aY r2) ++ (W_X1 ca aH heap_kinds heap_whos heap_toWhoms heap_topics heap_weights heap_answered heap_deeds heap_size heap_saidBits heap_deedCount) ++ (W_X0 ca aC company_tells_4)) := hD
  try dsimp only at h
  exact W.iret (v := r3) hx hb hr (fun t ht hW => ⟨⟨r3, (r2, company_tells_4), rfl, h, by rw [ht]; exact hP⟩, hS.F ht⟩) hS.2.2 dX7_rings_26

-- IronedQuarrels.away()I
def wp_X7_away (heap_whos : Nat → Int32) (heap_toWhoms : Nat → Int32) (heap_size : Int32) (heap_saidBits : Int32) (company_tells : Nat → Int32) (post : Int32 → (Int32) → (Nat → Int32) → Prop) : Prop :=
  wp_X0_fewestAway company_tells heap_whos heap_toWhoms heap_size heap_saidBits (fun r1 company_tells_2 => wp_J6_bitCount_0f7a4 r1 (fun r3 => post r3 r1 company_tells_2))
def rm_X7_away : Room := { frames := 5, cells := 0, slots := 0, locals := 114 }
theorem k_X7_away_1 : Cond.fieldLink RX7 45 "IronedQuarrels" "company" "LIronedQuarrels$Company;" ∈ wsX7_away := List.mem_of_getElem? (i := 1) (by decide +kernel)
theorem k_X7_away_2 : Cond.fieldLink RX7 24 "IronedQuarrels" "heap" "LIronedQuarrels$Heap;" ∈ wsX7_away := List.mem_of_getElem? (i := 2) (by decide +kernel)
theorem k_X7_away_3 : Cond.fieldLink RX7 63 "IronedQuarrels" "lastTold" "I" ∈ wsX7_away := List.mem_of_getElem? (i := 3) (by decide +kernel)
theorem hi_X7_away_X0 : ∀ w ∈ wsX00, w ∈ wsX7_away := fun w h => List.mem_cons_of_mem _ (List.mem_append_left _ (List.mem_append_right _ h))
theorem hi_X7_away_X1 : ∀ w ∈ wsX10, w ∈ wsX7_away := fun w h => List.mem_cons_of_mem _ (List.mem_append_right _ h)
theorem hi_X7_away_X7 : ∀ w ∈ wsX70, w ∈ wsX7_away := fun w h => List.mem_cons_of_mem _ (List.mem_append_left _ (List.mem_append_left _ (List.mem_append_right _ h)))
set_option maxHeartbeats 4000000 in
set_option maxRecDepth 100000 in
theorem c_X7_away (l : Launch) (D : va_G) (ca : Nat → ClassId) (a : Nat → Nat) (aR : Nat → Nat) (aT : Nat → Nat) (aH : Nat → Nat) (aD : Nat → Nat) (aK : Nat) (aI : Nat → Nat) (aC : Nat → Nat) (aS : Nat → Nat) (aY : Nat → Nat) (lastTold : Int32) (heap_kinds : Nat → Int32) (heap_whos : Nat → Int32) (heap_toWhoms : Nat → Int32) (heap_topics : Nat → Int32) (heap_weights : Nat → Int32) (heap_answered : Nat → Int32) (heap_deeds : Nat → Int32) (heap_size : Int32) (heap_saidBits : Int32) (heap_deedCount : Int32) (company_tells : Nat → Int32)  (post : Int32 → (Int32) → (Nat → Int32) → Prop) (hd : va_D (fun _ => True) ((W_X7 a aR aT aH aD aK aI aC aS aY lastTold) ++ (W_X1 ca aH heap_kinds heap_whos heap_toWhoms heap_topics heap_weights heap_answered heap_deeds heap_size heap_saidBits heap_deedCount) ++ (W_X0 ca aC company_tells))) (h : wp_X7_away heap_whos heap_toWhoms heap_size heap_saidBits company_tells post) : Met l yX7_away wsX7_away rm_X7_away (PcX D ca [.ref (a 0)] ((W_X7 a aR aT aH aD aK aI aC aS aY lastTold) ++ (W_X1 ca aH heap_kinds heap_whos heap_toWhoms heap_topics heap_weights heap_answered heap_deeds heap_size heap_saidBits heap_deedCount) ++ (W_X0 ca aC company_tells))) (wrI (S := (Int32) × (Nat → Int32)) D ((W_X7 a aR aT aH aD aK aI aC aS aY lastTold) ++ (W_X1 ca aH heap_kinds heap_whos heap_toWhoms heap_topics heap_weights heap_answered heap_deeds heap_size heap_saidBits heap_deedCount) ++ (W_X0 ca aC company_tells)) (fun u => (W_X7 a aR aT aH aD aK aI aC aS aY u.1) ++ (W_X1 ca aH heap_kinds heap_whos heap_toWhoms heap_topics heap_weights heap_answered heap_deeds heap_size heap_saidBits heap_deedCount) ++ (W_X0 ca aC u.2)) (fun r u => post r u.1 u.2)) 0 0 (adr ((W_X7 a aR aT aH aD aK aI aC aS aY lastTold) ++ (W_X1 ca aH heap_kinds heap_whos heap_toWhoms heap_topics heap_weights heap_answered heap_deeds heap_size heap_saidBits heap_deedCount) ++ (W_X0 ca aC company_tells))) := by
  refine Met.ofW (cc := cX7_away) (maxL := 1) (ret := (some .int)) (by decide) rfl ?_
  intro zp ze zs zm za zb zt zc z1 B hml hv
  obtain ⟨rfl, hP, hK⟩ := hv
  have hx := B.exec
  have hb := B.bytes
  have hr := B.returns
  have hts := atoms_spec (ws := wsX7_away) B.pre
  have hown : zs.vm.findClass RX7 = some zm.cls := findClass_of_methodNamed B.named
  have hlocks := B.notSynchronized
  have hD : va_D (adr ((W_X7 a aR aT aH aD aK aI aC aS aY lastTold) ++ (W_X1 ca aH heap_kinds heap_whos heap_toWhoms heap_topics heap_weights heap_answered heap_deeds heap_size heap_saidBits heap_deedCount) ++ (W_X0 ca aC company_tells))) ((W_X7 a aR aT aH aD aK aI aC aS aY lastTold) ++ (W_X1 ca aH heap_kinds heap_whos heap_toWhoms heap_topics heap_weights heap_answered heap_deeds heap_size heap_saidBits heap_deedCount) ++ (W_X0 ca aC company_tells)) := hd.adr
  have hS : va_S (adr ((W_X7 a aR aT aH aD aK aI aC aS aY lastTold) ++ (W_X1 ca aH heap_kinds heap_whos heap_toWhoms heap_topics heap_weights heap_answered heap_deeds heap_size heap_saidBits heap_deedCount) ++ (W_X0 ca aC company_tells))) zs.heap zs.heap [] := va_S.rf
  have hl := lv_entry ([.ref (a 0)]) (n := 1) (Nat.le_of_ble_eq_true rfl)
  rw [lg_entry_eq]
  generalize (lg_sl ([.ref (a 0)]) ++ List.replicate (1 - (lg_sl ([.ref (a 0)])).length) Slot.unset).toArray = ls at hl ⊢
  replace hl : lv_has ls 1 [(0, .ref (a 0))] := hl
  show W zp l ze rm_X7_away zs zm ([.ref (a 0)] : List Value).toArray zb zt zc zs.heap [] 0 0 (MQ zb (wrI (S := (Int32) × (Nat → Int32)) D ((W_X7 a aR aT aH aD aK aI aC aS aY lastTold) ++ (W_X1 ca aH heap_kinds heap_whos heap_toWhoms heap_topics heap_weights heap_answered heap_deeds heap_size heap_saidBits heap_deedCount) ++ (W_X0 ca aC company_tells)) (fun u => (W_X7 a aR aT aH aD aK aI aC aS aY u.1) ++ (W_X1 ca aH heap_kinds heap_whos heap_toWhoms heap_topics heap_weights heap_answered heap_deeds heap_size heap_saidBits heap_deedCount) ++ (W_X0 ca aC u.2)) (fun r u => post r u.1 u.2)) ([.ref (a 0)] : List Value).toArray zs 0 0 (adr ((W_X7 a aR aT aH aD aK aI aC aS aY lastTold) ++ (W_X1 ca aH heap_kinds heap_whos heap_toWhoms heap_topics heap_weights heap_answered heap_deeds heap_size heap_saidBits heap_deedCount) ++ (W_X0 ca aC company_tells)))) (F0 zm 0 ls [])
  unfold wp_X7_away at h
  refine lv_aload_n hx hb dX7_away_0 rfl (lv_at hl 0 rfl) ?_
  refine lv_aload_n hx hb dX7_away_1 rfl (lv_at hl 0 rfl) ?_
  refine va_get (D := D) (ci := 6) (v := .ref (aC 0)) (C := RX7) (T := TX7) (N := 10) hx hb hts hi_X7_away_X7 hown hK.1 hP 0 rfl rfl 6 (by decide) (hts _ k_X7_away_1) (fun _ h9 => h9) rfl dX7_away_2 ?_
  refine lv_aload_n hx hb dX7_away_5 rfl (lv_at hl 0 rfl) ?_
  refine va_get (D := D) (ci := 6) (v := .ref (aH 0)) (C := RX7) (T := TX7) (N := 10) hx hb hts hi_X7_away_X7 hown hK.1 hP 0 rfl rfl 2 (by decide) (hts _ k_X7_away_2) (fun _ h9 => h9) rfl dX7_away_6 ?_
  refine wr_calli (ws1 := fun u => (W_X7 a aR aT aH aD aK aI aC aS aY lastTold) ++ (W_X1 ca aH heap_kinds heap_whos heap_toWhoms heap_topics heap_weights heap_answered heap_deeds heap_size heap_saidBits heap_deedCount) ++ (W_X0 ca aC u)) (wr := ([0] : List Nat).filterMap (fun i => ((W_X7 a aR aT aH aD aK aI aC aS aY lastTold) ++ (W_X1 ca aH heap_kinds heap_whos heap_toWhoms heap_topics heap_weights heap_answered heap_deeds heap_size heap_saidBits heap_deedCount) ++ (W_X0 ca aC company_tells) : va_W)[i]?)) (n := 11) (va_runV (As := [.ref (aH 0)]) (rest := [.ref (a 0)]) ⟨hx, hb, hml, hown, hts⟩ (c_X0_fewestAway l D ca aC aH company_tells heap_kinds heap_whos heap_toWhoms heap_topics heap_weights heap_answered heap_deeds heap_size heap_saidBits heap_deedCount  _ (hD.subM [9, 10, 1, 2, 3, 4, 5, 6, 7, 8] (by decide) rfl) h) (cwV 1 hts gX7_away_X0_fewestAway rfl rfl rfl (by decide +kernel) ⟨Nat.le_of_ble_eq_true rfl, Nat.le_of_ble_eq_true rfl⟩) (PcX.preV (q := (RX0, TX0, 1)) (ci := 0) (q0 := 9) hK hP rfl rfl (hP.subM [9, 10, 1, 2, 3, 4, 5, 6, 7, 8] rfl)) rfl rfl hl.1 rfl (lv_room (Nat.le_of_ble_eq_true rfl)) dX7_away_9 ⟨Nat.le_of_ble_eq_true rfl, Nat.le_of_ble_eq_true rfl⟩) hP hD hS [9, 10, 1, 2, 3, 4, 5, 6, 7, 8] [0] rfl (fun _ => rfl) rfl (fun _ => rfl) (fun _ => rfl) (fun _ => rfl) (by decide +kernel) (by decide +kernel) (fun r1 u H locs h hP hD hS => ?_)
  obtain ⟨company_tells_2, rfl⟩ : ∃ z, z = u := ⟨u, rfl⟩
  have hP : va_P D vwCl ((W_X7 a aR aT aH aD aK aI aC aS aY lastTold) ++ (W_X1 ca aH heap_kinds heap_whos heap_toWhoms heap_topics heap_weights heap_answered heap_deeds heap_size heap_saidBits heap_deedCount) ++ (W_X0 ca aC company_tells_2)) H := hP
  have hD : va_D _ ((W_X7 a aR aT aH aD aK aI aC aS aY lastTold) ++ (W_X1 ca aH heap_kinds heap_whos heap_toWhoms heap_topics heap_weights heap_answered heap_deeds heap_size heap_saidBits heap_deedCount) ++ (W_X0 ca aC company_tells_2)) := hD
  try dsimp only at h
  refine va_put (D := D) (ci := 6) (v := .int r1) (ty := .int) (C := RX7) (T := TX7) (N := 10) hx hb hts hi_X7_away_X7 tyX7 tyX7_ok nmX7 hown hK.1 hP hD hS 0 rfl rfl 9 (by decide) (hts _ k_X7_away_3) (fun _ h9 => h9) rfl (by decide +kernel) rfl rfl (Nat.le_of_ble_eq_true rfl) dX7_away_12 (fun H locs hP hD hS => ?_)
  have hP : va_P D vwCl ((W_X7 a aR aT aH aD aK aI aC aS aY r1) ++ (W_X1 ca aH heap_kinds heap_whos heap_toWhoms heap_topics heap_weights heap_answered heap_deeds heap_size heap_saidBits heap_deedCount) ++ (W_X0 ca aC company_tells_2)) H := hP
  have hD : va_D _ ((W_X7 a aR aT aH aD aK aI aC aS aY r1) ++ (W_X1 ca aH heap_kinds heap_whos heap_toWhoms heap_topics heap_weights heap_answered heap_deeds heap_size heap_saidBits heap_deedCount) ++ (W_X0 ca aC company_tells_2)) := hD
  refine lv_aload_n hx hb dX7_away_15 rfl (lv_at hl 0 rfl) ?_
  refine va_get (D := D) (ci := 6) (v := .int r1) (C := RX7) (T := TX7) (N := 10) hx hb hts hi_X7_away_X7 hown hK.1 hP 0 rfl rfl 9 (by decide) (hts _ k_X7_away_3) (fun _ h9 => h9) rfl dX7_away_16 ?_
  refine rd_calli (va_runS (As := [.int r1]) (rest := []) ⟨hx, hb, hml, hown, hts⟩ (c_J6_bitCount_0f7a4 l D ca   r1 _ h) (va_cwS 1 hts gX7_away_J6_bitCount_0f7a4 rfl rfl rfl (by decide +kernel) ⟨Nat.le_of_ble_eq_true rfl, Nat.le_of_ble_eq_true rfl⟩) (PcX.preS hK (fun k q h => by simp at h)) rfl rfl hl.1 rfl (lv_room (Nat.le_of_ble_eq_true rfl)) dX7_away_19 ⟨Nat.le_of_ble_eq_true rfl, Nat.le_of_ble_eq_true rfl⟩) (fun r3 h => ?_)
  try dsimp only at h
  exact W.iret (v := r3) hx hb hr (fun t ht hW => ⟨⟨r3, (r1, company_tells_2), rfl, h, by rw [ht]; exact hP⟩, hS.F ht⟩) hS.2.2 dX7_away_22

-- IronedQuarrels.whose(I)I
def wp_X7_whose (heap_kinds : Nat → Int32) (heap_whos : Nat → Int32) (heap_toWhoms : Nat → Int32) (heap_answered : Nat → Int32) (heap_size : Int32) (tally_often : Nat → Int32) (tally_latest : Int32) (i : Int32) (post : Int32 → (Nat → Int32) → (Int32) → Prop) : Prop :=
  wp_X1_hasNumber heap_size i (fun r1 => (¬ r1 = 0 → (wp_X1_isOf heap_kinds i (2 : Int32) (fun r2 => (¬ r2 = 0 → (wp_X0_suspects heap_whos heap_toWhoms heap_answered heap_size i (fun r3 => post r3 tally_often tally_latest))) ∧ (r2 = 0 → (wp_X6_note tally_often (3 : Int32) (fun r4 tally_often_5 tally_latest_6 => post r4 tally_often_5 tally_latest_6)))))) ∧ (r1 = 0 → (post (-1 : Int32) tally_often tally_latest)))
def rm_X7_whose : Room := { frames := 3, cells := 0, slots := 0, locals := 67 }
theorem k_X7_whose_1 : Cond.fieldLink RX7 24 "IronedQuarrels" "heap" "LIronedQuarrels$Heap;" ∈ wsX7_whose := List.mem_of_getElem? (i := 1) (by decide +kernel)
theorem k_X7_whose_2 : Cond.fieldLink RX7 59 "IronedQuarrels" "tally" "LIronedQuarrels$Tally;" ∈ wsX7_whose := List.mem_of_getElem? (i := 2) (by decide +kernel)
theorem k_X7_whose_3 : Cond.fieldLink RX7 45 "IronedQuarrels" "company" "LIronedQuarrels$Company;" ∈ wsX7_whose := List.mem_of_getElem? (i := 3) (by decide +kernel)
theorem hi_X7_whose_X1 : ∀ w ∈ wsX10, w ∈ wsX7_whose := fun w h => List.mem_cons_of_mem _ (List.mem_append_left _ (List.mem_append_right _ h))
theorem hi_X7_whose_X6 : ∀ w ∈ wsX60, w ∈ wsX7_whose := fun w h => List.mem_cons_of_mem _ (List.mem_append_right _ h)
theorem hi_X7_whose_X7 : ∀ w ∈ wsX70, w ∈ wsX7_whose := fun w h => List.mem_cons_of_mem _ (List.mem_append_left _ (List.mem_append_left _ (List.mem_append_right _ h)))
set_option maxHeartbeats 4000000 in
set_option maxRecDepth 100000 in
theorem c_X7_whose (l : Launch) (D : va_G) (ca : Nat → ClassId) (a : Nat → Nat) (aR : Nat → Nat) (aT : Nat → Nat) (aH : Nat → Nat) (aD : Nat → Nat) (aK : Nat) (aI : Nat → Nat) (aC : Nat → Nat) (aS : Nat → Nat) (aY : Nat → Nat) (lastTold : Int32) (heap_kinds : Nat → Int32) (heap_whos : Nat → Int32) (heap_toWhoms : Nat → Int32) (heap_topics : Nat → Int32) (heap_weights : Nat → Int32) (heap_answered : Nat → Int32) (heap_deeds : Nat → Int32) (heap_size : Int32) (heap_saidBits : Int32) (heap_deedCount : Int32) (company_tells : Nat → Int32) (tally_often : Nat → Int32) (tally_latest : Int32) (i : Int32) (post : Int32 → (Nat → Int32) → (Int32) → Prop) (hd : va_D (fun _ => True) ((W_X7 a aR aT aH aD aK aI aC aS aY lastTold) ++ (W_X1 ca aH heap_kinds heap_whos heap_toWhoms heap_topics heap_weights heap_answered heap_deeds heap_size heap_saidBits heap_deedCount) ++ (W_X0 ca aC company_tells) ++ (W_X6 ca aY tally_often tally_latest))) (h : wp_X7_whose heap_kinds heap_whos heap_toWhoms heap_answered heap_size tally_often tally_latest i post) : Met l yX7_whose wsX7_whose rm_X7_whose (PcX D ca [.ref (a 0), .int i] ((W_X7 a aR aT aH aD aK aI aC aS aY lastTold) ++ (W_X1 ca aH heap_kinds heap_whos heap_toWhoms heap_topics heap_weights heap_answered heap_deeds heap_size heap_saidBits heap_deedCount) ++ (W_X0 ca aC company_tells) ++ (W_X6 ca aY tally_often tally_latest))) (wrI (S := (Nat → Int32) × (Int32)) D ((W_X7 a aR aT aH aD aK aI aC aS aY lastTold) ++ (W_X1 ca aH heap_kinds heap_whos heap_toWhoms heap_topics heap_weights heap_answered heap_deeds heap_size heap_saidBits heap_deedCount) ++ (W_X0 ca aC company_tells) ++ (W_X6 ca aY tally_often tally_latest)) (fun u => (W_X7 a aR aT aH aD aK aI aC aS aY lastTold) ++ (W_X1 ca aH heap_kinds heap_whos heap_toWhoms heap_topics heap_weights heap_answered heap_deeds heap_size heap_saidBits heap_deedCount) ++ (W_X0 ca aC company_tells) ++ (W_X6 ca aY u.1 u.2)) (fun r u => post r u.1 u.2)) 0 0 (adr ((W_X7 a aR aT aH aD aK aI aC aS aY lastTold) ++ (W_X1 ca aH heap_kinds heap_whos heap_toWhoms heap_topics heap_weights heap_answered heap_deeds heap_size heap_saidBits heap_deedCount) ++ (W_X0 ca aC company_tells) ++ (W_X6 ca aY tally_often tally_latest))) := by
  refine Met.ofW (cc := cX7_whose) (maxL := 2) (ret := (some .int)) (by decide) rfl ?_
  intro zp ze zs zm za zb zt zc z1 B hml hv
  obtain ⟨rfl, hP, hK⟩ := hv
  have hx := B.exec
  have hb := B.bytes
  have hr := B.returns
  have hts := atoms_spec (ws := wsX7_whose) B.pre
  have hown : zs.vm.findClass RX7 = some zm.cls := findClass_of_methodNamed B.named
  have hlocks := B.notSynchronized
  have hD : va_D (adr ((W_X7 a aR aT aH aD aK aI aC aS aY lastTold) ++ (W_X1 ca aH heap_kinds heap_whos heap_toWhoms heap_topics heap_weights heap_answered heap_deeds heap_size heap_saidBits heap_deedCount) ++ (W_X0 ca aC company_tells) ++ (W_X6 ca aY tally_often tally_latest))) ((W_X7 a aR aT aH aD aK aI aC aS aY lastTold) ++ (W_X1 ca aH heap_kinds heap_whos heap_toWhoms heap_topics heap_weights heap_answered heap_deeds heap_size heap_saidBits heap_deedCount) ++ (W_X0 ca aC company_tells) ++ (W_X6 ca aY tally_often tally_latest)) := hd.adr
  have hS : va_S (adr ((W_X7 a aR aT aH aD aK aI aC aS aY lastTold) ++ (W_X1 ca aH heap_kinds heap_whos heap_toWhoms heap_topics heap_weights heap_answered heap_deeds heap_size heap_saidBits heap_deedCount) ++ (W_X0 ca aC company_tells) ++ (W_X6 ca aY tally_often tally_latest))) zs.heap zs.heap [] := va_S.rf
  have hl := lv_entry ([.ref (a 0), .int i]) (n := 2) (Nat.le_of_ble_eq_true rfl)
  rw [lg_entry_eq]
  generalize (lg_sl ([.ref (a 0), .int i]) ++ List.replicate (2 - (lg_sl ([.ref (a 0), .int i])).length) Slot.unset).toArray = ls at hl ⊢
  replace hl : lv_has ls 2 [(0, .ref (a 0)), (1, .int i)] := hl
  show W zp l ze rm_X7_whose zs zm ([.ref (a 0), .int i] : List Value).toArray zb zt zc zs.heap [] 0 0 (MQ zb (wrI (S := (Nat → Int32) × (Int32)) D ((W_X7 a aR aT aH aD aK aI aC aS aY lastTold) ++ (W_X1 ca aH heap_kinds heap_whos heap_toWhoms heap_topics heap_weights heap_answered heap_deeds heap_size heap_saidBits heap_deedCount) ++ (W_X0 ca aC company_tells) ++ (W_X6 ca aY tally_often tally_latest)) (fun u => (W_X7 a aR aT aH aD aK aI aC aS aY lastTold) ++ (W_X1 ca aH heap_kinds heap_whos heap_toWhoms heap_topics heap_weights heap_answered heap_deeds heap_size heap_saidBits heap_deedCount) ++ (W_X0 ca aC company_tells) ++ (W_X6 ca aY u.1 u.2)) (fun r u => post r u.1 u.2)) ([.ref (a 0), .int i] : List Value).toArray zs 0 0 (adr ((W_X7 a aR aT aH aD aK aI aC aS aY lastTold) ++ (W_X1 ca aH heap_kinds heap_whos heap_toWhoms heap_topics heap_weights heap_answered heap_deeds heap_size heap_saidBits heap_deedCount) ++ (W_X0 ca aC company_tells) ++ (W_X6 ca aY tally_often tally_latest)))) (F0 zm 0 ls [])
  unfold wp_X7_whose at h
  refine lv_aload_n hx hb dX7_whose_0 rfl (lv_at hl 0 rfl) ?_
  refine va_get (D := D) (ci := 6) (v := .ref (aH 0)) (C := RX7) (T := TX7) (N := 10) hx hb hts hi_X7_whose_X7 hown hK.1 hP 0 rfl rfl 2 (by decide) (hts _ k_X7_whose_1) (fun _ h9 => h9) rfl dX7_whose_1 ?_
  refine lv_iload_n hx hb dX7_whose_4 rfl (lv_at hl 1 rfl) ?_
  refine rd_callz (va_runV (As := [.int i]) (rest := []) ⟨hx, hb, hml, hown, hts⟩ (c_X1_hasNumber l D ca aH heap_kinds heap_whos heap_toWhoms heap_topics heap_weights heap_answered heap_deeds heap_size heap_saidBits heap_deedCount i _ h) (cwV 1 hts gX7_whose_X1_hasNumber rfl rfl rfl (by decide +kernel) ⟨Nat.le_of_ble_eq_true rfl, Nat.le_of_ble_eq_true rfl⟩) (PcX.preV (q := (RX1, TX1, 10)) (ci := 1) (q0 := 1) hK hP rfl rfl (hP.subM [1, 2, 3, 4, 5, 6, 7, 8] rfl)) rfl rfl hl.1 rfl (lv_room (Nat.le_of_ble_eq_true rfl)) dX7_whose_5 ⟨Nat.le_of_ble_eq_true rfl, Nat.le_of_ble_eq_true rfl⟩) (fun r1 h hz_r1 => ?_)
  try dsimp only at h
  refine lv_if_ne (tgt := 13) hx hb dX7_whose_8 (by decide) (fun hc => ?_) (fun hc => ?_)
  · have h := h.1 hc
    refine lv_aload_n hx hb dX7_whose_13 rfl (lv_at hl 0 rfl) ?_
    refine va_get (D := D) (ci := 6) (v := .ref (aH 0)) (C := RX7) (T := TX7) (N := 10) hx hb hts hi_X7_whose_X7 hown hK.1 hP 0 rfl rfl 2 (by decide) (hts _ k_X7_whose_1) (fun _ h9 => h9) rfl dX7_whose_14 ?_
    refine lv_iload_n hx hb dX7_whose_17 rfl (lv_at hl 1 rfl) ?_
    refine lv_iconst (v := (2)) hx hb dX7_whose_18 (by decide) ?_
    refine rd_callz (va_runV (As := [.int i, .int (2 : Int32)]) (rest := []) ⟨hx, hb, hml, hown, hts⟩ (c_X1_isOf l D ca aH heap_kinds heap_whos heap_toWhoms heap_topics heap_weights heap_answered heap_deeds heap_size heap_saidBits heap_deedCount i (2 : Int32) _ h) (cwV 2 hts gX7_whose_X1_isOf rfl rfl rfl (by decide +kernel) ⟨Nat.le_of_ble_eq_true rfl, Nat.le_of_ble_eq_true rfl⟩) (PcX.preV (q := (RX1, TX1, 10)) (ci := 1) (q0 := 1) hK hP rfl rfl (hP.subM [1, 2, 3, 4, 5, 6, 7, 8] rfl)) rfl rfl hl.1 rfl (lv_room (Nat.le_of_ble_eq_true rfl)) dX7_whose_19 ⟨Nat.le_of_ble_eq_true rfl, Nat.le_of_ble_eq_true rfl⟩) (fun r2 h hz_r2 => ?_)
    try dsimp only at h
    refine lv_if_ne (tgt := 34) hx hb dX7_whose_22 (by decide) (fun hc => ?_) (fun hc => ?_)
    · have h := h.1 hc
      refine lv_aload_n hx hb dX7_whose_34 rfl (lv_at hl 0 rfl) ?_
      refine va_get (D := D) (ci := 6) (v := .ref (aC 0)) (C := RX7) (T := TX7) (N := 10) hx hb hts hi_X7_whose_X7 hown hK.1 hP 0 rfl rfl 6 (by decide) (hts _ k_X7_whose_3) (fun _ h9 => h9) rfl dX7_whose_35 ?_
      refine lv_aload_n hx hb dX7_whose_38 rfl (lv_at hl 0 rfl) ?_
      refine va_get (D := D) (ci := 6) (v := .ref (aH 0)) (C := RX7) (T := TX7) (N := 10) hx hb hts hi_X7_whose_X7 hown hK.1 hP 0 rfl rfl 2 (by decide) (hts _ k_X7_whose_1) (fun _ h9 => h9) rfl dX7_whose_39 ?_
      refine lv_iload_n hx hb dX7_whose_42 rfl (lv_at hl 1 rfl) ?_
      refine rd_calli (va_runV (As := [.ref (aH 0), .int i]) (rest := []) ⟨hx, hb, hml, hown, hts⟩ (c_X0_suspects l D ca aC aH company_tells heap_kinds heap_whos heap_toWhoms heap_topics heap_weights heap_answered heap_deeds heap_size heap_saidBits heap_deedCount i _ h) (cwV 2 hts gX7_whose_X0_suspects rfl rfl rfl (by decide +kernel) ⟨Nat.le_of_ble_eq_true rfl, Nat.le_of_ble_eq_true rfl⟩) (PcX.preV (q := (RX0, TX0, 1)) (ci := 0) (q0 := 9) hK hP rfl rfl (hP.subM [9, 10, 1, 2, 3, 4, 5, 6, 7, 8] rfl)) rfl rfl hl.1 rfl (lv_room (Nat.le_of_ble_eq_true rfl)) dX7_whose_43 ⟨Nat.le_of_ble_eq_true rfl, Nat.le_of_ble_eq_true rfl⟩) (fun r3 h => ?_)
      try dsimp only at h
      exact W.iret (v := r3) hx hb hr (fun t ht hW => ⟨⟨r3, (tally_often, tally_latest), rfl, h, by rw [ht]; exact hP⟩, hS.F ht⟩) hS.2.2 dX7_whose_46
    · have h := h.2 hc
      refine lv_aload_n hx hb dX7_whose_25 rfl (lv_at hl 0 rfl) ?_
      refine va_get (D := D) (ci := 6) (v := .ref (aY 0)) (C := RX7) (T := TX7) (N := 10) hx hb hts hi_X7_whose_X7 hown hK.1 hP 0 rfl rfl 8 (by decide) (hts _ k_X7_whose_2) (fun _ h9 => h9) rfl dX7_whose_26 ?_
      refine lv_iconst (v := (3)) hx hb dX7_whose_29 (by decide) ?_
      refine wr_calli (ws1 := fun u => (W_X7 a aR aT aH aD aK aI aC aS aY lastTold) ++ (W_X1 ca aH heap_kinds heap_whos heap_toWhoms heap_topics heap_weights heap_answered heap_deeds heap_size heap_saidBits heap_deedCount) ++ (W_X0 ca aC company_tells) ++ (W_X6 ca aY u.1 u.2)) (wr := ([0, 1, 2, 3, 4, 5, 6, 7, 8, 9, 10] : List Nat).filterMap (fun i => ((W_X7 a aR aT aH aD aK aI aC aS aY lastTold) ++ (W_X1 ca aH heap_kinds heap_whos heap_toWhoms heap_topics heap_weights heap_answered heap_deeds heap_size heap_saidBits heap_deedCount) ++ (W_X0 ca aC company_tells) ++ (W_X6 ca aY tally_often tally_latest) : va_W)[i]?)) (n := 13) (va_runV (As := [.int (3 : Int32)]) (rest := []) ⟨hx, hb, hml, hown, hts⟩ (c_X6_note l D ca aY tally_often tally_latest (3 : Int32) _ (hD.subM [11, 12] (by decide) rfl) h) (cwV 1 hts gX7_whose_X6_note rfl rfl rfl (by decide +kernel) ⟨Nat.le_of_ble_eq_true rfl, Nat.le_of_ble_eq_true rfl⟩) (PcX.preV (q := (RX6, TX6, 2)) (ci := 5) (q0 := 11) hK hP rfl rfl (hP.subM [11, 12] rfl)) rfl rfl hl.1 rfl (lv_room (Nat.le_of_ble_eq_true rfl)) dX7_whose_30 ⟨Nat.le_of_ble_eq_true rfl, Nat.le_of_ble_eq_true rfl⟩) hP hD hS [11, 12] [0, 1, 2, 3, 4, 5, 6, 7, 8, 9, 10] rfl (fun _ => rfl) rfl (fun _ => rfl) (fun _ => rfl) (fun _ => rfl) (by decide +kernel) (by decide +kernel) (fun r4 u H locs h hP hD hS => ?_)
      obtain ⟨tally_often_5, tally_latest_6⟩ := u
      have hP : va_P D vwCl ((W_X7 a aR aT aH aD aK aI aC aS aY lastTold) ++ (W_X1 ca aH heap_kinds heap_whos heap_toWhoms heap_topics heap_weights heap_answered heap_deeds heap_size heap_saidBits heap_deedCount) ++ (W_X0 ca aC company_tells) ++ (W_X6 ca aY tally_often_5 tally_latest_6)) H := hP
      have hD : va_D _ ((W_X7 a aR aT aH aD aK aI aC aS aY lastTold) ++ (W_X1 ca aH heap_kinds heap_whos heap_toWhoms heap_topics heap_weights heap_answered heap_deeds heap_size heap_saidBits heap_deedCount) ++ (W_X0 ca aC company_tells) ++ (W_X6 ca aY tally_often_5 tally_latest_6)) := hD
      try dsimp only at h
      exact W.iret (v := r4) hx hb hr (fun t ht hW => ⟨⟨r4, (tally_often_5, tally_latest_6), rfl, h, by rw [ht]; exact hP⟩, hS.F ht⟩) hS.2.2 dX7_whose_33
  · have h := h.2 hc
    refine lv_iconst (v := (-1)) hx hb dX7_whose_11 (by decide) ?_
    exact W.iret (v := (-1 : Int32)) hx hb hr (fun t ht hW => ⟨⟨(-1 : Int32), (tally_often, tally_latest), rfl, h, by rw [ht]; exact hP⟩, hS.F ht⟩) hS.2.2 dX7_whose_12

-- IronedQuarrels.wash()I
def wb_X7_wash_14 (heap_whos : Nat → Int32) (heap_toWhoms : Nat → Int32) (heap_answered : Nat → Int32) (heap_size : Int32) (heap_saidBits : Int32) (K4 : (Int32) → (Int32) → Prop) (K14 : (Int32) → (Int32) → (Int32) → Prop) (x1 : Int32) (x2 : Int32) (x3 : Int32) : Prop :=
  ((6 : Int32) ≤ x3 → (K4 x1 (x2 + 1))) ∧ (¬ (6 : Int32) ≤ x3 → (wp_X1_saidBeginnings heap_whos heap_toWhoms heap_answered heap_size heap_saidBits x2 x3 (fun r1 => wp_X1_saidBeginnings heap_whos heap_toWhoms heap_answered heap_size heap_saidBits x3 x2 (fun r2 => K14 (x1 + (if r2 < r1 then r2 else r1)) x2 (x3 + 1)))))
def wl_X7_wash_14 (heap_whos : Nat → Int32) (heap_toWhoms : Nat → Int32) (heap_answered : Nat → Int32) (heap_size : Int32) (heap_saidBits : Int32) (K4 : (Int32) → (Int32) → Prop) : Nat → (Int32) → (Int32) → (Int32) → Prop
  | 0 => fun _ _ _ => False
  | zn + 1 => wb_X7_wash_14 heap_whos heap_toWhoms heap_answered heap_size heap_saidBits K4 (wl_X7_wash_14 heap_whos heap_toWhoms heap_answered heap_size heap_saidBits K4 zn)
def wb_X7_wash_4 (heap_whos : Nat → Int32) (heap_toWhoms : Nat → Int32) (heap_answered : Nat → Int32) (heap_size : Int32) (heap_saidBits : Int32) (post : Int32 → Prop) (K4 : (Int32) → (Int32) → Prop) (x1 : Int32) (x2 : Int32) : Prop :=
  ((6 : Int32) ≤ x2 → (post x1)) ∧ (¬ (6 : Int32) ≤ x2 → (∃ zn, wl_X7_wash_14 heap_whos heap_toWhoms heap_answered heap_size heap_saidBits K4 zn x1 x2 (x2 + (1 : Int32))))
def wl_X7_wash_4 (heap_whos : Nat → Int32) (heap_toWhoms : Nat → Int32) (heap_answered : Nat → Int32) (heap_size : Int32) (heap_saidBits : Int32) (post : Int32 → Prop) : Nat → (Int32) → (Int32) → Prop
  | 0 => fun _ _ => False
  | zn + 1 => wb_X7_wash_4 heap_whos heap_toWhoms heap_answered heap_size heap_saidBits post (wl_X7_wash_4 heap_whos heap_toWhoms heap_answered heap_size heap_saidBits post zn)
def wp_X7_wash (heap_whos : Nat → Int32) (heap_toWhoms : Nat → Int32) (heap_answered : Nat → Int32) (heap_size : Int32) (heap_saidBits : Int32) (post : Int32 → Prop) : Prop :=
  ∃ zn, wl_X7_wash_4 heap_whos heap_toWhoms heap_answered heap_size heap_saidBits post zn (0 : Int32) (0 : Int32)
def rm_X7_wash : Room := { frames := 3, cells := 0, slots := 0, locals := 66 }
theorem k_X7_wash_1 : Cond.fieldLink RX7 24 "IronedQuarrels" "heap" "LIronedQuarrels$Heap;" ∈ wsX7_wash := List.mem_of_getElem? (i := 1) (by decide +kernel)
theorem k_X7_wash_2 : Cond.methodLink RX7 265 Lib.Math.min.name ∈ wsX7_wash := List.mem_of_getElem? (i := 2) (by decide +kernel)
theorem k_X7_wash_3 : Cond.static Lib.Math.min.name ∈ wsX7_wash := List.mem_of_getElem? (i := 3) (by decide +kernel)
theorem k_X7_wash_4 : Cond.initialized "java/lang/Math" ∈ wsX7_wash := List.mem_of_getElem? (i := 4) (by decide +kernel)
theorem k_X7_wash_5 : Cond.code Lib.Math.min.name Lib.Math.min.code 2 (some .int) ∈ wsX7_wash := List.mem_of_getElem? (i := 5) (by decide +kernel)
theorem hi_X7_wash_X1 : ∀ w ∈ wsX10, w ∈ wsX7_wash := fun w h => List.mem_cons_of_mem _ (List.mem_append_right _ h)
theorem hi_X7_wash_X7 : ∀ w ∈ wsX70, w ∈ wsX7_wash := fun w h => List.mem_cons_of_mem _ (List.mem_append_left _ (List.mem_append_right _ h))
set_option maxHeartbeats 4000000 in
set_option maxRecDepth 100000 in
theorem c_X7_wash (l : Launch) (D : va_G) (ca : Nat → ClassId) (a : Nat → Nat) (aR : Nat → Nat) (aT : Nat → Nat) (aH : Nat → Nat) (aD : Nat → Nat) (aK : Nat) (aI : Nat → Nat) (aC : Nat → Nat) (aS : Nat → Nat) (aY : Nat → Nat) (lastTold : Int32) (heap_kinds : Nat → Int32) (heap_whos : Nat → Int32) (heap_toWhoms : Nat → Int32) (heap_topics : Nat → Int32) (heap_weights : Nat → Int32) (heap_answered : Nat → Int32) (heap_deeds : Nat → Int32) (heap_size : Int32) (heap_saidBits : Int32) (heap_deedCount : Int32)  (post : Int32 → Prop) (h : wp_X7_wash heap_whos heap_toWhoms heap_answered heap_size heap_saidBits post) : Met l yX7_wash wsX7_wash rm_X7_wash (PcX D ca [.ref (a 0)] ((W_X7 a aR aT aH aD aK aI aC aS aY lastTold) ++ (W_X1 ca aH heap_kinds heap_whos heap_toWhoms heap_topics heap_weights heap_answered heap_deeds heap_size heap_saidBits heap_deedCount))) (rdI post) 0 0 (fun _ => False) := by
  refine Met.ofW (cc := cX7_wash) (maxL := 4) (ret := (some .int)) (by decide) rfl ?_
  intro zp ze zs zm za zb zt zc z1 B hml hv
  obtain ⟨rfl, hP, hK⟩ := hv
  have hx := B.exec
  have hb := B.bytes
  have hr := B.returns
  have hts := atoms_spec (ws := wsX7_wash) B.pre
  have hown : zs.vm.findClass RX7 = some zm.cls := findClass_of_methodNamed B.named
  have hlocks := B.notSynchronized
  have hl := lv_entry ([.ref (a 0)]) (n := 4) (Nat.le_of_ble_eq_true rfl)
  rw [lg_entry_eq]
  generalize (lg_sl ([.ref (a 0)]) ++ List.replicate (4 - (lg_sl ([.ref (a 0)])).length) Slot.unset).toArray = ls at hl ⊢
  replace hl : lv_has ls 4 [(0, .ref (a 0))] := hl
  show W zp l ze rm_X7_wash zs zm ([.ref (a 0)] : List Value).toArray zb zt zc zs.heap [] 0 0 (MQ zb (rdI post) ([.ref (a 0)] : List Value).toArray zs 0 0 (fun _ => False)) (F0 zm 0 ls [])
  have w_14 : ∀ (K4 : (Int32) → (Int32) → Prop) (ih4 : ∀ (x1 : Int32) (x2 : Int32), K4 x1 x2 → ∀ ls : Array Slot, lv_has ls 4 [(0, .ref (a 0)), (1, .int x1), (2, .int x2)] → W zp l ze rm_X7_wash zs zm ([.ref (a 0)] : List Value).toArray zb zt zc zs.heap [] 0 0 (MQ zb (rdI post) ([.ref (a 0)] : List Value).toArray zs 0 0 (fun _ => False)) (F0 zm 4 ls [])) (zn : Nat) (x1 : Int32) (x2 : Int32) (x3 : Int32), wl_X7_wash_14 heap_whos heap_toWhoms heap_answered heap_size heap_saidBits K4 zn x1 x2 x3 → ∀ ls : Array Slot, lv_has ls 4 [(0, .ref (a 0)), (1, .int x1), (2, .int x2), (3, .int x3)] → W zp l ze rm_X7_wash zs zm ([.ref (a 0)] : List Value).toArray zb zt zc zs.heap [] 0 0 (MQ zb (rdI post) ([.ref (a 0)] : List Value).toArray zs 0 0 (fun _ => False)) (F0 zm 14 ls []) := by
    intro K4 ih4 zn
    induction zn with
    | zero => intro x1 x2 x3 h; exact h.elim
    | succ zn ih14 =>
      intro x1 x2 x3 h ls hl
      replace h : wb_X7_wash_14 heap_whos heap_toWhoms heap_answered heap_size heap_saidBits K4 (wl_X7_wash_14 heap_whos heap_toWhoms heap_answered heap_size heap_saidBits K4 zn) x1 x2 x3 := h
      unfold wb_X7_wash_14 at h
      refine lv_iload_n hx hb dX7_wash_14 rfl (lv_at hl 3 rfl) ?_
      refine lv_bipush (v := (6)) hx hb dX7_wash_15 (by decide) ?_
      refine lv_icmp_ge (tgt := 50) hx hb dX7_wash_17 (by decide) (fun hc => ?_) (fun hc => ?_)
      · have h := h.1 hc
        refine lv_iinc (v := x2 + 1) (lv' := [(2, .int (x2 + 1)), (0, .ref (a 0)), (1, .int x1), (3, .int x3)]) hx hb dX7_wash_50 hl (k := 2) rfl rfl (by decide) rfl (fun ls hl => ?_)
        refine lv_goto (tgt := 4) hx hb dX7_wash_53 (by decide) ?_
        exact ih4 x1 (x2 + 1) h ls (lv_sub hl [1, 2, 0] rfl)
      · have h := h.2 hc
        refine lv_iload_n hx hb dX7_wash_20 rfl (lv_at hl 1 rfl) ?_
        refine lv_aload_n hx hb dX7_wash_21 rfl (lv_at hl 0 rfl) ?_
        refine va_get (D := D) (ci := 6) (v := .ref (aH 0)) (C := RX7) (T := TX7) (N := 10) hx hb hts hi_X7_wash_X7 hown hK.1 hP 0 rfl rfl 2 (by decide) (hts _ k_X7_wash_1) (fun _ h9 => h9) rfl dX7_wash_22 ?_
        refine lv_iload_n hx hb dX7_wash_25 rfl (lv_at hl 2 rfl) ?_
        refine lv_iload_n hx hb dX7_wash_26 rfl (lv_at hl 3 rfl) ?_
        refine rd_calli (va_runV (As := [.int x2, .int x3]) (rest := [.int x1]) ⟨hx, hb, hml, hown, hts⟩ (c_X1_saidBeginnings l D ca aH heap_kinds heap_whos heap_toWhoms heap_topics heap_weights heap_answered heap_deeds heap_size heap_saidBits heap_deedCount x2 x3 _ h) (cwV 2 hts gX7_wash_X1_saidBeginnings rfl rfl rfl (by decide +kernel) ⟨Nat.le_of_ble_eq_true rfl, Nat.le_of_ble_eq_true rfl⟩) (PcX.preV (q := (RX1, TX1, 10)) (ci := 1) (q0 := 1) hK hP rfl rfl (hP.subM [1, 2, 3, 4, 5, 6, 7, 8] rfl)) rfl rfl hl.1 rfl (lv_room (Nat.le_of_ble_eq_true rfl)) dX7_wash_27 ⟨Nat.le_of_ble_eq_true rfl, Nat.le_of_ble_eq_true rfl⟩) (fun r1 h => ?_)
        try dsimp only at h
        refine lv_aload_n hx hb dX7_wash_30 rfl (lv_at hl 0 rfl) ?_
        refine va_get (D := D) (ci := 6) (v := .ref (aH 0)) (C := RX7) (T := TX7) (N := 10) hx hb hts hi_X7_wash_X7 hown hK.1 hP 0 rfl rfl 2 (by decide) (hts _ k_X7_wash_1) (fun _ h9 => h9) rfl dX7_wash_31 ?_
        refine lv_iload_n hx hb dX7_wash_34 rfl (lv_at hl 3 rfl) ?_
        refine lv_iload_n hx hb dX7_wash_35 rfl (lv_at hl 2 rfl) ?_
        refine rd_calli (va_runV (As := [.int x3, .int x2]) (rest := [.int r1, .int x1]) ⟨hx, hb, hml, hown, hts⟩ (c_X1_saidBeginnings l D ca aH heap_kinds heap_whos heap_toWhoms heap_topics heap_weights heap_answered heap_deeds heap_size heap_saidBits heap_deedCount x3 x2 _ h) (cwV 2 hts gX7_wash_X1_saidBeginnings rfl rfl rfl (by decide +kernel) ⟨Nat.le_of_ble_eq_true rfl, Nat.le_of_ble_eq_true rfl⟩) (PcX.preV (q := (RX1, TX1, 10)) (ci := 1) (q0 := 1) hK hP rfl rfl (hP.subM [1, 2, 3, 4, 5, 6, 7, 8] rfl)) rfl rfl hl.1 rfl (lv_room (Nat.le_of_ble_eq_true rfl)) dX7_wash_36 ⟨Nat.le_of_ble_eq_true rfl, Nat.le_of_ble_eq_true rfl⟩) (fun r2 h => ?_)
        try dsimp only at h
        refine va_mmin hx hb (by rw [hml]; exact hl.1.symm) hown (hts _ k_X7_wash_2) (hts _ k_X7_wash_3) (hts _ k_X7_wash_4) (hts _ k_X7_wash_5) (Nat.le_of_ble_eq_true rfl) (Nat.le_of_ble_eq_true rfl) (Nat.le_of_ble_eq_true rfl) (Nat.le_of_ble_eq_true rfl) dX7_wash_39 ?_
        refine lv_iadd hx hb dX7_wash_42 ?_
        refine lv_istore_n (lv' := [(1, .int (x1 + (if r2 < r1 then r2 else r1))), (0, .ref (a 0)), (2, .int x2), (3, .int x3)]) hx hb dX7_wash_43 rfl hl (by decide) rfl (fun ls hl => ?_)
        refine lv_iinc (v := x3 + 1) (lv' := [(3, .int (x3 + 1)), (1, .int (x1 + (if r2 < r1 then r2 else r1))), (0, .ref (a 0)), (2, .int x2)]) hx hb dX7_wash_44 hl (k := 3) rfl rfl (by decide) rfl (fun ls hl => ?_)
        refine lv_goto (tgt := 14) hx hb dX7_wash_47 (by decide) ?_
        exact ih14 (x1 + (if r2 < r1 then r2 else r1)) x2 (x3 + 1) h ls (lv_sub hl [2, 1, 3, 0] rfl)
  have w_4 : ∀ (zn : Nat) (x1 : Int32) (x2 : Int32), wl_X7_wash_4 heap_whos heap_toWhoms heap_answered heap_size heap_saidBits post zn x1 x2 → ∀ ls : Array Slot, lv_has ls 4 [(0, .ref (a 0)), (1, .int x1), (2, .int x2)] → W zp l ze rm_X7_wash zs zm ([.ref (a 0)] : List Value).toArray zb zt zc zs.heap [] 0 0 (MQ zb (rdI post) ([.ref (a 0)] : List Value).toArray zs 0 0 (fun _ => False)) (F0 zm 4 ls []) := by
    intro zn
    induction zn with
    | zero => intro x1 x2 h; exact h.elim
    | succ zn ih4 =>
      intro x1 x2 h ls hl
      replace h : wb_X7_wash_4 heap_whos heap_toWhoms heap_answered heap_size heap_saidBits post (wl_X7_wash_4 heap_whos heap_toWhoms heap_answered heap_size heap_saidBits post zn) x1 x2 := h
      unfold wb_X7_wash_4 at h
      refine lv_iload_n hx hb dX7_wash_4 rfl (lv_at hl 2 rfl) ?_
      refine lv_bipush (v := (6)) hx hb dX7_wash_5 (by decide) ?_
      refine lv_icmp_ge (tgt := 56) hx hb dX7_wash_7 (by decide) (fun hc => ?_) (fun hc => ?_)
      · have h := h.1 hc
        refine lv_iload_n hx hb dX7_wash_56 rfl (lv_at hl 1 rfl) ?_
        exact W.iret (v := x1) hx hb hr (fun t ht hW => ⟨x1, rfl, h, ht⟩) (fun q hq => absurd hq List.not_mem_nil) dX7_wash_57
      · have h := h.2 hc
        refine lv_iload_n hx hb dX7_wash_10 rfl (lv_at hl 2 rfl) ?_
        refine lv_iconst (v := (1)) hx hb dX7_wash_11 (by decide) ?_
        refine lv_iadd hx hb dX7_wash_12 ?_
        refine lv_istore_n (lv' := [(3, .int (x2 + (1 : Int32))), (0, .ref (a 0)), (1, .int x1), (2, .int x2)]) hx hb dX7_wash_13 rfl hl (by decide) rfl (fun ls hl => ?_)
        obtain ⟨zn, h⟩ := h
        exact w_14 _ ih4 zn x1 x2 (x2 + (1 : Int32)) h ls (lv_sub hl [1, 2, 3, 0] rfl)
  unfold wp_X7_wash at h
  refine lv_iconst (v := (0)) hx hb dX7_wash_0 (by decide) ?_
  refine lv_istore_n (lv' := [(1, .int (0 : Int32)), (0, .ref (a 0))]) hx hb dX7_wash_1 rfl hl (by decide) rfl (fun ls hl => ?_)
  refine lv_iconst (v := (0)) hx hb dX7_wash_2 (by decide) ?_
  refine lv_istore_n (lv' := [(2, .int (0 : Int32)), (1, .int (0 : Int32)), (0, .ref (a 0))]) hx hb dX7_wash_3 rfl hl (by decide) rfl (fun ls hl => ?_)
  obtain ⟨zn, h⟩ := h
  exact w_4  zn (0 : Int32) (0 : Int32) h ls (lv_sub hl [2, 1, 0] rfl)

-- IronedQuarrels.bill(I)I
def wp_X7_bill (heap_kinds : Nat → Int32) (heap_whos : Nat → Int32) (heap_toWhoms : Nat → Int32) (heap_topics : Nat → Int32) (heap_weights : Nat → Int32) (heap_answered : Nat → Int32) (heap_size : Int32) (heap_saidBits : Int32) (share_top : Int64) (share_bottom : Int64) (tally_often : Nat → Int32) (tally_latest : Int32) (p : Int32) (post : Int32 → (Int64) → (Int64) → (Nat → Int32) → (Int32) → Prop) : Prop :=
  wp_X0_hasNumber p (fun r1 => (¬ r1 = 0 → (wp_X1_saidBits heap_saidBits (fun r2 => (¬ r2 = 0 → (wp_X1_begunBy heap_whos heap_answered heap_size p (fun r3 => wp_X1_pricesOf heap_kinds heap_whos heap_toWhoms heap_topics heap_weights heap_size heap_saidBits (r2 &&& r3) (fun r4 => wp_X1_pricesOf heap_kinds heap_whos heap_toWhoms heap_topics heap_weights heap_size heap_saidBits r2 (fun r5 => wp_X4_tell r4.toInt64 r5.toInt64 (fun share_top_6 share_bottom_7 => post (1 : Int32) share_top_6 share_bottom_7 tally_often tally_latest)))))) ∧ (r2 = 0 → (wp_X6_note tally_often (4 : Int32) (fun r8 tally_often_9 tally_latest_10 => post r8 share_top share_bottom tally_often_9 tally_latest_10)))))) ∧ (r1 = 0 → (post (-1 : Int32) share_top share_bottom tally_often tally_latest)))
def rm_X7_bill : Room := { frames := 5, cells := 0, slots := 0, locals := 110 }
theorem k_X7_bill_1 : Cond.fieldLink RX7 45 "IronedQuarrels" "company" "LIronedQuarrels$Company;" ∈ wsX7_bill := List.mem_of_getElem? (i := 1) (by decide +kernel)
theorem k_X7_bill_2 : Cond.fieldLink RX7 24 "IronedQuarrels" "heap" "LIronedQuarrels$Heap;" ∈ wsX7_bill := List.mem_of_getElem? (i := 2) (by decide +kernel)
theorem k_X7_bill_3 : Cond.fieldLink RX7 59 "IronedQuarrels" "tally" "LIronedQuarrels$Tally;" ∈ wsX7_bill := List.mem_of_getElem? (i := 3) (by decide +kernel)
theorem k_X7_bill_4 : Cond.fieldLink RX7 52 "IronedQuarrels" "share" "LIronedQuarrels$Share;" ∈ wsX7_bill := List.mem_of_getElem? (i := 4) (by decide +kernel)
theorem hi_X7_bill_X1 : ∀ w ∈ wsX10, w ∈ wsX7_bill := fun w h => List.mem_cons_of_mem _ (List.mem_append_left _ (List.mem_append_left _ (List.mem_append_right _ h)))
theorem hi_X7_bill_X4 : ∀ w ∈ wsX40, w ∈ wsX7_bill := fun w h => List.mem_cons_of_mem _ (List.mem_append_right _ h)
theorem hi_X7_bill_X6 : ∀ w ∈ wsX60, w ∈ wsX7_bill := fun w h => List.mem_cons_of_mem _ (List.mem_append_left _ (List.mem_append_right _ h))
theorem hi_X7_bill_X7 : ∀ w ∈ wsX70, w ∈ wsX7_bill := fun w h => List.mem_cons_of_mem _ (List.mem_append_left _ (List.mem_append_left _ (List.mem_append_left _ (List.mem_append_right _ h))))
set_option maxHeartbeats 4000000 in
set_option maxRecDepth 100000 in
theorem c_X7_bill (l : Launch) (D : va_G) (ca : Nat → ClassId) (a : Nat → Nat) (aR : Nat → Nat) (aT : Nat → Nat) (aH : Nat → Nat) (aD : Nat → Nat) (aK : Nat) (aI : Nat → Nat) (aC : Nat → Nat) (aS : Nat → Nat) (aY : Nat → Nat) (lastTold : Int32) (heap_kinds : Nat → Int32) (heap_whos : Nat → Int32) (heap_toWhoms : Nat → Int32) (heap_topics : Nat → Int32) (heap_weights : Nat → Int32) (heap_answered : Nat → Int32) (heap_deeds : Nat → Int32) (heap_size : Int32) (heap_saidBits : Int32) (heap_deedCount : Int32) (company_tells : Nat → Int32) (share_top : Int64) (share_bottom : Int64) (tally_often : Nat → Int32) (tally_latest : Int32) (p : Int32) (post : Int32 → (Int64) → (Int64) → (Nat → Int32) → (Int32) → Prop) (hd : va_D (fun _ => True) ((W_X7 a aR aT aH aD aK aI aC aS aY lastTold) ++ (W_X1 ca aH heap_kinds heap_whos heap_toWhoms heap_topics heap_weights heap_answered heap_deeds heap_size heap_saidBits heap_deedCount) ++ (W_X0 ca aC company_tells) ++ (W_X4 ca aS share_top share_bottom) ++ (W_X6 ca aY tally_often tally_latest))) (h : wp_X7_bill heap_kinds heap_whos heap_toWhoms heap_topics heap_weights heap_answered heap_size heap_saidBits share_top share_bottom tally_often tally_latest p post) : Met l yX7_bill wsX7_bill rm_X7_bill (PcX D ca [.ref (a 0), .int p] ((W_X7 a aR aT aH aD aK aI aC aS aY lastTold) ++ (W_X1 ca aH heap_kinds heap_whos heap_toWhoms heap_topics heap_weights heap_answered heap_deeds heap_size heap_saidBits heap_deedCount) ++ (W_X0 ca aC company_tells) ++ (W_X4 ca aS share_top share_bottom) ++ (W_X6 ca aY tally_often tally_latest))) (wrI (S := (Int64) × (Int64) × (Nat → Int32) × (Int32)) D ((W_X7 a aR aT aH aD aK aI aC aS aY lastTold) ++ (W_X1 ca aH heap_kinds heap_whos heap_toWhoms heap_topics heap_weights heap_answered heap_deeds heap_size heap_saidBits heap_deedCount) ++ (W_X0 ca aC company_tells) ++ (W_X4 ca aS share_top share_bottom) ++ (W_X6 ca aY tally_often tally_latest)) (fun u => (W_X7 a aR aT aH aD aK aI aC aS aY lastTold) ++ (W_X1 ca aH heap_kinds heap_whos heap_toWhoms heap_topics heap_weights heap_answered heap_deeds heap_size heap_saidBits heap_deedCount) ++ (W_X0 ca aC company_tells) ++ (W_X4 ca aS u.1 u.2.1) ++ (W_X6 ca aY u.2.2.1 u.2.2.2)) (fun r u => post r u.1 u.2.1 u.2.2.1 u.2.2.2)) 0 0 (adr ((W_X7 a aR aT aH aD aK aI aC aS aY lastTold) ++ (W_X1 ca aH heap_kinds heap_whos heap_toWhoms heap_topics heap_weights heap_answered heap_deeds heap_size heap_saidBits heap_deedCount) ++ (W_X0 ca aC company_tells) ++ (W_X4 ca aS share_top share_bottom) ++ (W_X6 ca aY tally_often tally_latest))) := by
  refine Met.ofW (cc := cX7_bill) (maxL := 3) (ret := (some .int)) (by decide) rfl ?_
  intro zp ze zs zm za zb zt zc z1 B hml hv
  obtain ⟨rfl, hP, hK⟩ := hv
  have hx := B.exec
  have hb := B.bytes
  have hr := B.returns
  have hts := atoms_spec (ws := wsX7_bill) B.pre
  have hown : zs.vm.findClass RX7 = some zm.cls := findClass_of_methodNamed B.named
  have hlocks := B.notSynchronized
  have hD : va_D (adr ((W_X7 a aR aT aH aD aK aI aC aS aY lastTold) ++ (W_X1 ca aH heap_kinds heap_whos heap_toWhoms heap_topics heap_weights heap_answered heap_deeds heap_size heap_saidBits heap_deedCount) ++ (W_X0 ca aC company_tells) ++ (W_X4 ca aS share_top share_bottom) ++ (W_X6 ca aY tally_often tally_latest))) ((W_X7 a aR aT aH aD aK aI aC aS aY lastTold) ++ (W_X1 ca aH heap_kinds heap_whos heap_toWhoms heap_topics heap_weights heap_answered heap_deeds heap_size heap_saidBits heap_deedCount) ++ (W_X0 ca aC company_tells) ++ (W_X4 ca aS share_top share_bottom) ++ (W_X6 ca aY tally_often tally_latest)) := hd.adr
  have hS : va_S (adr ((W_X7 a aR aT aH aD aK aI aC aS aY lastTold) ++ (W_X1 ca aH heap_kinds heap_whos heap_toWhoms heap_topics heap_weights heap_answered heap_deeds heap_size heap_saidBits heap_deedCount) ++ (W_X0 ca aC company_tells) ++ (W_X4 ca aS share_top share_bottom) ++ (W_X6 ca aY tally_often tally_latest))) zs.heap zs.heap [] := va_S.rf
  have hl := lv_entry ([.ref (a 0), .int p]) (n := 3) (Nat.le_of_ble_eq_true rfl)
  rw [lg_entry_eq]
  generalize (lg_sl ([.ref (a 0), .int p]) ++ List.replicate (3 - (lg_sl ([.ref (a 0), .int p])).length) Slot.unset).toArray = ls at hl ⊢
  replace hl : lv_has ls 3 [(0, .ref (a 0)), (1, .int p)] := hl
  show W zp l ze rm_X7_bill zs zm ([.ref (a 0), .int p] : List Value).toArray zb zt zc zs.heap [] 0 0 (MQ zb (wrI (S := (Int64) × (Int64) × (Nat → Int32) × (Int32)) D ((W_X7 a aR aT aH aD aK aI aC aS aY lastTold) ++ (W_X1 ca aH heap_kinds heap_whos heap_toWhoms heap_topics heap_weights heap_answered heap_deeds heap_size heap_saidBits heap_deedCount) ++ (W_X0 ca aC company_tells) ++ (W_X4 ca aS share_top share_bottom) ++ (W_X6 ca aY tally_often tally_latest)) (fun u => (W_X7 a aR aT aH aD aK aI aC aS aY lastTold) ++ (W_X1 ca aH heap_kinds heap_whos heap_toWhoms heap_topics heap_weights heap_answered heap_deeds heap_size heap_saidBits heap_deedCount) ++ (W_X0 ca aC company_tells) ++ (W_X4 ca aS u.1 u.2.1) ++ (W_X6 ca aY u.2.2.1 u.2.2.2)) (fun r u => post r u.1 u.2.1 u.2.2.1 u.2.2.2)) ([.ref (a 0), .int p] : List Value).toArray zs 0 0 (adr ((W_X7 a aR aT aH aD aK aI aC aS aY lastTold) ++ (W_X1 ca aH heap_kinds heap_whos heap_toWhoms heap_topics heap_weights heap_answered heap_deeds heap_size heap_saidBits heap_deedCount) ++ (W_X0 ca aC company_tells) ++ (W_X4 ca aS share_top share_bottom) ++ (W_X6 ca aY tally_often tally_latest)))) (F0 zm 0 ls [])
  unfold wp_X7_bill at h
  refine lv_aload_n hx hb dX7_bill_0 rfl (lv_at hl 0 rfl) ?_
  refine va_get (D := D) (ci := 6) (v := .ref (aC 0)) (C := RX7) (T := TX7) (N := 10) hx hb hts hi_X7_bill_X7 hown hK.1 hP 0 rfl rfl 6 (by decide) (hts _ k_X7_bill_1) (fun _ h9 => h9) rfl dX7_bill_1 ?_
  refine lv_iload_n hx hb dX7_bill_4 rfl (lv_at hl 1 rfl) ?_
  refine rd_callz (va_runV (As := [.int p]) (rest := []) ⟨hx, hb, hml, hown, hts⟩ (c_X0_hasNumber l D ca aC company_tells p _ h) (cwV 1 hts gX7_bill_X0_hasNumber rfl rfl rfl (by decide +kernel) ⟨Nat.le_of_ble_eq_true rfl, Nat.le_of_ble_eq_true rfl⟩) (PcX.preV (q := (RX0, TX0, 1)) (ci := 0) (q0 := 9) hK hP rfl rfl (hP.subM [9, 10] rfl)) rfl rfl hl.1 rfl (lv_room (Nat.le_of_ble_eq_true rfl)) dX7_bill_5 ⟨Nat.le_of_ble_eq_true rfl, Nat.le_of_ble_eq_true rfl⟩) (fun r1 h hz_r1 => ?_)
  try dsimp only at h
  refine lv_if_ne (tgt := 13) hx hb dX7_bill_8 (by decide) (fun hc => ?_) (fun hc => ?_)
  · have h := h.1 hc
    refine lv_aload_n hx hb dX7_bill_13 rfl (lv_at hl 0 rfl) ?_
    refine va_get (D := D) (ci := 6) (v := .ref (aH 0)) (C := RX7) (T := TX7) (N := 10) hx hb hts hi_X7_bill_X7 hown hK.1 hP 0 rfl rfl 2 (by decide) (hts _ k_X7_bill_2) (fun _ h9 => h9) rfl dX7_bill_14 ?_
    refine rd_calli (va_runV (As := []) (rest := []) ⟨hx, hb, hml, hown, hts⟩ (c_X1_saidBits l D ca aH heap_kinds heap_whos heap_toWhoms heap_topics heap_weights heap_answered heap_deeds heap_size heap_saidBits heap_deedCount  _ h) (cwV 0 hts gX7_bill_X1_saidBits rfl rfl rfl (by decide +kernel) ⟨Nat.le_of_ble_eq_true rfl, Nat.le_of_ble_eq_true rfl⟩) (PcX.preV (q := (RX1, TX1, 10)) (ci := 1) (q0 := 1) hK hP rfl rfl (hP.subM [1, 2, 3, 4, 5, 6, 7, 8] rfl)) rfl rfl hl.1 rfl (lv_room (Nat.le_of_ble_eq_true rfl)) dX7_bill_17 ⟨Nat.le_of_ble_eq_true rfl, Nat.le_of_ble_eq_true rfl⟩) (fun r2 h => ?_)
    try dsimp only at h
    refine lv_istore_n (lv' := [(2, .int r2), (0, .ref (a 0)), (1, .int p)]) hx hb dX7_bill_20 rfl hl (by decide) rfl (fun ls hl => ?_)
    refine lv_iload_n hx hb dX7_bill_21 rfl (lv_at hl 0 rfl) ?_
    refine lv_if_ne (tgt := 34) hx hb dX7_bill_22 (by decide) (fun hc => ?_) (fun hc => ?_)
    · have h := h.1 hc
      refine lv_aload_n hx hb dX7_bill_34 rfl (lv_at hl 1 rfl) ?_
      refine va_get (D := D) (ci := 6) (v := .ref (aS 0)) (C := RX7) (T := TX7) (N := 10) hx hb hts hi_X7_bill_X7 hown hK.1 hP 0 rfl rfl 7 (by decide) (hts _ k_X7_bill_4) (fun _ h9 => h9) rfl dX7_bill_35 ?_
      refine lv_aload_n hx hb dX7_bill_38 rfl (lv_at hl 1 rfl) ?_
      refine va_get (D := D) (ci := 6) (v := .ref (aH 0)) (C := RX7) (T := TX7) (N := 10) hx hb hts hi_X7_bill_X7 hown hK.1 hP 0 rfl rfl 2 (by decide) (hts _ k_X7_bill_2) (fun _ h9 => h9) rfl dX7_bill_39 ?_
      refine lv_iload_n hx hb dX7_bill_42 rfl (lv_at hl 0 rfl) ?_
      refine lv_aload_n hx hb dX7_bill_43 rfl (lv_at hl 1 rfl) ?_
      refine va_get (D := D) (ci := 6) (v := .ref (aH 0)) (C := RX7) (T := TX7) (N := 10) hx hb hts hi_X7_bill_X7 hown hK.1 hP 0 rfl rfl 2 (by decide) (hts _ k_X7_bill_2) (fun _ h9 => h9) rfl dX7_bill_44 ?_
      refine lv_iload_n hx hb dX7_bill_47 rfl (lv_at hl 2 rfl) ?_
      refine rd_calli (va_runV (As := [.int p]) (rest := [.int r2, .ref (aH 0), .ref (aS 0)]) ⟨hx, hb, hml, hown, hts⟩ (c_X1_begunBy l D ca aH heap_kinds heap_whos heap_toWhoms heap_topics heap_weights heap_answered heap_deeds heap_size heap_saidBits heap_deedCount p _ h) (cwV 1 hts gX7_bill_X1_begunBy rfl rfl rfl (by decide +kernel) ⟨Nat.le_of_ble_eq_true rfl, Nat.le_of_ble_eq_true rfl⟩) (PcX.preV (q := (RX1, TX1, 10)) (ci := 1) (q0 := 1) hK hP rfl rfl (hP.subM [1, 2, 3, 4, 5, 6, 7, 8] rfl)) rfl rfl hl.1 rfl (lv_room (Nat.le_of_ble_eq_true rfl)) dX7_bill_48 ⟨Nat.le_of_ble_eq_true rfl, Nat.le_of_ble_eq_true rfl⟩) (fun r3 h => ?_)
      try dsimp only at h
      refine lv_iand hx hb dX7_bill_51 ?_
      refine rd_calli (va_runV (As := [.int (r2 &&& r3)]) (rest := [.ref (aS 0)]) ⟨hx, hb, hml, hown, hts⟩ (c_X1_pricesOf l D ca aH heap_kinds heap_whos heap_toWhoms heap_topics heap_weights heap_answered heap_deeds heap_size heap_saidBits heap_deedCount (r2 &&& r3) _ h) (cwV 1 hts gX7_bill_X1_pricesOf rfl rfl rfl (by decide +kernel) ⟨Nat.le_of_ble_eq_true rfl, Nat.le_of_ble_eq_true rfl⟩) (PcX.preV (q := (RX1, TX1, 10)) (ci := 1) (q0 := 1) hK hP rfl rfl (hP.subM [1, 2, 3, 4, 5, 6, 7, 8] rfl)) rfl rfl hl.1 rfl (lv_room (Nat.le_of_ble_eq_true rfl)) dX7_bill_52 ⟨Nat.le_of_ble_eq_true rfl, Nat.le_of_ble_eq_true rfl⟩) (fun r4 h => ?_)
      try dsimp only at h
      refine lv_i2l hx hb dX7_bill_55 rfl ?_
      refine lv_aload_n hx hb dX7_bill_56 rfl (lv_at hl 1 rfl) ?_
      refine va_get (D := D) (ci := 6) (v := .ref (aH 0)) (C := RX7) (T := TX7) (N := 10) hx hb hts hi_X7_bill_X7 hown hK.1 hP 0 rfl rfl 2 (by decide) (hts _ k_X7_bill_2) (fun _ h9 => h9) rfl dX7_bill_57 ?_
      refine lv_iload_n hx hb dX7_bill_60 rfl (lv_at hl 0 rfl) ?_
      refine rd_calli (va_runV (As := [.int r2]) (rest := [.long r4.toInt64, .ref (aS 0)]) ⟨hx, hb, hml, hown, hts⟩ (c_X1_pricesOf l D ca aH heap_kinds heap_whos heap_toWhoms heap_topics heap_weights heap_answered heap_deeds heap_size heap_saidBits heap_deedCount r2 _ h) (cwV 1 hts gX7_bill_X1_pricesOf rfl rfl rfl (by decide +kernel) ⟨Nat.le_of_ble_eq_true rfl, Nat.le_of_ble_eq_true rfl⟩) (PcX.preV (q := (RX1, TX1, 10)) (ci := 1) (q0 := 1) hK hP rfl rfl (hP.subM [1, 2, 3, 4, 5, 6, 7, 8] rfl)) rfl rfl hl.1 rfl (lv_room (Nat.le_of_ble_eq_true rfl)) dX7_bill_61 ⟨Nat.le_of_ble_eq_true rfl, Nat.le_of_ble_eq_true rfl⟩) (fun r5 h => ?_)
      try dsimp only at h
      refine lv_i2l hx hb dX7_bill_64 rfl ?_
      refine wr_callv (ws1 := fun u => (W_X7 a aR aT aH aD aK aI aC aS aY lastTold) ++ (W_X1 ca aH heap_kinds heap_whos heap_toWhoms heap_topics heap_weights heap_answered heap_deeds heap_size heap_saidBits heap_deedCount) ++ (W_X0 ca aC company_tells) ++ (W_X4 ca aS u.1 u.2) ++ (W_X6 ca aY tally_often tally_latest)) (wr := ([0, 1, 2, 3, 4, 5, 6, 7, 8, 9, 10, 12, 13] : List Nat).filterMap (fun i => ((W_X7 a aR aT aH aD aK aI aC aS aY lastTold) ++ (W_X1 ca aH heap_kinds heap_whos heap_toWhoms heap_topics heap_weights heap_answered heap_deeds heap_size heap_saidBits heap_deedCount) ++ (W_X0 ca aC company_tells) ++ (W_X4 ca aS share_top share_bottom) ++ (W_X6 ca aY tally_often tally_latest) : va_W)[i]?)) (n := 14) (va_runV (As := [.long r4.toInt64, .long r5.toInt64]) (rest := []) ⟨hx, hb, hml, hown, hts⟩ (c_X4_tell l D ca aS share_top share_bottom r4.toInt64 r5.toInt64 _ (hD.subM [11] (by decide) rfl) h) (cwV 2 hts gX7_bill_X4_tell rfl rfl rfl (by decide +kernel) ⟨Nat.le_of_ble_eq_true rfl, Nat.le_of_ble_eq_true rfl⟩) (PcX.preV (q := (RX4, TX4, 2)) (ci := 3) (q0 := 11) hK hP rfl rfl (hP.subM [11] rfl)) rfl rfl hl.1 rfl (lv_room (Nat.le_of_ble_eq_true rfl)) dX7_bill_65 ⟨Nat.le_of_ble_eq_true rfl, Nat.le_of_ble_eq_true rfl⟩) hP hD hS [11] [0, 1, 2, 3, 4, 5, 6, 7, 8, 9, 10, 12, 13] rfl (fun _ => rfl) rfl (fun _ => rfl) (fun _ => rfl) (fun _ => rfl) (by decide +kernel) (by decide +kernel) (fun u H locs h hP hD hS => ?_)
      obtain ⟨share_top_6, share_bottom_7⟩ := u
      have hP : va_P D vwCl ((W_X7 a aR aT aH aD aK aI aC aS aY lastTold) ++ (W_X1 ca aH heap_kinds heap_whos heap_toWhoms heap_topics heap_weights heap_answered heap_deeds heap_size heap_saidBits heap_deedCount) ++ (W_X0 ca aC company_tells) ++ (W_X4 ca aS share_top_6 share_bottom_7) ++ (W_X6 ca aY tally_often tally_latest)) H := hP
      have hD : va_D _ ((W_X7 a aR aT aH aD aK aI aC aS aY lastTold) ++ (W_X1 ca aH heap_kinds heap_whos heap_toWhoms heap_topics heap_weights heap_answered heap_deeds heap_size heap_saidBits heap_deedCount) ++ (W_X0 ca aC company_tells) ++ (W_X4 ca aS share_top_6 share_bottom_7) ++ (W_X6 ca aY tally_often tally_latest)) := hD
      try dsimp only at h
      refine lv_iconst (v := (1)) hx hb dX7_bill_68 (by decide) ?_
      exact W.iret (v := (1 : Int32)) hx hb hr (fun t ht hW => ⟨⟨(1 : Int32), (share_top_6, share_bottom_7, tally_often, tally_latest), rfl, h, by rw [ht]; exact hP⟩, hS.F ht⟩) hS.2.2 dX7_bill_69
    · have h := h.2 hc
      refine lv_aload_n hx hb dX7_bill_25 rfl (lv_at hl 1 rfl) ?_
      refine va_get (D := D) (ci := 6) (v := .ref (aY 0)) (C := RX7) (T := TX7) (N := 10) hx hb hts hi_X7_bill_X7 hown hK.1 hP 0 rfl rfl 8 (by decide) (hts _ k_X7_bill_3) (fun _ h9 => h9) rfl dX7_bill_26 ?_
      refine lv_iconst (v := (4)) hx hb dX7_bill_29 (by decide) ?_
      refine wr_calli (ws1 := fun u => (W_X7 a aR aT aH aD aK aI aC aS aY lastTold) ++ (W_X1 ca aH heap_kinds heap_whos heap_toWhoms heap_topics heap_weights heap_answered heap_deeds heap_size heap_saidBits heap_deedCount) ++ (W_X0 ca aC company_tells) ++ (W_X4 ca aS share_top share_bottom) ++ (W_X6 ca aY u.1 u.2)) (wr := ([0, 1, 2, 3, 4, 5, 6, 7, 8, 9, 10, 11] : List Nat).filterMap (fun i => ((W_X7 a aR aT aH aD aK aI aC aS aY lastTold) ++ (W_X1 ca aH heap_kinds heap_whos heap_toWhoms heap_topics heap_weights heap_answered heap_deeds heap_size heap_saidBits heap_deedCount) ++ (W_X0 ca aC company_tells) ++ (W_X4 ca aS share_top share_bottom) ++ (W_X6 ca aY tally_often tally_latest) : va_W)[i]?)) (n := 14) (va_runV (As := [.int (4 : Int32)]) (rest := []) ⟨hx, hb, hml, hown, hts⟩ (c_X6_note l D ca aY tally_often tally_latest (4 : Int32) _ (hD.subM [12, 13] (by decide) rfl) h) (cwV 1 hts gX7_bill_X6_note rfl rfl rfl (by decide +kernel) ⟨Nat.le_of_ble_eq_true rfl, Nat.le_of_ble_eq_true rfl⟩) (PcX.preV (q := (RX6, TX6, 2)) (ci := 5) (q0 := 12) hK hP rfl rfl (hP.subM [12, 13] rfl)) rfl rfl hl.1 rfl (lv_room (Nat.le_of_ble_eq_true rfl)) dX7_bill_30 ⟨Nat.le_of_ble_eq_true rfl, Nat.le_of_ble_eq_true rfl⟩) hP hD hS [12, 13] [0, 1, 2, 3, 4, 5, 6, 7, 8, 9, 10, 11] rfl (fun _ => rfl) rfl (fun _ => rfl) (fun _ => rfl) (fun _ => rfl) (by decide +kernel) (by decide +kernel) (fun r8 u H locs h hP hD hS => ?_)
      obtain ⟨tally_often_9, tally_latest_10⟩ := u
      have hP : va_P D vwCl ((W_X7 a aR aT aH aD aK aI aC aS aY lastTold) ++ (W_X1 ca aH heap_kinds heap_whos heap_toWhoms heap_topics heap_weights heap_answered heap_deeds heap_size heap_saidBits heap_deedCount) ++ (W_X0 ca aC company_tells) ++ (W_X4 ca aS share_top share_bottom) ++ (W_X6 ca aY tally_often_9 tally_latest_10)) H := hP
      have hD : va_D _ ((W_X7 a aR aT aH aD aK aI aC aS aY lastTold) ++ (W_X1 ca aH heap_kinds heap_whos heap_toWhoms heap_topics heap_weights heap_answered heap_deeds heap_size heap_saidBits heap_deedCount) ++ (W_X0 ca aC company_tells) ++ (W_X4 ca aS share_top share_bottom) ++ (W_X6 ca aY tally_often_9 tally_latest_10)) := hD
      try dsimp only at h
      exact W.iret (v := r8) hx hb hr (fun t ht hW => ⟨⟨r8, (share_top, share_bottom, tally_often_9, tally_latest_10), rfl, h, by rw [ht]; exact hP⟩, hS.F ht⟩) hS.2.2 dX7_bill_33
  · have h := h.2 hc
    refine lv_iconst (v := (-1)) hx hb dX7_bill_11 (by decide) ?_
    exact W.iret (v := (-1 : Int32)) hx hb hr (fun t ht hW => ⟨⟨(-1 : Int32), (share_top, share_bottom, tally_often, tally_latest), rfl, h, by rw [ht]; exact hP⟩, hS.F ht⟩) hS.2.2 dX7_bill_12

-- IronedQuarrels.colour(II)I
def wb_X7_colour_58 (heap_topics : Nat → Int32) (i : Int32) (n : Int32) (post : Int32 → Prop) (x3 : Int32) : Prop :=
  wp_X1_topicOf heap_topics i (fun r6 => post ((r6 + (n * x3)) - (r6 + (n * x3)) / (6 : Int32) * (6 : Int32)))
def wp_X7_colour (heap_kinds : Nat → Int32) (heap_topics : Nat → Int32) (heap_answered : Nat → Int32) (heap_size : Int32) (heap_saidBits : Int32) (i : Int32) (n : Int32) (post : Int32 → Prop) : Prop :=
  wp_X1_hasNumber heap_size i (fun r1 => (r1 = 0 → (post (-1 : Int32))) ∧ (¬ r1 = 0 → ((n < 0 → (post (-1 : Int32))) ∧ (¬ n < 0 → ((n ≤ (20 : Int32) → (wp_X1_answerers heap_answered heap_size i (fun r2 => wp_X1_saidBits heap_saidBits (fun r3 => wp_J6_bitCount_0f7a4 (r2 &&& r3) (fun r4 => wp_X1_isOf heap_kinds i (5 : Int32) (fun r5 => (r5 = 0 → (wb_X7_colour_58 heap_topics i n post r4)) ∧ (¬ r5 = 0 → (wb_X7_colour_58 heap_topics i n post (r4 + 2))))))))) ∧ (¬ n ≤ (20 : Int32) → (post (-1 : Int32))))))))
def rm_X7_colour : Room := { frames := 2, cells := 0, slots := 0, locals := 43 }
theorem k_X7_colour_1 : Cond.fieldLink RX7 24 "IronedQuarrels" "heap" "LIronedQuarrels$Heap;" ∈ wsX7_colour := List.mem_of_getElem? (i := 1) (by decide +kernel)
theorem hi_X7_colour_X1 : ∀ w ∈ wsX10, w ∈ wsX7_colour := fun w h => List.mem_cons_of_mem _ (List.mem_append_right _ h)
theorem hi_X7_colour_X7 : ∀ w ∈ wsX70, w ∈ wsX7_colour := fun w h => List.mem_cons_of_mem _ (List.mem_append_left _ (List.mem_append_right _ h))
set_option maxHeartbeats 4000000 in
set_option maxRecDepth 100000 in
theorem c_X7_colour (l : Launch) (D : va_G) (ca : Nat → ClassId) (a : Nat → Nat) (aR : Nat → Nat) (aT : Nat → Nat) (aH : Nat → Nat) (aD : Nat → Nat) (aK : Nat) (aI : Nat → Nat) (aC : Nat → Nat) (aS : Nat → Nat) (aY : Nat → Nat) (lastTold : Int32) (heap_kinds : Nat → Int32) (heap_whos : Nat → Int32) (heap_toWhoms : Nat → Int32) (heap_topics : Nat → Int32) (heap_weights : Nat → Int32) (heap_answered : Nat → Int32) (heap_deeds : Nat → Int32) (heap_size : Int32) (heap_saidBits : Int32) (heap_deedCount : Int32) (i : Int32) (n : Int32) (post : Int32 → Prop) (h : wp_X7_colour heap_kinds heap_topics heap_answered heap_size heap_saidBits i n post) : Met l yX7_colour wsX7_colour rm_X7_colour (PcX D ca [.ref (a 0), .int i, .int n] ((W_X7 a aR aT aH aD aK aI aC aS aY lastTold) ++ (W_X1 ca aH heap_kinds heap_whos heap_toWhoms heap_topics heap_weights heap_answered heap_deeds heap_size heap_saidBits heap_deedCount))) (rdI post) 0 0 (fun _ => False) := by
  refine Met.ofW (cc := cX7_colour) (maxL := 4) (ret := (some .int)) (by decide) rfl ?_
  intro zp ze zs zm za zb zt zc z1 B hml hv
  obtain ⟨rfl, hP, hK⟩ := hv
  have hx := B.exec
  have hb := B.bytes
  have hr := B.returns
  have hts := atoms_spec (ws := wsX7_colour) B.pre
  have hown : zs.vm.findClass RX7 = some zm.cls := findClass_of_methodNamed B.named
  have hlocks := B.notSynchronized
  have hl := lv_entry ([.ref (a 0), .int i, .int n]) (n := 4) (Nat.le_of_ble_eq_true rfl)
  rw [lg_entry_eq]
  generalize (lg_sl ([.ref (a 0), .int i, .int n]) ++ List.replicate (4 - (lg_sl ([.ref (a 0), .int i, .int n])).length) Slot.unset).toArray = ls at hl ⊢
  replace hl : lv_has ls 4 [(0, .ref (a 0)), (1, .int i), (2, .int n)] := hl
  show W zp l ze rm_X7_colour zs zm ([.ref (a 0), .int i, .int n] : List Value).toArray zb zt zc zs.heap [] 0 0 (MQ zb (rdI post) ([.ref (a 0), .int i, .int n] : List Value).toArray zs 0 0 (fun _ => False)) (F0 zm 0 ls [])
  have w_58 : ∀ (x3 : Int32), wb_X7_colour_58 heap_topics i n post x3 → ∀ ls : Array Slot, lv_has ls 4 [(0, .ref (a 0)), (1, .int i), (2, .int n), (3, .int x3)] → W zp l ze rm_X7_colour zs zm ([.ref (a 0), .int i, .int n] : List Value).toArray zb zt zc zs.heap [] 0 0 (MQ zb (rdI post) ([.ref (a 0), .int i, .int n] : List Value).toArray zs 0 0 (fun _ => False)) (F0 zm 58 ls []) := by
    intro x3 h ls hl
    unfold wb_X7_colour_58 at h
    refine lv_aload_n hx hb dX7_colour_58 rfl (lv_at hl 0 rfl) ?_
    refine va_get (D := D) (ci := 6) (v := .ref (aH 0)) (C := RX7) (T := TX7) (N := 10) hx hb hts hi_X7_colour_X7 hown hK.1 hP 0 rfl rfl 2 (by decide) (hts _ k_X7_colour_1) (fun _ h9 => h9) rfl dX7_colour_59 ?_
    refine lv_iload_n hx hb dX7_colour_62 rfl (lv_at hl 1 rfl) ?_
    refine rd_calli (va_runV (As := [.int i]) (rest := []) ⟨hx, hb, hml, hown, hts⟩ (c_X1_topicOf l D ca aH heap_kinds heap_whos heap_toWhoms heap_topics heap_weights heap_answered heap_deeds heap_size heap_saidBits heap_deedCount i _ h) (cwV 1 hts gX7_colour_X1_topicOf rfl rfl rfl (by decide +kernel) ⟨Nat.le_of_ble_eq_true rfl, Nat.le_of_ble_eq_true rfl⟩) (PcX.preV (q := (RX1, TX1, 10)) (ci := 1) (q0 := 1) hK hP rfl rfl (hP.subM [1, 2, 3, 4, 5, 6, 7, 8] rfl)) rfl rfl hl.1 rfl (lv_room (Nat.le_of_ble_eq_true rfl)) dX7_colour_63 ⟨Nat.le_of_ble_eq_true rfl, Nat.le_of_ble_eq_true rfl⟩) (fun r6 h => ?_)
    try dsimp only at h
    refine lv_iload_n hx hb dX7_colour_66 rfl (lv_at hl 2 rfl) ?_
    refine lv_iload_n hx hb dX7_colour_67 rfl (lv_at hl 3 rfl) ?_
    refine lv_imul hx hb dX7_colour_68 ?_
    refine lv_iadd hx hb dX7_colour_69 ?_
    refine lv_bipush (v := (6)) hx hb dX7_colour_70 (by decide) ?_
    refine lv_irem hx hb dX7_colour_72 (by decide) ?_
    exact W.iret (v := (r6 + (n * x3)) - (r6 + (n * x3)) / (6 : Int32) * (6 : Int32)) hx hb hr (fun t ht hW => ⟨(r6 + (n * x3)) - (r6 + (n * x3)) / (6 : Int32) * (6 : Int32), rfl, h, ht⟩) (fun q hq => absurd hq List.not_mem_nil) dX7_colour_73
  unfold wp_X7_colour at h
  refine lv_aload_n hx hb dX7_colour_0 rfl (lv_at hl 0 rfl) ?_
  refine va_get (D := D) (ci := 6) (v := .ref (aH 0)) (C := RX7) (T := TX7) (N := 10) hx hb hts hi_X7_colour_X7 hown hK.1 hP 0 rfl rfl 2 (by decide) (hts _ k_X7_colour_1) (fun _ h9 => h9) rfl dX7_colour_1 ?_
  refine lv_iload_n hx hb dX7_colour_4 rfl (lv_at hl 1 rfl) ?_
  refine rd_callz (va_runV (As := [.int i]) (rest := []) ⟨hx, hb, hml, hown, hts⟩ (c_X1_hasNumber l D ca aH heap_kinds heap_whos heap_toWhoms heap_topics heap_weights heap_answered heap_deeds heap_size heap_saidBits heap_deedCount i _ h) (cwV 1 hts gX7_colour_X1_hasNumber rfl rfl rfl (by decide +kernel) ⟨Nat.le_of_ble_eq_true rfl, Nat.le_of_ble_eq_true rfl⟩) (PcX.preV (q := (RX1, TX1, 10)) (ci := 1) (q0 := 1) hK hP rfl rfl (hP.subM [1, 2, 3, 4, 5, 6, 7, 8] rfl)) rfl rfl hl.1 rfl (lv_room (Nat.le_of_ble_eq_true rfl)) dX7_colour_5 ⟨Nat.le_of_ble_eq_true rfl, Nat.le_of_ble_eq_true rfl⟩) (fun r1 h hz_r1 => ?_)
  try dsimp only at h
  refine lv_if_eq (tgt := 21) hx hb dX7_colour_8 (by decide) (fun hc => ?_) (fun hc => ?_)
  · have h := h.1 hc
    refine lv_iconst (v := (-1)) hx hb dX7_colour_21 (by decide) ?_
    exact W.iret (v := (-1 : Int32)) hx hb hr (fun t ht hW => ⟨(-1 : Int32), rfl, h, ht⟩) (fun q hq => absurd hq List.not_mem_nil) dX7_colour_22
  · have h := h.2 hc
    refine lv_iload_n hx hb dX7_colour_11 rfl (lv_at hl 2 rfl) ?_
    refine lv_if_lt (tgt := 21) hx hb dX7_colour_12 (by decide) (fun hc => ?_) (fun hc => ?_)
    · have h := h.1 hc
      refine lv_iconst (v := (-1)) hx hb dX7_colour_21 (by decide) ?_
      exact W.iret (v := (-1 : Int32)) hx hb hr (fun t ht hW => ⟨(-1 : Int32), rfl, h, ht⟩) (fun q hq => absurd hq List.not_mem_nil) dX7_colour_22
    · have h := h.2 hc
      refine lv_iload_n hx hb dX7_colour_15 rfl (lv_at hl 2 rfl) ?_
      refine lv_bipush (v := (20)) hx hb dX7_colour_16 (by decide) ?_
      refine lv_icmp_le (tgt := 23) hx hb dX7_colour_18 (by decide) (fun hc => ?_) (fun hc => ?_)
      · have h := h.1 hc
        refine lv_aload_n hx hb dX7_colour_23 rfl (lv_at hl 0 rfl) ?_
        refine va_get (D := D) (ci := 6) (v := .ref (aH 0)) (C := RX7) (T := TX7) (N := 10) hx hb hts hi_X7_colour_X7 hown hK.1 hP 0 rfl rfl 2 (by decide) (hts _ k_X7_colour_1) (fun _ h9 => h9) rfl dX7_colour_24 ?_
        refine lv_iload_n hx hb dX7_colour_27 rfl (lv_at hl 1 rfl) ?_
        refine rd_calli (va_runV (As := [.int i]) (rest := []) ⟨hx, hb, hml, hown, hts⟩ (c_X1_answerers l D ca aH heap_kinds heap_whos heap_toWhoms heap_topics heap_weights heap_answered heap_deeds heap_size heap_saidBits heap_deedCount i _ h) (cwV 1 hts gX7_colour_X1_answerers rfl rfl rfl (by decide +kernel) ⟨Nat.le_of_ble_eq_true rfl, Nat.le_of_ble_eq_true rfl⟩) (PcX.preV (q := (RX1, TX1, 10)) (ci := 1) (q0 := 1) hK hP rfl rfl (hP.subM [1, 2, 3, 4, 5, 6, 7, 8] rfl)) rfl rfl hl.1 rfl (lv_room (Nat.le_of_ble_eq_true rfl)) dX7_colour_28 ⟨Nat.le_of_ble_eq_true rfl, Nat.le_of_ble_eq_true rfl⟩) (fun r2 h => ?_)
        try dsimp only at h
        refine lv_aload_n hx hb dX7_colour_31 rfl (lv_at hl 0 rfl) ?_
        refine va_get (D := D) (ci := 6) (v := .ref (aH 0)) (C := RX7) (T := TX7) (N := 10) hx hb hts hi_X7_colour_X7 hown hK.1 hP 0 rfl rfl 2 (by decide) (hts _ k_X7_colour_1) (fun _ h9 => h9) rfl dX7_colour_32 ?_
        refine rd_calli (va_runV (As := []) (rest := [.int r2]) ⟨hx, hb, hml, hown, hts⟩ (c_X1_saidBits l D ca aH heap_kinds heap_whos heap_toWhoms heap_topics heap_weights heap_answered heap_deeds heap_size heap_saidBits heap_deedCount  _ h) (cwV 0 hts gX7_colour_X1_saidBits rfl rfl rfl (by decide +kernel) ⟨Nat.le_of_ble_eq_true rfl, Nat.le_of_ble_eq_true rfl⟩) (PcX.preV (q := (RX1, TX1, 10)) (ci := 1) (q0 := 1) hK hP rfl rfl (hP.subM [1, 2, 3, 4, 5, 6, 7, 8] rfl)) rfl rfl hl.1 rfl (lv_room (Nat.le_of_ble_eq_true rfl)) dX7_colour_35 ⟨Nat.le_of_ble_eq_true rfl, Nat.le_of_ble_eq_true rfl⟩) (fun r3 h => ?_)
        try dsimp only at h
        refine lv_iand hx hb dX7_colour_38 ?_
        refine rd_calli (va_runS (As := [.int (r2 &&& r3)]) (rest := []) ⟨hx, hb, hml, hown, hts⟩ (c_J6_bitCount_0f7a4 l D ca   (r2 &&& r3) _ h) (va_cwS 1 hts gX7_colour_J6_bitCount_0f7a4 rfl rfl rfl (by decide +kernel) ⟨Nat.le_of_ble_eq_true rfl, Nat.le_of_ble_eq_true rfl⟩) (PcX.preS hK (fun k q h => by simp at h)) rfl rfl hl.1 rfl (lv_room (Nat.le_of_ble_eq_true rfl)) dX7_colour_39 ⟨Nat.le_of_ble_eq_true rfl, Nat.le_of_ble_eq_true rfl⟩) (fun r4 h => ?_)
        try dsimp only at h
        refine lv_istore_n (lv' := [(3, .int r4), (0, .ref (a 0)), (1, .int i), (2, .int n)]) hx hb dX7_colour_42 rfl hl (by decide) rfl (fun ls hl => ?_)
        refine lv_aload_n hx hb dX7_colour_43 rfl (lv_at hl 1 rfl) ?_
        refine va_get (D := D) (ci := 6) (v := .ref (aH 0)) (C := RX7) (T := TX7) (N := 10) hx hb hts hi_X7_colour_X7 hown hK.1 hP 0 rfl rfl 2 (by decide) (hts _ k_X7_colour_1) (fun _ h9 => h9) rfl dX7_colour_44 ?_
        refine lv_iload_n hx hb dX7_colour_47 rfl (lv_at hl 2 rfl) ?_
        refine lv_iconst (v := (5)) hx hb dX7_colour_48 (by decide) ?_
        refine rd_callz (va_runV (As := [.int i, .int (5 : Int32)]) (rest := []) ⟨hx, hb, hml, hown, hts⟩ (c_X1_isOf l D ca aH heap_kinds heap_whos heap_toWhoms heap_topics heap_weights heap_answered heap_deeds heap_size heap_saidBits heap_deedCount i (5 : Int32) _ h) (cwV 2 hts gX7_colour_X1_isOf rfl rfl rfl (by decide +kernel) ⟨Nat.le_of_ble_eq_true rfl, Nat.le_of_ble_eq_true rfl⟩) (PcX.preV (q := (RX1, TX1, 10)) (ci := 1) (q0 := 1) hK hP rfl rfl (hP.subM [1, 2, 3, 4, 5, 6, 7, 8] rfl)) rfl rfl hl.1 rfl (lv_room (Nat.le_of_ble_eq_true rfl)) dX7_colour_49 ⟨Nat.le_of_ble_eq_true rfl, Nat.le_of_ble_eq_true rfl⟩) (fun r5 h hz_r5 => ?_)
        try dsimp only at h
        refine lv_if_eq (tgt := 58) hx hb dX7_colour_52 (by decide) (fun hc => ?_) (fun hc => ?_)
        · have h := h.1 hc
          exact w_58  r4 h ls (lv_sub hl [1, 2, 3, 0] rfl)
        · have h := h.2 hc
          refine lv_iinc (v := r4 + 2) (lv' := [(3, .int (r4 + 2)), (0, .ref (a 0)), (1, .int i), (2, .int n)]) hx hb dX7_colour_55 hl (k := 0) rfl rfl (by decide) rfl (fun ls hl => ?_)
          exact w_58  (r4 + 2) h ls (lv_sub hl [1, 2, 3, 0] rfl)
      · have h := h.2 hc
        refine lv_iconst (v := (-1)) hx hb dX7_colour_21 (by decide) ?_
        exact W.iret (v := (-1 : Int32)) hx hb hr (fun t ht hW => ⟨(-1 : Int32), rfl, h, ht⟩) (fun q hq => absurd hq List.not_mem_nil) dX7_colour_22

-- IronedQuarrels.lots(II)I
def wb_X7_lots_36 (heap_kinds : Nat → Int32) (heap_whos : Nat → Int32) (heap_toWhoms : Nat → Int32) (heap_topics : Nat → Int32) (heap_weights : Nat → Int32) (heap_answered : Nat → Int32) (heap_size : Int32) (n : Int32) (post : Int32 → (Nat → Int32) → (Int32) → (Int32) → Prop) (K36 : (Nat → Int32) → (Int32) → (Int32) → (Int64) → (Int32) → (Int32) → Prop) (heap_deeds : Nat → Int32) (heap_saidBits : Int32) (heap_deedCount : Int32) (x3 : Int64) (x5 : Int32) (x6 : Int32) : Prop :=
  (n ≤ x6 → (post x5 heap_deeds heap_saidBits heap_deedCount)) ∧ (¬ n ≤ x6 → (wp_X1_saidBits heap_saidBits (fun r1 => wp_X1_freeAmong heap_kinds heap_answered heap_size r1 (fun r2 => (r2 = 0 → (post x5 heap_deeds heap_saidBits heap_deedCount)) ∧ (¬ r2 = 0 → (wp_X1_deedsAreFull heap_deedCount (fun r3 => (r3 = 0 → (wp_J6_bitCount_0f7a4 r2 (fun r4 => ¬ r4.toInt64 = 0 ∧ wp_X7_numberAt r2 ((((x3 * (48271 : Int64)) - (x3 * (48271 : Int64)) / (2147483647 : Int64) * (2147483647 : Int64)) - ((x3 * (48271 : Int64)) - (x3 * (48271 : Int64)) / (2147483647 : Int64) * (2147483647 : Int64)) / r4.toInt64 * r4.toInt64).toInt32) (fun r5 => wp_X1_takeBack heap_kinds heap_whos heap_toWhoms heap_topics heap_weights heap_deeds heap_size heap_saidBits heap_deedCount r5 (fun r6 heap_deeds_7 heap_saidBits_8 heap_deedCount_9 => K36 heap_deeds_7 heap_saidBits_8 heap_deedCount_9 ((x3 * (48271 : Int64)) - (x3 * (48271 : Int64)) / (2147483647 : Int64) * (2147483647 : Int64)) (x5 + r6) (x6 + 1)))))) ∧ (¬ r3 = 0 → (post x5 heap_deeds heap_saidBits heap_deedCount)))))))))
def wl_X7_lots_36 (heap_kinds : Nat → Int32) (heap_whos : Nat → Int32) (heap_toWhoms : Nat → Int32) (heap_topics : Nat → Int32) (heap_weights : Nat → Int32) (heap_answered : Nat → Int32) (heap_size : Int32) (n : Int32) (post : Int32 → (Nat → Int32) → (Int32) → (Int32) → Prop) : Nat → (Nat → Int32) → (Int32) → (Int32) → (Int64) → (Int32) → (Int32) → Prop
  | 0 => fun _ _ _ _ _ _ => False
  | zn + 1 => wb_X7_lots_36 heap_kinds heap_whos heap_toWhoms heap_topics heap_weights heap_answered heap_size n post (wl_X7_lots_36 heap_kinds heap_whos heap_toWhoms heap_topics heap_weights heap_answered heap_size n post zn)
def wp_X7_lots (heap_kinds : Nat → Int32) (heap_whos : Nat → Int32) (heap_toWhoms : Nat → Int32) (heap_topics : Nat → Int32) (heap_weights : Nat → Int32) (heap_answered : Nat → Int32) (heap_deeds : Nat → Int32) (heap_size : Int32) (heap_saidBits : Int32) (heap_deedCount : Int32) (n : Int32) (seed : Int32) (post : Int32 → (Nat → Int32) → (Int32) → (Int32) → Prop) : Prop :=
  (n < (1 : Int32) → (post (-1 : Int32) heap_deeds heap_saidBits heap_deedCount)) ∧ (¬ n < (1 : Int32) → (((12 : Int32) < n → (post (-1 : Int32) heap_deeds heap_saidBits heap_deedCount)) ∧ (¬ (12 : Int32) < n → ((seed < (1 : Int32) → (post (-1 : Int32) heap_deeds heap_saidBits heap_deedCount)) ∧ (¬ seed < (1 : Int32) → (((lg_cmp seed.toInt64 (2147483647 : Int64)) < 0 → (∃ zn, wl_X7_lots_36 heap_kinds heap_whos heap_toWhoms heap_topics heap_weights heap_answered heap_size n post zn heap_deeds heap_saidBits heap_deedCount seed.toInt64 (0 : Int32) (0 : Int32))) ∧ (¬ (lg_cmp seed.toInt64 (2147483647 : Int64)) < 0 → (post (-1 : Int32) heap_deeds heap_saidBits heap_deedCount))))))))
def rm_X7_lots : Room := { frames := 6, cells := 0, slots := 0, locals := 130 }
theorem k_X7_lots_1 : Cond.constantLong RX7 279 (2147483647) ∈ wsX7_lots := List.mem_of_getElem? (i := 1) (by decide +kernel)
theorem k_X7_lots_2 : Cond.fieldLink RX7 24 "IronedQuarrels" "heap" "LIronedQuarrels$Heap;" ∈ wsX7_lots := List.mem_of_getElem? (i := 2) (by decide +kernel)
theorem k_X7_lots_3 : Cond.constantLong RX7 281 (48271) ∈ wsX7_lots := List.mem_of_getElem? (i := 3) (by decide +kernel)
theorem hi_X7_lots_X1 : ∀ w ∈ wsX10, w ∈ wsX7_lots := fun w h => List.mem_cons_of_mem _ (List.mem_append_right _ h)
theorem hi_X7_lots_X7 : ∀ w ∈ wsX70, w ∈ wsX7_lots := fun w h => List.mem_cons_of_mem _ (List.mem_append_left _ (List.mem_append_right _ h))
set_option maxHeartbeats 4000000 in
set_option maxRecDepth 100000 in
theorem c_X7_lots (l : Launch) (D : va_G) (ca : Nat → ClassId) (a : Nat → Nat) (aR : Nat → Nat) (aT : Nat → Nat) (aH : Nat → Nat) (aD : Nat → Nat) (aK : Nat) (aI : Nat → Nat) (aC : Nat → Nat) (aS : Nat → Nat) (aY : Nat → Nat) (lastTold : Int32) (heap_kinds : Nat → Int32) (heap_whos : Nat → Int32) (heap_toWhoms : Nat → Int32) (heap_topics : Nat → Int32) (heap_weights : Nat → Int32) (heap_answered : Nat → Int32) (heap_deeds : Nat → Int32) (heap_size : Int32) (heap_saidBits : Int32) (heap_deedCount : Int32) (n : Int32) (seed : Int32) (post : Int32 → (Nat → Int32) → (Int32) → (Int32) → Prop) (hd : va_D (fun _ => True) ((W_X7 a aR aT aH aD aK aI aC aS aY lastTold) ++ (W_X1 ca aH heap_kinds heap_whos heap_toWhoms heap_topics heap_weights heap_answered heap_deeds heap_size heap_saidBits heap_deedCount))) (h : wp_X7_lots heap_kinds heap_whos heap_toWhoms heap_topics heap_weights heap_answered heap_deeds heap_size heap_saidBits heap_deedCount n seed post) : Met l yX7_lots wsX7_lots rm_X7_lots (PcX D ca [.ref (a 0), .int n, .int seed] ((W_X7 a aR aT aH aD aK aI aC aS aY lastTold) ++ (W_X1 ca aH heap_kinds heap_whos heap_toWhoms heap_topics heap_weights heap_answered heap_deeds heap_size heap_saidBits heap_deedCount))) (wrI (S := (Nat → Int32) × (Int32) × (Int32)) D ((W_X7 a aR aT aH aD aK aI aC aS aY lastTold) ++ (W_X1 ca aH heap_kinds heap_whos heap_toWhoms heap_topics heap_weights heap_answered heap_deeds heap_size heap_saidBits heap_deedCount)) (fun u => (W_X7 a aR aT aH aD aK aI aC aS aY lastTold) ++ (W_X1 ca aH heap_kinds heap_whos heap_toWhoms heap_topics heap_weights heap_answered u.1 heap_size u.2.1 u.2.2)) (fun r u => post r u.1 u.2.1 u.2.2)) 0 0 (adr ((W_X7 a aR aT aH aD aK aI aC aS aY lastTold) ++ (W_X1 ca aH heap_kinds heap_whos heap_toWhoms heap_topics heap_weights heap_answered heap_deeds heap_size heap_saidBits heap_deedCount))) := by
  refine Met.ofW (cc := cX7_lots) (maxL := 8) (ret := (some .int)) (by decide) rfl ?_
  intro zp ze zs zm za zb zt zc z1 B hml hv
  obtain ⟨rfl, hP, hK⟩ := hv
  have hx := B.exec
  have hb := B.bytes
  have hr := B.returns
  have hts := atoms_spec (ws := wsX7_lots) B.pre
  have hown : zs.vm.findClass RX7 = some zm.cls := findClass_of_methodNamed B.named
  have hlocks := B.notSynchronized
  have hD : va_D (adr ((W_X7 a aR aT aH aD aK aI aC aS aY lastTold) ++ (W_X1 ca aH heap_kinds heap_whos heap_toWhoms heap_topics heap_weights heap_answered heap_deeds heap_size heap_saidBits heap_deedCount))) ((W_X7 a aR aT aH aD aK aI aC aS aY lastTold) ++ (W_X1 ca aH heap_kinds heap_whos heap_toWhoms heap_topics heap_weights heap_answered heap_deeds heap_size heap_saidBits heap_deedCount)) := hd.adr
  have hS : va_S (adr ((W_X7 a aR aT aH aD aK aI aC aS aY lastTold) ++ (W_X1 ca aH heap_kinds heap_whos heap_toWhoms heap_topics heap_weights heap_answered heap_deeds heap_size heap_saidBits heap_deedCount))) zs.heap zs.heap [] := va_S.rf
  have hl := lv_entry ([.ref (a 0), .int n, .int seed]) (n := 8) (Nat.le_of_ble_eq_true rfl)
  rw [lg_entry_eq]
  generalize (lg_sl ([.ref (a 0), .int n, .int seed]) ++ List.replicate (8 - (lg_sl ([.ref (a 0), .int n, .int seed])).length) Slot.unset).toArray = ls at hl ⊢
  replace hl : lv_has ls 8 [(0, .ref (a 0)), (1, .int n), (2, .int seed)] := hl
  show W zp l ze rm_X7_lots zs zm ([.ref (a 0), .int n, .int seed] : List Value).toArray zb zt zc zs.heap [] 0 0 (MQ zb (wrI (S := (Nat → Int32) × (Int32) × (Int32)) D ((W_X7 a aR aT aH aD aK aI aC aS aY lastTold) ++ (W_X1 ca aH heap_kinds heap_whos heap_toWhoms heap_topics heap_weights heap_answered heap_deeds heap_size heap_saidBits heap_deedCount)) (fun u => (W_X7 a aR aT aH aD aK aI aC aS aY lastTold) ++ (W_X1 ca aH heap_kinds heap_whos heap_toWhoms heap_topics heap_weights heap_answered u.1 heap_size u.2.1 u.2.2)) (fun r u => post r u.1 u.2.1 u.2.2)) ([.ref (a 0), .int n, .int seed] : List Value).toArray zs 0 0 (adr ((W_X7 a aR aT aH aD aK aI aC aS aY lastTold) ++ (W_X1 ca aH heap_kinds heap_whos heap_toWhoms heap_topics heap_weights heap_answered heap_deeds heap_size heap_saidBits heap_deedCount)))) (F0 zm 0 ls [])
  have w_36 : ∀ (zn : Nat) (heap_deeds : Nat → Int32) (heap_saidBits : Int32) (heap_deedCount : Int32) (x3 : Int64) (x5 : Int32) (x6 : Int32), wl_X7_lots_36 heap_kinds heap_whos heap_toWhoms heap_topics heap_weights heap_answered heap_size n post zn heap_deeds heap_saidBits heap_deedCount x3 x5 x6 → ∀ (H : Heap) (locs : List Loc), va_P D vwCl ((W_X7 a aR aT aH aD aK aI aC aS aY lastTold) ++ (W_X1 ca aH heap_kinds heap_whos heap_toWhoms heap_topics heap_weights heap_answered heap_deeds heap_size heap_saidBits heap_deedCount)) H → va_D (adr ((W_X7 a aR aT aH aD aK aI aC aS aY lastTold) ++ (W_X1 ca aH heap_kinds heap_whos heap_toWhoms heap_topics heap_weights heap_answered heap_deeds heap_size heap_saidBits heap_deedCount))) ((W_X7 a aR aT aH aD aK aI aC aS aY lastTold) ++ (W_X1 ca aH heap_kinds heap_whos heap_toWhoms heap_topics heap_weights heap_answered heap_deeds heap_size heap_saidBits heap_deedCount)) → va_S (adr ((W_X7 a aR aT aH aD aK aI aC aS aY lastTold) ++ (W_X1 ca aH heap_kinds heap_whos heap_toWhoms heap_topics heap_weights heap_answered heap_deeds heap_size heap_saidBits heap_deedCount))) zs.heap H locs → ∀ ls : Array Slot, lv_has ls 8 [(0, .ref (a 0)), (1, .int n), (3, .long x3), (5, .int x5), (6, .int x6)] → W zp l ze rm_X7_lots zs zm ([.ref (a 0), .int n, .int seed] : List Value).toArray zb zt zc H locs 0 0 (MQ zb (wrI (S := (Nat → Int32) × (Int32) × (Int32)) D ((W_X7 a aR aT aH aD aK aI aC aS aY lastTold) ++ (W_X1 ca aH heap_kinds heap_whos heap_toWhoms heap_topics heap_weights heap_answered heap_deeds heap_size heap_saidBits heap_deedCount)) (fun u => (W_X7 a aR aT aH aD aK aI aC aS aY lastTold) ++ (W_X1 ca aH heap_kinds heap_whos heap_toWhoms heap_topics heap_weights heap_answered u.1 heap_size u.2.1 u.2.2)) (fun r u => post r u.1 u.2.1 u.2.2)) ([.ref (a 0), .int n, .int seed] : List Value).toArray zs 0 0 (adr ((W_X7 a aR aT aH aD aK aI aC aS aY lastTold) ++ (W_X1 ca aH heap_kinds heap_whos heap_toWhoms heap_topics heap_weights heap_answered heap_deeds heap_size heap_saidBits heap_deedCount)))) (F0 zm 36 ls []) := by
    intro zn
    induction zn with
    | zero => intro heap_deeds heap_saidBits heap_deedCount x3 x5 x6 h; exact h.elim
    | succ zn ih36 =>
      intro heap_deeds heap_saidBits heap_deedCount x3 x5 x6 h H locs hP hD hS ls hl
      replace h : wb_X7_lots_36 heap_kinds heap_whos heap_toWhoms heap_topics heap_weights heap_answered heap_size n post (wl_X7_lots_36 heap_kinds heap_whos heap_toWhoms heap_topics heap_weights heap_answered heap_size n post zn) heap_deeds heap_saidBits heap_deedCount x3 x5 x6 := h
      unfold wb_X7_lots_36 at h
      refine lv_iload hx hb dX7_lots_36 (lv_at hl 4 rfl) ?_
      refine lv_iload_n hx hb dX7_lots_38 rfl (lv_at hl 1 rfl) ?_
      refine lv_icmp_ge (tgt := 118) hx hb dX7_lots_39 (by decide) (fun hc => ?_) (fun hc => ?_)
      · have h := h.1 hc
        refine lv_iload hx hb dX7_lots_118 (lv_at hl 3 rfl) ?_
        exact W.iret (v := x5) hx hb hr (fun t ht hW => ⟨⟨x5, (heap_deeds, heap_saidBits, heap_deedCount), rfl, h, by rw [ht]; exact hP⟩, hS.F ht⟩) hS.2.2 dX7_lots_120
      · have h := h.2 hc
        refine lv_aload_n hx hb dX7_lots_42 rfl (lv_at hl 0 rfl) ?_
        refine va_get (D := D) (ci := 6) (v := .ref (aH 0)) (C := RX7) (T := TX7) (N := 10) hx hb hts hi_X7_lots_X7 hown hK.1 hP 0 rfl rfl 2 (by decide) (hts _ k_X7_lots_2) (fun _ h9 => h9) rfl dX7_lots_43 ?_
        refine lv_aload_n hx hb dX7_lots_46 rfl (lv_at hl 0 rfl) ?_
        refine va_get (D := D) (ci := 6) (v := .ref (aH 0)) (C := RX7) (T := TX7) (N := 10) hx hb hts hi_X7_lots_X7 hown hK.1 hP 0 rfl rfl 2 (by decide) (hts _ k_X7_lots_2) (fun _ h9 => h9) rfl dX7_lots_47 ?_
        refine rd_calli (va_runV (As := []) (rest := [.ref (aH 0)]) ⟨hx, hb, hml, hown, hts⟩ (c_X1_saidBits l D ca aH heap_kinds heap_whos heap_toWhoms heap_topics heap_weights heap_answered heap_deeds heap_size heap_saidBits heap_deedCount  _ h) (cwV 0 hts gX7_lots_X1_saidBits rfl rfl rfl (by decide +kernel) ⟨Nat.le_of_ble_eq_true rfl, Nat.le_of_ble_eq_true rfl⟩) (PcX.preV (q := (RX1, TX1, 10)) (ci := 1) (q0 := 1) hK hP rfl rfl (hP.subM [1, 2, 3, 4, 5, 6, 7, 8] rfl)) rfl rfl hl.1 rfl (lv_room (Nat.le_of_ble_eq_true rfl)) dX7_lots_50 ⟨Nat.le_of_ble_eq_true rfl, Nat.le_of_ble_eq_true rfl⟩) (fun r1 h => ?_)
        try dsimp only at h
        refine rd_calli (va_runV (As := [.int r1]) (rest := []) ⟨hx, hb, hml, hown, hts⟩ (c_X1_freeAmong l D ca aH heap_kinds heap_whos heap_toWhoms heap_topics heap_weights heap_answered heap_deeds heap_size heap_saidBits heap_deedCount r1 _ h) (cwV 1 hts gX7_lots_X1_freeAmong rfl rfl rfl (by decide +kernel) ⟨Nat.le_of_ble_eq_true rfl, Nat.le_of_ble_eq_true rfl⟩) (PcX.preV (q := (RX1, TX1, 10)) (ci := 1) (q0 := 1) hK hP rfl rfl (hP.subM [1, 2, 3, 4, 5, 6, 7, 8] rfl)) rfl rfl hl.1 rfl (lv_room (Nat.le_of_ble_eq_true rfl)) dX7_lots_53 ⟨Nat.le_of_ble_eq_true rfl, Nat.le_of_ble_eq_true rfl⟩) (fun r2 h => ?_)
        try dsimp only at h
        refine lv_istore (lv' := [(7, .int r2), (0, .ref (a 0)), (1, .int n), (3, .long x3), (5, .int x5), (6, .int x6)]) hx hb dX7_lots_56 hl (by decide) rfl (fun ls hl => ?_)
        refine lv_iload hx hb dX7_lots_58 (lv_at hl 0 rfl) ?_
        refine lv_if_eq (tgt := 118) hx hb dX7_lots_60 (by decide) (fun hc => ?_) (fun hc => ?_)
        · have h := h.1 hc
          refine lv_iload hx hb dX7_lots_118 (lv_at hl 4 rfl) ?_
          exact W.iret (v := x5) hx hb hr (fun t ht hW => ⟨⟨x5, (heap_deeds, heap_saidBits, heap_deedCount), rfl, h, by rw [ht]; exact hP⟩, hS.F ht⟩) hS.2.2 dX7_lots_120
        · have h := h.2 hc
          refine lv_aload_n hx hb dX7_lots_63 rfl (lv_at hl 1 rfl) ?_
          refine va_get (D := D) (ci := 6) (v := .ref (aH 0)) (C := RX7) (T := TX7) (N := 10) hx hb hts hi_X7_lots_X7 hown hK.1 hP 0 rfl rfl 2 (by decide) (hts _ k_X7_lots_2) (fun _ h9 => h9) rfl dX7_lots_64 ?_
          refine rd_callz (va_runV (As := []) (rest := []) ⟨hx, hb, hml, hown, hts⟩ (c_X1_deedsAreFull l D ca aH heap_kinds heap_whos heap_toWhoms heap_topics heap_weights heap_answered heap_deeds heap_size heap_saidBits heap_deedCount  _ h) (cwV 0 hts gX7_lots_X1_deedsAreFull rfl rfl rfl (by decide +kernel) ⟨Nat.le_of_ble_eq_true rfl, Nat.le_of_ble_eq_true rfl⟩) (PcX.preV (q := (RX1, TX1, 10)) (ci := 1) (q0 := 1) hK hP rfl rfl (hP.subM [1, 2, 3, 4, 5, 6, 7, 8] rfl)) rfl rfl hl.1 rfl (lv_room (Nat.le_of_ble_eq_true rfl)) dX7_lots_67 ⟨Nat.le_of_ble_eq_true rfl, Nat.le_of_ble_eq_true rfl⟩) (fun r3 h hz_r3 => ?_)
          try dsimp only at h
          refine lv_if_eq (tgt := 76) hx hb dX7_lots_70 (by decide) (fun hc => ?_) (fun hc => ?_)
          · have h := h.1 hc
            refine lv_lload_n hx hb dX7_lots_76 rfl (lv_at hl 3 rfl) ?_
            refine lv_ldc2 (v := (48271)) hx hb hown (hts _ k_X7_lots_3) dX7_lots_77 ?_
            refine lv_lmul hx hb dX7_lots_80 ?_
            refine lv_ldc2 (v := (2147483647)) hx hb hown (hts _ k_X7_lots_1) dX7_lots_81 ?_
            refine lv_lrem hx hb dX7_lots_84 (by decide) ?_
            refine lv_lstore_n (lv' := [(3, .long ((x3 * (48271 : Int64)) - (x3 * (48271 : Int64)) / (2147483647 : Int64) * (2147483647 : Int64))), (7, .int r2), (0, .ref (a 0)), (1, .int n), (5, .int x5), (6, .int x6)]) hx hb dX7_lots_85 rfl hl (by decide) rfl (fun ls hl => ?_)
            refine lv_iload hx hb dX7_lots_86 (lv_at hl 4 rfl) ?_
            refine lv_aload_n hx hb dX7_lots_88 rfl (lv_at hl 2 rfl) ?_
            refine va_get (D := D) (ci := 6) (v := .ref (aH 0)) (C := RX7) (T := TX7) (N := 10) hx hb hts hi_X7_lots_X7 hown hK.1 hP 0 rfl rfl 2 (by decide) (hts _ k_X7_lots_2) (fun _ h9 => h9) rfl dX7_lots_89 ?_
            refine lv_iload hx hb dX7_lots_92 (lv_at hl 1 rfl) ?_
            refine lv_lload_n hx hb dX7_lots_94 rfl (lv_at hl 0 rfl) ?_
            refine lv_iload hx hb dX7_lots_95 (lv_at hl 1 rfl) ?_
            refine rd_calli (va_runS (As := [.int r2]) (rest := [.long ((x3 * (48271 : Int64)) - (x3 * (48271 : Int64)) / (2147483647 : Int64) * (2147483647 : Int64)), .int r2, .ref (aH 0), .int x5]) ⟨hx, hb, hml, hown, hts⟩ (c_J6_bitCount_0f7a4 l D ca   r2 _ h) (va_cwS 1 hts gX7_lots_J6_bitCount_0f7a4 rfl rfl rfl (by decide +kernel) ⟨Nat.le_of_ble_eq_true rfl, Nat.le_of_ble_eq_true rfl⟩) (PcX.preS hK (fun k q h => by simp at h)) rfl rfl hl.1 rfl (lv_room (Nat.le_of_ble_eq_true rfl)) dX7_lots_97 ⟨Nat.le_of_ble_eq_true rfl, Nat.le_of_ble_eq_true rfl⟩) (fun r4 h => ?_)
            try dsimp only at h
            refine lv_i2l hx hb dX7_lots_100 rfl ?_
            obtain ⟨h0, h⟩ := h
            refine lv_lrem hx hb dX7_lots_101 h0 ?_
            refine lv_l2i hx hb dX7_lots_102 rfl ?_
            refine rd_calli (va_runS (As := [.int r2, .int ((((x3 * (48271 : Int64)) - (x3 * (48271 : Int64)) / (2147483647 : Int64) * (2147483647 : Int64)) - ((x3 * (48271 : Int64)) - (x3 * (48271 : Int64)) / (2147483647 : Int64) * (2147483647 : Int64)) / r4.toInt64 * r4.toInt64).toInt32)]) (rest := [.ref (aH 0), .int x5]) ⟨hx, hb, hml, hown, hts⟩ (c_X7_numberAt l D ca   r2 ((((x3 * (48271 : Int64)) - (x3 * (48271 : Int64)) / (2147483647 : Int64) * (2147483647 : Int64)) - ((x3 * (48271 : Int64)) - (x3 * (48271 : Int64)) / (2147483647 : Int64) * (2147483647 : Int64)) / r4.toInt64 * r4.toInt64).toInt32) _ h) (va_cwS 2 hts gX7_lots_X7_numberAt rfl rfl rfl (by decide +kernel) ⟨Nat.le_of_ble_eq_true rfl, Nat.le_of_ble_eq_true rfl⟩) (PcX.preS hK (fun k q h => by simp at h)) rfl rfl hl.1 rfl (lv_room (Nat.le_of_ble_eq_true rfl)) dX7_lots_103 ⟨Nat.le_of_ble_eq_true rfl, Nat.le_of_ble_eq_true rfl⟩) (fun r5 h => ?_)
            try dsimp only at h
            refine wr_calli (ws1 := fun u => (W_X7 a aR aT aH aD aK aI aC aS aY lastTold) ++ (W_X1 ca aH heap_kinds heap_whos heap_toWhoms heap_topics heap_weights heap_answered u.1 heap_size u.2.1 u.2.2)) (wr := ([0] : List Nat).filterMap (fun i => ((W_X7 a aR aT aH aD aK aI aC aS aY lastTold) ++ (W_X1 ca aH heap_kinds heap_whos heap_toWhoms heap_topics heap_weights heap_answered heap_deeds heap_size heap_saidBits heap_deedCount) : va_W)[i]?)) (n := 9) (va_runV (As := [.int r5]) (rest := [.int x5]) ⟨hx, hb, hml, hown, hts⟩ (c_X1_takeBack l D ca aH heap_kinds heap_whos heap_toWhoms heap_topics heap_weights heap_answered heap_deeds heap_size heap_saidBits heap_deedCount r5 _ (hD.subM [1, 2, 3, 4, 5, 6, 7, 8] (by decide) rfl) h) (cwV 1 hts gX7_lots_X1_takeBack rfl rfl rfl (by decide +kernel) ⟨Nat.le_of_ble_eq_true rfl, Nat.le_of_ble_eq_true rfl⟩) (PcX.preV (q := (RX1, TX1, 10)) (ci := 1) (q0 := 1) hK hP rfl rfl (hP.subM [1, 2, 3, 4, 5, 6, 7, 8] rfl)) rfl rfl hl.1 rfl (lv_room (Nat.le_of_ble_eq_true rfl)) dX7_lots_106 ⟨Nat.le_of_ble_eq_true rfl, Nat.le_of_ble_eq_true rfl⟩) hP hD hS [1, 2, 3, 4, 5, 6, 7, 8] [0] rfl (fun _ => rfl) rfl (fun _ => rfl) (fun _ => rfl) (fun _ => rfl) (by decide +kernel) (by decide +kernel) (fun r6 u H locs h hP hD hS => ?_)
            obtain ⟨heap_deeds_7, heap_saidBits_8, heap_deedCount_9⟩ := u
            have hP : va_P D vwCl ((W_X7 a aR aT aH aD aK aI aC aS aY lastTold) ++ (W_X1 ca aH heap_kinds heap_whos heap_toWhoms heap_topics heap_weights heap_answered heap_deeds_7 heap_size heap_saidBits_8 heap_deedCount_9)) H := hP
            have hD : va_D _ ((W_X7 a aR aT aH aD aK aI aC aS aY lastTold) ++ (W_X1 ca aH heap_kinds heap_whos heap_toWhoms heap_topics heap_weights heap_answered heap_deeds_7 heap_size heap_saidBits_8 heap_deedCount_9)) := hD
            try dsimp only at h
            refine lv_iadd hx hb dX7_lots_109 ?_
            refine lv_istore (lv' := [(5, .int (x5 + r6)), (3, .long ((x3 * (48271 : Int64)) - (x3 * (48271 : Int64)) / (2147483647 : Int64) * (2147483647 : Int64))), (7, .int r2), (0, .ref (a 0)), (1, .int n), (6, .int x6)]) hx hb dX7_lots_110 hl (by decide) rfl (fun ls hl => ?_)
            refine lv_iinc (v := x6 + 1) (lv' := [(6, .int (x6 + 1)), (5, .int (x5 + r6)), (3, .long ((x3 * (48271 : Int64)) - (x3 * (48271 : Int64)) / (2147483647 : Int64) * (2147483647 : Int64))), (7, .int r2), (0, .ref (a 0)), (1, .int n)]) hx hb dX7_lots_112 hl (k := 5) rfl rfl (by decide) rfl (fun ls hl => ?_)
            refine lv_goto (tgt := 36) hx hb dX7_lots_115 (by decide) ?_
            exact ih36 heap_deeds_7 heap_saidBits_8 heap_deedCount_9 ((x3 * (48271 : Int64)) - (x3 * (48271 : Int64)) / (2147483647 : Int64) * (2147483647 : Int64)) (x5 + r6) (x6 + 1) h _ _ hP hD hS ls (lv_sub hl [4, 5, 2, 1, 0] rfl)
          · have h := h.2 hc
            refine lv_goto (tgt := 118) hx hb dX7_lots_73 (by decide) ?_
            refine lv_iload hx hb dX7_lots_118 (lv_at hl 4 rfl) ?_
            exact W.iret (v := x5) hx hb hr (fun t ht hW => ⟨⟨x5, (heap_deeds, heap_saidBits, heap_deedCount), rfl, h, by rw [ht]; exact hP⟩, hS.F ht⟩) hS.2.2 dX7_lots_120
  unfold wp_X7_lots at h
  refine lv_iload_n hx hb dX7_lots_0 rfl (lv_at hl 1 rfl) ?_
  refine lv_iconst (v := (1)) hx hb dX7_lots_1 (by decide) ?_
  refine lv_icmp_lt (tgt := 25) hx hb dX7_lots_2 (by decide) (fun hc => ?_) (fun hc => ?_)
  · have h := h.1 hc
    refine lv_iconst (v := (-1)) hx hb dX7_lots_25 (by decide) ?_
    exact W.iret (v := (-1 : Int32)) hx hb hr (fun t ht hW => ⟨⟨(-1 : Int32), (heap_deeds, heap_saidBits, heap_deedCount), rfl, h, by rw [ht]; exact hP⟩, hS.F ht⟩) hS.2.2 dX7_lots_26
  · have h := h.2 hc
    refine lv_iload_n hx hb dX7_lots_5 rfl (lv_at hl 1 rfl) ?_
    refine lv_bipush (v := (12)) hx hb dX7_lots_6 (by decide) ?_
    refine lv_icmp_gt (tgt := 25) hx hb dX7_lots_8 (by decide) (fun hc => ?_) (fun hc => ?_)
    · have h := h.1 hc
      refine lv_iconst (v := (-1)) hx hb dX7_lots_25 (by decide) ?_
      exact W.iret (v := (-1 : Int32)) hx hb hr (fun t ht hW => ⟨⟨(-1 : Int32), (heap_deeds, heap_saidBits, heap_deedCount), rfl, h, by rw [ht]; exact hP⟩, hS.F ht⟩) hS.2.2 dX7_lots_26
    · have h := h.2 hc
      refine lv_iload_n hx hb dX7_lots_11 rfl (lv_at hl 2 rfl) ?_
      refine lv_iconst (v := (1)) hx hb dX7_lots_12 (by decide) ?_
      refine lv_icmp_lt (tgt := 25) hx hb dX7_lots_13 (by decide) (fun hc => ?_) (fun hc => ?_)
      · have h := h.1 hc
        refine lv_iconst (v := (-1)) hx hb dX7_lots_25 (by decide) ?_
        exact W.iret (v := (-1 : Int32)) hx hb hr (fun t ht hW => ⟨⟨(-1 : Int32), (heap_deeds, heap_saidBits, heap_deedCount), rfl, h, by rw [ht]; exact hP⟩, hS.F ht⟩) hS.2.2 dX7_lots_26
      · have h := h.2 hc
        refine lv_iload_n hx hb dX7_lots_16 rfl (lv_at hl 2 rfl) ?_
        refine lv_i2l hx hb dX7_lots_17 rfl ?_
        refine lv_ldc2 (v := (2147483647)) hx hb hown (hts _ k_X7_lots_1) dX7_lots_18 ?_
        refine W.lcmp hx hb dX7_lots_21 ?_
        refine lv_if_lt (tgt := 27) hx hb dX7_lots_22 (by decide) (fun hc => ?_) (fun hc => ?_)
        · have h := h.1 hc
          refine lv_iload_n hx hb dX7_lots_27 rfl (lv_at hl 2 rfl) ?_
          refine lv_i2l hx hb dX7_lots_28 rfl ?_
          refine lv_lstore_n (lv' := [(3, .long seed.toInt64), (0, .ref (a 0)), (1, .int n), (2, .int seed)]) hx hb dX7_lots_29 rfl hl (by decide) rfl (fun ls hl => ?_)
          refine lv_iconst (v := (0)) hx hb dX7_lots_30 (by decide) ?_
          refine lv_istore (lv' := [(5, .int (0 : Int32)), (3, .long seed.toInt64), (0, .ref (a 0)), (1, .int n), (2, .int seed)]) hx hb dX7_lots_31 hl (by decide) rfl (fun ls hl => ?_)
          refine lv_iconst (v := (0)) hx hb dX7_lots_33 (by decide) ?_
          refine lv_istore (lv' := [(6, .int (0 : Int32)), (5, .int (0 : Int32)), (3, .long seed.toInt64), (0, .ref (a 0)), (1, .int n), (2, .int seed)]) hx hb dX7_lots_34 hl (by decide) rfl (fun ls hl => ?_)
          obtain ⟨zn, h⟩ := h
          exact w_36  zn heap_deeds heap_saidBits heap_deedCount seed.toInt64 (0 : Int32) (0 : Int32) h _ _ hP hD hS ls (lv_sub hl [3, 4, 2, 1, 0] rfl)
        · have h := h.2 hc
          refine lv_iconst (v := (-1)) hx hb dX7_lots_25 (by decide) ?_
          exact W.iret (v := (-1 : Int32)) hx hb hr (fun t ht hW => ⟨⟨(-1 : Int32), (heap_deeds, heap_saidBits, heap_deedCount), rfl, h, by rw [ht]; exact hP⟩, hS.F ht⟩) hS.2.2 dX7_lots_26

-- IronedQuarrels.asked()I
def wp_X7_asked (lastTold : Int32) (post : Int32 → Prop) : Prop :=
  post lastTold
def rm_X7_asked : Room := { frames := 0, cells := 0, slots := 0, locals := 0 }
theorem k_X7_asked_1 : Cond.fieldLink RX7 63 "IronedQuarrels" "lastTold" "I" ∈ wsX7_asked := List.mem_of_getElem? (i := 1) (by decide +kernel)
theorem hi_X7_asked_X7 : ∀ w ∈ wsX70, w ∈ wsX7_asked := fun w h => List.mem_cons_of_mem _ (List.mem_append_right _ h)
set_option maxHeartbeats 4000000 in
set_option maxRecDepth 100000 in
theorem c_X7_asked (l : Launch) (D : va_G) (ca : Nat → ClassId) (a : Nat → Nat) (aR : Nat → Nat) (aT : Nat → Nat) (aH : Nat → Nat) (aD : Nat → Nat) (aK : Nat) (aI : Nat → Nat) (aC : Nat → Nat) (aS : Nat → Nat) (aY : Nat → Nat) (lastTold : Int32)  (post : Int32 → Prop) (h : wp_X7_asked lastTold post) : Met l yX7_asked wsX7_asked rm_X7_asked (PcX D ca [.ref (a 0)] (W_X7 a aR aT aH aD aK aI aC aS aY lastTold)) (rdI post) 0 0 (fun _ => False) := by
  refine Met.ofW (cc := cX7_asked) (maxL := 1) (ret := (some .int)) (by decide) rfl ?_
  intro zp ze zs zm za zb zt zc z1 B hml hv
  obtain ⟨rfl, hP, hK⟩ := hv
  have hx := B.exec
  have hb := B.bytes
  have hr := B.returns
  have hts := atoms_spec (ws := wsX7_asked) B.pre
  have hown : zs.vm.findClass RX7 = some zm.cls := findClass_of_methodNamed B.named
  have hlocks := B.notSynchronized
  have hl := lv_entry ([.ref (a 0)]) (n := 1) (Nat.le_of_ble_eq_true rfl)
  rw [lg_entry_eq]
  generalize (lg_sl ([.ref (a 0)]) ++ List.replicate (1 - (lg_sl ([.ref (a 0)])).length) Slot.unset).toArray = ls at hl ⊢
  replace hl : lv_has ls 1 [(0, .ref (a 0))] := hl
  show W zp l ze rm_X7_asked zs zm ([.ref (a 0)] : List Value).toArray zb zt zc zs.heap [] 0 0 (MQ zb (rdI post) ([.ref (a 0)] : List Value).toArray zs 0 0 (fun _ => False)) (F0 zm 0 ls [])
  unfold wp_X7_asked at h
  refine lv_aload_n hx hb dX7_asked_0 rfl (lv_at hl 0 rfl) ?_
  refine va_get (D := D) (ci := 6) (v := .int lastTold) (C := RX7) (T := TX7) (N := 10) hx hb hts hi_X7_asked_X7 hown hK.1 hP 0 rfl rfl 9 (by decide) (hts _ k_X7_asked_1) (fun _ h9 => h9) rfl dX7_asked_1 ?_
  exact W.iret (v := lastTold) hx hb hr (fun t ht hW => ⟨lastTold, rfl, h, ht⟩) (fun q hq => absurd hq List.not_mem_nil) dX7_asked_4

-- IronedQuarrels.upper()J
def wp_X7_upper (share_top : Int64) (post : Int64 → Prop) : Prop :=
  wp_X4_top share_top (fun r1 => post r1)
def rm_X7_upper : Room := { frames := 1, cells := 0, slots := 0, locals := 20 }
theorem k_X7_upper_1 : Cond.fieldLink RX7 52 "IronedQuarrels" "share" "LIronedQuarrels$Share;" ∈ wsX7_upper := List.mem_of_getElem? (i := 1) (by decide +kernel)
theorem hi_X7_upper_X4 : ∀ w ∈ wsX40, w ∈ wsX7_upper := fun w h => List.mem_cons_of_mem _ (List.mem_append_right _ h)
theorem hi_X7_upper_X7 : ∀ w ∈ wsX70, w ∈ wsX7_upper := fun w h => List.mem_cons_of_mem _ (List.mem_append_left _ (List.mem_append_right _ h))
set_option maxHeartbeats 4000000 in
set_option maxRecDepth 100000 in
theorem c_X7_upper (l : Launch) (D : va_G) (ca : Nat → ClassId) (a : Nat → Nat) (aR : Nat → Nat) (aT : Nat → Nat) (aH : Nat → Nat) (aD : Nat → Nat) (aK : Nat) (aI : Nat → Nat) (aC : Nat → Nat) (aS : Nat → Nat) (aY : Nat → Nat) (lastTold : Int32) (share_top : Int64) (share_bottom : Int64)  (post : Int64 → Prop) (h : wp_X7_upper share_top post) : Met l yX7_upper wsX7_upper rm_X7_upper (PcX D ca [.ref (a 0)] ((W_X7 a aR aT aH aD aK aI aC aS aY lastTold) ++ (W_X4 ca aS share_top share_bottom))) (rdL post) 0 0 (fun _ => False) := by
  refine Met.ofW (cc := cX7_upper) (maxL := 1) (ret := (some .long)) (by decide) rfl ?_
  intro zp ze zs zm za zb zt zc z1 B hml hv
  obtain ⟨rfl, hP, hK⟩ := hv
  have hx := B.exec
  have hb := B.bytes
  have hr := B.returns
  have hts := atoms_spec (ws := wsX7_upper) B.pre
  have hown : zs.vm.findClass RX7 = some zm.cls := findClass_of_methodNamed B.named
  have hlocks := B.notSynchronized
  have hl := lv_entry ([.ref (a 0)]) (n := 1) (Nat.le_of_ble_eq_true rfl)
  rw [lg_entry_eq]
  generalize (lg_sl ([.ref (a 0)]) ++ List.replicate (1 - (lg_sl ([.ref (a 0)])).length) Slot.unset).toArray = ls at hl ⊢
  replace hl : lv_has ls 1 [(0, .ref (a 0))] := hl
  show W zp l ze rm_X7_upper zs zm ([.ref (a 0)] : List Value).toArray zb zt zc zs.heap [] 0 0 (MQ zb (rdL post) ([.ref (a 0)] : List Value).toArray zs 0 0 (fun _ => False)) (F0 zm 0 ls [])
  unfold wp_X7_upper at h
  refine lv_aload_n hx hb dX7_upper_0 rfl (lv_at hl 0 rfl) ?_
  refine va_get (D := D) (ci := 6) (v := .ref (aS 0)) (C := RX7) (T := TX7) (N := 10) hx hb hts hi_X7_upper_X7 hown hK.1 hP 0 rfl rfl 7 (by decide) (hts _ k_X7_upper_1) (fun _ h9 => h9) rfl dX7_upper_1 ?_
  refine rd_calll (va_runV (As := []) (rest := []) ⟨hx, hb, hml, hown, hts⟩ (c_X4_top l D ca aS share_top share_bottom  _ h) (cwV 0 hts gX7_upper_X4_top rfl rfl rfl (by decide +kernel) ⟨Nat.le_of_ble_eq_true rfl, Nat.le_of_ble_eq_true rfl⟩) (PcX.preV (q := (RX4, TX4, 2)) (ci := 3) (q0 := 1) hK hP rfl rfl (hP.subM [1] rfl)) rfl rfl hl.1 rfl (lv_room (Nat.le_of_ble_eq_true rfl)) dX7_upper_4 ⟨Nat.le_of_ble_eq_true rfl, Nat.le_of_ble_eq_true rfl⟩) (fun r1 h => ?_)
  try dsimp only at h
  exact W.lret (v := r1) hx hb hr (fun t ht hW => ⟨r1, rfl, h, ht⟩) (fun q hq => absurd hq List.not_mem_nil) dX7_upper_7

-- IronedQuarrels.lower()J
def wp_X7_lower (share_bottom : Int64) (post : Int64 → Prop) : Prop :=
  wp_X4_bottom share_bottom (fun r1 => post r1)
def rm_X7_lower : Room := { frames := 1, cells := 0, slots := 0, locals := 20 }
theorem k_X7_lower_1 : Cond.fieldLink RX7 52 "IronedQuarrels" "share" "LIronedQuarrels$Share;" ∈ wsX7_lower := List.mem_of_getElem? (i := 1) (by decide +kernel)
theorem hi_X7_lower_X4 : ∀ w ∈ wsX40, w ∈ wsX7_lower := fun w h => List.mem_cons_of_mem _ (List.mem_append_right _ h)
theorem hi_X7_lower_X7 : ∀ w ∈ wsX70, w ∈ wsX7_lower := fun w h => List.mem_cons_of_mem _ (List.mem_append_left _ (List.mem_append_right _ h))
set_option maxHeartbeats 4000000 in
set_option maxRecDepth 100000 in
theorem c_X7_lower (l : Launch) (D : va_G) (ca : Nat → ClassId) (a : Nat → Nat) (aR : Nat → Nat) (aT : Nat → Nat) (aH : Nat → Nat) (aD : Nat → Nat) (aK : Nat) (aI : Nat → Nat) (aC : Nat → Nat) (aS : Nat → Nat) (aY : Nat → Nat) (lastTold : Int32) (share_top : Int64) (share_bottom : Int64)  (post : Int64 → Prop) (h : wp_X7_lower share_bottom post) : Met l yX7_lower wsX7_lower rm_X7_lower (PcX D ca [.ref (a 0)] ((W_X7 a aR aT aH aD aK aI aC aS aY lastTold) ++ (W_X4 ca aS share_top share_bottom))) (rdL post) 0 0 (fun _ => False) := by
  refine Met.ofW (cc := cX7_lower) (maxL := 1) (ret := (some .long)) (by decide) rfl ?_
  intro zp ze zs zm za zb zt zc z1 B hml hv
  obtain ⟨rfl, hP, hK⟩ := hv
  have hx := B.exec
  have hb := B.bytes
  have hr := B.returns
  have hts := atoms_spec (ws := wsX7_lower) B.pre
  have hown : zs.vm.findClass RX7 = some zm.cls := findClass_of_methodNamed B.named
  have hlocks := B.notSynchronized
  have hl := lv_entry ([.ref (a 0)]) (n := 1) (Nat.le_of_ble_eq_true rfl)
  rw [lg_entry_eq]
  generalize (lg_sl ([.ref (a 0)]) ++ List.replicate (1 - (lg_sl ([.ref (a 0)])).length) Slot.unset).toArray = ls at hl ⊢
  replace hl : lv_has ls 1 [(0, .ref (a 0))] := hl
  show W zp l ze rm_X7_lower zs zm ([.ref (a 0)] : List Value).toArray zb zt zc zs.heap [] 0 0 (MQ zb (rdL post) ([.ref (a 0)] : List Value).toArray zs 0 0 (fun _ => False)) (F0 zm 0 ls [])
  unfold wp_X7_lower at h
  refine lv_aload_n hx hb dX7_lower_0 rfl (lv_at hl 0 rfl) ?_
  refine va_get (D := D) (ci := 6) (v := .ref (aS 0)) (C := RX7) (T := TX7) (N := 10) hx hb hts hi_X7_lower_X7 hown hK.1 hP 0 rfl rfl 7 (by decide) (hts _ k_X7_lower_1) (fun _ h9 => h9) rfl dX7_lower_1 ?_
  refine rd_calll (va_runV (As := []) (rest := []) ⟨hx, hb, hml, hown, hts⟩ (c_X4_bottom l D ca aS share_top share_bottom  _ h) (cwV 0 hts gX7_lower_X4_bottom rfl rfl rfl (by decide +kernel) ⟨Nat.le_of_ble_eq_true rfl, Nat.le_of_ble_eq_true rfl⟩) (PcX.preV (q := (RX4, TX4, 2)) (ci := 3) (q0 := 1) hK hP rfl rfl (hP.subM [1] rfl)) rfl rfl hl.1 rfl (lv_room (Nat.le_of_ble_eq_true rfl)) dX7_lower_4 ⟨Nat.le_of_ble_eq_true rfl, Nat.le_of_ble_eq_true rfl⟩) (fun r1 h => ?_)
  try dsimp only at h
  exact W.lret (v := r1) hx hb hr (fun t ht hW => ⟨r1, rfl, h, ht⟩) (fun q hq => absurd hq List.not_mem_nil) dX7_lower_7

-- IronedQuarrels.howManyKept()I
def wb_X7_howManyKept_4 (kept : Nat → Option Nat) (post : Int32 → Prop) (K4 : (Int32) → (Int32) → Prop) (x1 : Int32) (x2 : Int32) : Prop :=
  ((3 : Int32) ≤ x2 → (post x1)) ∧ (¬ (3 : Int32) ≤ x2 → (vp_in x2 3 ∧ ((kept x2.toNatClampNeg) = none → (K4 x1 (x2 + 1))) ∧ (¬ (kept x2.toNatClampNeg) = none → (K4 (x1 + 1) (x2 + 1)))))
def wl_X7_howManyKept_4 (kept : Nat → Option Nat) (post : Int32 → Prop) : Nat → (Int32) → (Int32) → Prop
  | 0 => fun _ _ => False
  | zn + 1 => wb_X7_howManyKept_4 kept post (wl_X7_howManyKept_4 kept post zn)
def wp_X7_howManyKept (kept : Nat → Option Nat) (post : Int32 → Prop) : Prop :=
  ∃ zn, wl_X7_howManyKept_4 kept post zn (0 : Int32) (0 : Int32)
def rm_X7_howManyKept : Room := { frames := 0, cells := 0, slots := 0, locals := 0 }
theorem k_X7_howManyKept_1 : Cond.fieldLink RX7 31 "IronedQuarrels" "kept" "[LIronedQuarrels$Heap;" ∈ wsX7_howManyKept := List.mem_of_getElem? (i := 1) (by decide +kernel)
theorem hi_X7_howManyKept_X7 : ∀ w ∈ wsX70, w ∈ wsX7_howManyKept := fun w h => List.mem_cons_of_mem _ (List.mem_append_right _ h)
set_option maxHeartbeats 4000000 in
set_option maxRecDepth 100000 in
theorem c_X7_howManyKept (l : Launch) (D : va_G) (ca : Nat → ClassId) (a : Nat → Nat) (aR : Nat → Nat) (aT : Nat → Nat) (aH : Nat → Nat) (aD : Nat → Nat) (aK : Nat) (aI : Nat → Nat) (aC : Nat → Nat) (aS : Nat → Nat) (aY : Nat → Nat) (lastTold : Int32) (kept : Nat → Option Nat)  (post : Int32 → Prop) (h : wp_X7_howManyKept kept post) : Met l yX7_howManyKept wsX7_howManyKept rm_X7_howManyKept (PcX D ca [.ref (a 0)] ((W_X7 a aR aT aH aD aK aI aC aS aY lastTold) ++ (W_K ca aK kept))) (rdI post) 0 0 (fun _ => False) := by
  refine Met.ofW (cc := cX7_howManyKept) (maxL := 3) (ret := (some .int)) (by decide) rfl ?_
  intro zp ze zs zm za zb zt zc z1 B hml hv
  obtain ⟨rfl, hP, hK⟩ := hv
  have hx := B.exec
  have hb := B.bytes
  have hr := B.returns
  have hts := atoms_spec (ws := wsX7_howManyKept) B.pre
  have hown : zs.vm.findClass RX7 = some zm.cls := findClass_of_methodNamed B.named
  have hlocks := B.notSynchronized
  have hl := lv_entry ([.ref (a 0)]) (n := 3) (Nat.le_of_ble_eq_true rfl)
  rw [lg_entry_eq]
  generalize (lg_sl ([.ref (a 0)]) ++ List.replicate (3 - (lg_sl ([.ref (a 0)])).length) Slot.unset).toArray = ls at hl ⊢
  replace hl : lv_has ls 3 [(0, .ref (a 0))] := hl
  show W zp l ze rm_X7_howManyKept zs zm ([.ref (a 0)] : List Value).toArray zb zt zc zs.heap [] 0 0 (MQ zb (rdI post) ([.ref (a 0)] : List Value).toArray zs 0 0 (fun _ => False)) (F0 zm 0 ls [])
  have w_4 : ∀ (zn : Nat) (x1 : Int32) (x2 : Int32), wl_X7_howManyKept_4 kept post zn x1 x2 → ∀ ls : Array Slot, lv_has ls 3 [(0, .ref (a 0)), (1, .int x1), (2, .int x2)] → W zp l ze rm_X7_howManyKept zs zm ([.ref (a 0)] : List Value).toArray zb zt zc zs.heap [] 0 0 (MQ zb (rdI post) ([.ref (a 0)] : List Value).toArray zs 0 0 (fun _ => False)) (F0 zm 4 ls []) := by
    intro zn
    induction zn with
    | zero => intro x1 x2 h; exact h.elim
    | succ zn ih4 =>
      intro x1 x2 h ls hl
      replace h : wb_X7_howManyKept_4 kept post (wl_X7_howManyKept_4 kept post zn) x1 x2 := h
      unfold wb_X7_howManyKept_4 at h
      refine lv_iload_n hx hb dX7_howManyKept_4 rfl (lv_at hl 2 rfl) ?_
      refine lv_iconst (v := (3)) hx hb dX7_howManyKept_5 (by decide) ?_
      refine lv_icmp_ge (tgt := 27) hx hb dX7_howManyKept_6 (by decide) (fun hc => ?_) (fun hc => ?_)
      · have h := h.1 hc
        refine lv_iload_n hx hb dX7_howManyKept_27 rfl (lv_at hl 1 rfl) ?_
        exact W.iret (v := x1) hx hb hr (fun t ht hW => ⟨x1, rfl, h, ht⟩) (fun q hq => absurd hq List.not_mem_nil) dX7_howManyKept_28
      · have h := h.2 hc
        refine lv_aload_n hx hb dX7_howManyKept_9 rfl (lv_at hl 0 rfl) ?_
        refine va_get (D := D) (ci := 6) (v := .ref aK) (C := RX7) (T := TX7) (N := 10) hx hb hts hi_X7_howManyKept_X7 hown hK.1 hP 0 rfl rfl 4 (by decide) (hts _ k_X7_howManyKept_1) (fun _ h9 => h9) rfl dX7_howManyKept_10 ?_
        refine lv_iload_n hx hb dX7_howManyKept_13 rfl (lv_at hl 2 rfl) ?_
        obtain ⟨hi, h⟩ := h
        refine x_aldq hx hb hK hP 1 rfl hi dX7_howManyKept_14 ?_
        refine x_nul (tgt := 21) hx hb dX7_howManyKept_15 (by decide) (fun hc => ?_) (fun hc => ?_)
        · have h := h.1 hc
          refine lv_iinc (v := x2 + 1) (lv' := [(2, .int (x2 + 1)), (0, .ref (a 0)), (1, .int x1)]) hx hb dX7_howManyKept_21 hl (k := 2) rfl rfl (by decide) rfl (fun ls hl => ?_)
          refine lv_goto (tgt := 4) hx hb dX7_howManyKept_24 (by decide) ?_
          exact ih4 x1 (x2 + 1) h ls (lv_sub hl [1, 2, 0] rfl)
        · have h := h.2 hc
          refine lv_iinc (v := x1 + 1) (lv' := [(1, .int (x1 + 1)), (0, .ref (a 0)), (2, .int x2)]) hx hb dX7_howManyKept_18 hl (k := 1) rfl rfl (by decide) rfl (fun ls hl => ?_)
          refine lv_iinc (v := x2 + 1) (lv' := [(2, .int (x2 + 1)), (1, .int (x1 + 1)), (0, .ref (a 0))]) hx hb dX7_howManyKept_21 hl (k := 2) rfl rfl (by decide) rfl (fun ls hl => ?_)
          refine lv_goto (tgt := 4) hx hb dX7_howManyKept_24 (by decide) ?_
          exact ih4 (x1 + 1) (x2 + 1) h ls (lv_sub hl [2, 1, 0] rfl)
  unfold wp_X7_howManyKept at h
  refine lv_iconst (v := (0)) hx hb dX7_howManyKept_0 (by decide) ?_
  refine lv_istore_n (lv' := [(1, .int (0 : Int32)), (0, .ref (a 0))]) hx hb dX7_howManyKept_1 rfl hl (by decide) rfl (fun ls hl => ?_)
  refine lv_iconst (v := (0)) hx hb dX7_howManyKept_2 (by decide) ?_
  refine lv_istore_n (lv' := [(2, .int (0 : Int32)), (1, .int (0 : Int32)), (0, .ref (a 0))]) hx hb dX7_howManyKept_3 rfl hl (by decide) rfl (fun ls hl => ?_)
  obtain ⟨zn, h⟩ := h
  exact w_4  zn (0 : Int32) (0 : Int32) h ls (lv_sub hl [2, 1, 0] rfl)

-- IronedQuarrels.count(I)I
def wp_X7_count (rows_ns : Nat) (rows_sizes : Nat → Int32) (texts_ns : Nat) (texts_sizes : Nat → Int32) (heap_kinds : Nat → Int32) (heap_whos : Nat → Int32) (heap_toWhoms : Nat → Int32) (heap_topics : Nat → Int32) (heap_weights : Nat → Int32) (heap_answered : Nat → Int32) (heap_size : Int32) (heap_saidBits : Int32) (heap_deedCount : Int32) (kept : Nat → Option Nat) (what : Int32) (post : Int32 → Prop) : Prop :=
  (what = 0 → (wp_X1_howMany heap_size (fun r1 => post r1))) ∧ (what = 1 → (wp_X1_saidBits heap_saidBits (fun r2 => wp_J6_bitCount_0f7a4 r2 (fun r3 => post r3)))) ∧ (what = 2 → (wp_X1_howManyDeeds heap_deedCount (fun r4 => post r4))) ∧ (what = 3 → (wp_X1_saidBits heap_saidBits (fun r5 => wp_X1_pricesOf heap_kinds heap_whos heap_toWhoms heap_topics heap_weights heap_size heap_saidBits r5 (fun r6 => post r6)))) ∧ (what = 4 → (wp_X1_beginners heap_whos heap_answered heap_size (fun r7 => wp_J6_bitCount_0f7a4 r7 (fun r8 => post r8)))) ∧ (what = 5 → (wp_X1_howManyOf heap_kinds heap_size (1 : Int32) (fun r9 => post r9))) ∧ (what = 6 → (wp_X5_howManyThere rows_ns rows_sizes (fun r10 => post r10))) ∧ (what = 7 → (wp_X5_howManyThere texts_ns texts_sizes (fun r11 => post r11))) ∧ (what = 8 → (wp_X7_howManyKept kept (fun r12 => post r12))) ∧ (¬ what = 0 → ¬ what = 1 → ¬ what = 2 → ¬ what = 3 → ¬ what = 4 → ¬ what = 5 → ¬ what = 6 → ¬ what = 7 → ¬ what = 8 → (post (-1 : Int32)))
def rm_X7_count : Room := { frames := 5, cells := 0, slots := 0, locals := 110 }
theorem k_X7_count_1 : Cond.fieldLink RX7 24 "IronedQuarrels" "heap" "LIronedQuarrels$Heap;" ∈ wsX7_count := List.mem_of_getElem? (i := 1) (by decide +kernel)
theorem k_X7_count_2 : Cond.fieldLink RX7 14 "IronedQuarrels" "rows" "LIronedQuarrels$Shelf;" ∈ wsX7_count := List.mem_of_getElem? (i := 2) (by decide +kernel)
theorem k_X7_count_3 : Cond.fieldLink RX7 18 "IronedQuarrels" "texts" "LIronedQuarrels$Shelf;" ∈ wsX7_count := List.mem_of_getElem? (i := 3) (by decide +kernel)
theorem hi_X7_count_X1 : ∀ w ∈ wsX10, w ∈ wsX7_count := fun w h => List.mem_cons_of_mem _ (List.mem_append_left _ (List.mem_append_right _ h))
theorem hi_X7_count_X5 : ∀ w ∈ wsX50, w ∈ wsX7_count := fun w h => List.mem_cons_of_mem _ (List.mem_append_right _ h)
theorem hi_X7_count_X7 : ∀ w ∈ wsX70, w ∈ wsX7_count := fun w h => List.mem_cons_of_mem _ (List.mem_append_left _ (List.mem_append_left _ (List.mem_append_right _ h)))
set_option maxHeartbeats 4000000 in
set_option maxRecDepth 100000 in
theorem c_X7_count (l : Launch) (D : va_G) (ca : Nat → ClassId) (a : Nat → Nat) (aR : Nat → Nat) (aT : Nat → Nat) (aH : Nat → Nat) (aD : Nat → Nat) (aK : Nat) (aI : Nat → Nat) (aC : Nat → Nat) (aS : Nat → Nat) (aY : Nat → Nat) (lastTold : Int32) (rows_ns : Nat) (rows_nc : Nat) (rows_width : Int32) (rows_sizes : Nat → Int32) (rows_cells : Nat → Int32) (texts_ns : Nat) (texts_nc : Nat) (texts_width : Int32) (texts_sizes : Nat → Int32) (texts_cells : Nat → Int32) (heap_kinds : Nat → Int32) (heap_whos : Nat → Int32) (heap_toWhoms : Nat → Int32) (heap_topics : Nat → Int32) (heap_weights : Nat → Int32) (heap_answered : Nat → Int32) (heap_deeds : Nat → Int32) (heap_size : Int32) (heap_saidBits : Int32) (heap_deedCount : Int32) (kept : Nat → Option Nat) (what : Int32) (post : Int32 → Prop) (h : wp_X7_count rows_ns rows_sizes texts_ns texts_sizes heap_kinds heap_whos heap_toWhoms heap_topics heap_weights heap_answered heap_size heap_saidBits heap_deedCount kept what post) : Met l yX7_count wsX7_count rm_X7_count (PcX D ca [.ref (a 0), .int what] ((W_X7 a aR aT aH aD aK aI aC aS aY lastTold) ++ (W_X5 ca aR rows_ns rows_nc rows_width rows_sizes rows_cells) ++ (W_X5 ca aT texts_ns texts_nc texts_width texts_sizes texts_cells) ++ (W_X1 ca aH heap_kinds heap_whos heap_toWhoms heap_topics heap_weights heap_answered heap_deeds heap_size heap_saidBits heap_deedCount) ++ (W_K ca aK kept))) (rdI post) 0 0 (fun _ => False) := by
  refine Met.ofW (cc := cX7_count) (maxL := 2) (ret := (some .int)) (by decide) rfl ?_
  intro zp ze zs zm za zb zt zc z1 B hml hv
  obtain ⟨rfl, hP, hK⟩ := hv
  have hx := B.exec
  have hb := B.bytes
  have hr := B.returns
  have hts := atoms_spec (ws := wsX7_count) B.pre
  have hown : zs.vm.findClass RX7 = some zm.cls := findClass_of_methodNamed B.named
  have hlocks := B.notSynchronized
  have hl := lv_entry ([.ref (a 0), .int what]) (n := 2) (Nat.le_of_ble_eq_true rfl)
  rw [lg_entry_eq]
  generalize (lg_sl ([.ref (a 0), .int what]) ++ List.replicate (2 - (lg_sl ([.ref (a 0), .int what])).length) Slot.unset).toArray = ls at hl ⊢
  replace hl : lv_has ls 2 [(0, .ref (a 0)), (1, .int what)] := hl
  show W zp l ze rm_X7_count zs zm ([.ref (a 0), .int what] : List Value).toArray zb zt zc zs.heap [] 0 0 (MQ zb (rdI post) ([.ref (a 0), .int what] : List Value).toArray zs 0 0 (fun _ => False)) (F0 zm 0 ls [])
  unfold wp_X7_count at h
  refine lv_iload_n hx hb dX7_count_0 rfl (lv_at hl 1 rfl) ?_
  by_cases hc0 : what = 0
  · have h := h.1 hc0
    refine lv_tableIn (tgt := 52) hx hb dX7_count_1 (by rw [hc0]; decide) (by rw [hc0]; decide) (by rw [hc0]; rfl) (by decide) ?_
    refine lv_aload_n hx hb dX7_count_52 rfl (lv_at hl 0 rfl) ?_
    refine va_get (D := D) (ci := 6) (v := .ref (aH 0)) (C := RX7) (T := TX7) (N := 10) hx hb hts hi_X7_count_X7 hown hK.1 hP 0 rfl rfl 2 (by decide) (hts _ k_X7_count_1) (fun _ h9 => h9) rfl dX7_count_53 ?_
    refine rd_calli (va_runV (As := []) (rest := []) ⟨hx, hb, hml, hown, hts⟩ (c_X1_howMany l D ca aH heap_kinds heap_whos heap_toWhoms heap_topics heap_weights heap_answered heap_deeds heap_size heap_saidBits heap_deedCount  _ h) (cwV 0 hts gX7_count_X1_howMany rfl rfl rfl (by decide +kernel) ⟨Nat.le_of_ble_eq_true rfl, Nat.le_of_ble_eq_true rfl⟩) (PcX.preV (q := (RX1, TX1, 10)) (ci := 1) (q0 := 7) hK hP rfl rfl (hP.subM [7, 8, 9, 10, 11, 12, 13, 14] rfl)) rfl rfl hl.1 rfl (lv_room (Nat.le_of_ble_eq_true rfl)) dX7_count_56 ⟨Nat.le_of_ble_eq_true rfl, Nat.le_of_ble_eq_true rfl⟩) (fun r1 h => ?_)
    try dsimp only at h
    exact W.iret (v := r1) hx hb hr (fun t ht hW => ⟨r1, rfl, h, ht⟩) (fun q hq => absurd hq List.not_mem_nil) dX7_count_59
  · have h := h.2
    by_cases hc1 : what = 1
    · have h := h.1 hc1
      refine lv_tableIn (tgt := 60) hx hb dX7_count_1 (by rw [hc1]; decide) (by rw [hc1]; decide) (by rw [hc1]; rfl) (by decide) ?_
      refine lv_aload_n hx hb dX7_count_60 rfl (lv_at hl 0 rfl) ?_
      refine va_get (D := D) (ci := 6) (v := .ref (aH 0)) (C := RX7) (T := TX7) (N := 10) hx hb hts hi_X7_count_X7 hown hK.1 hP 0 rfl rfl 2 (by decide) (hts _ k_X7_count_1) (fun _ h9 => h9) rfl dX7_count_61 ?_
      refine rd_calli (va_runV (As := []) (rest := []) ⟨hx, hb, hml, hown, hts⟩ (c_X1_saidBits l D ca aH heap_kinds heap_whos heap_toWhoms heap_topics heap_weights heap_answered heap_deeds heap_size heap_saidBits heap_deedCount  _ h) (cwV 0 hts gX7_count_X1_saidBits rfl rfl rfl (by decide +kernel) ⟨Nat.le_of_ble_eq_true rfl, Nat.le_of_ble_eq_true rfl⟩) (PcX.preV (q := (RX1, TX1, 10)) (ci := 1) (q0 := 7) hK hP rfl rfl (hP.subM [7, 8, 9, 10, 11, 12, 13, 14] rfl)) rfl rfl hl.1 rfl (lv_room (Nat.le_of_ble_eq_true rfl)) dX7_count_64 ⟨Nat.le_of_ble_eq_true rfl, Nat.le_of_ble_eq_true rfl⟩) (fun r2 h => ?_)
      try dsimp only at h
      refine rd_calli (va_runS (As := [.int r2]) (rest := []) ⟨hx, hb, hml, hown, hts⟩ (c_J6_bitCount_0f7a4 l D ca   r2 _ h) (va_cwS 1 hts gX7_count_J6_bitCount_0f7a4 rfl rfl rfl (by decide +kernel) ⟨Nat.le_of_ble_eq_true rfl, Nat.le_of_ble_eq_true rfl⟩) (PcX.preS hK (fun k q h => by simp at h)) rfl rfl hl.1 rfl (lv_room (Nat.le_of_ble_eq_true rfl)) dX7_count_67 ⟨Nat.le_of_ble_eq_true rfl, Nat.le_of_ble_eq_true rfl⟩) (fun r3 h => ?_)
      try dsimp only at h
      exact W.iret (v := r3) hx hb hr (fun t ht hW => ⟨r3, rfl, h, ht⟩) (fun q hq => absurd hq List.not_mem_nil) dX7_count_70
    · have h := h.2
      by_cases hc2 : what = 2
      · have h := h.1 hc2
        refine lv_tableIn (tgt := 71) hx hb dX7_count_1 (by rw [hc2]; decide) (by rw [hc2]; decide) (by rw [hc2]; rfl) (by decide) ?_
        refine lv_aload_n hx hb dX7_count_71 rfl (lv_at hl 0 rfl) ?_
        refine va_get (D := D) (ci := 6) (v := .ref (aH 0)) (C := RX7) (T := TX7) (N := 10) hx hb hts hi_X7_count_X7 hown hK.1 hP 0 rfl rfl 2 (by decide) (hts _ k_X7_count_1) (fun _ h9 => h9) rfl dX7_count_72 ?_
        refine rd_calli (va_runV (As := []) (rest := []) ⟨hx, hb, hml, hown, hts⟩ (c_X1_howManyDeeds l D ca aH heap_kinds heap_whos heap_toWhoms heap_topics heap_weights heap_answered heap_deeds heap_size heap_saidBits heap_deedCount  _ h) (cwV 0 hts gX7_count_X1_howManyDeeds rfl rfl rfl (by decide +kernel) ⟨Nat.le_of_ble_eq_true rfl, Nat.le_of_ble_eq_true rfl⟩) (PcX.preV (q := (RX1, TX1, 10)) (ci := 1) (q0 := 7) hK hP rfl rfl (hP.subM [7, 8, 9, 10, 11, 12, 13, 14] rfl)) rfl rfl hl.1 rfl (lv_room (Nat.le_of_ble_eq_true rfl)) dX7_count_75 ⟨Nat.le_of_ble_eq_true rfl, Nat.le_of_ble_eq_true rfl⟩) (fun r4 h => ?_)
        try dsimp only at h
        exact W.iret (v := r4) hx hb hr (fun t ht hW => ⟨r4, rfl, h, ht⟩) (fun q hq => absurd hq List.not_mem_nil) dX7_count_78
      · have h := h.2
        by_cases hc3 : what = 3
        · have h := h.1 hc3
          refine lv_tableIn (tgt := 79) hx hb dX7_count_1 (by rw [hc3]; decide) (by rw [hc3]; decide) (by rw [hc3]; rfl) (by decide) ?_
          refine lv_aload_n hx hb dX7_count_79 rfl (lv_at hl 0 rfl) ?_
          refine va_get (D := D) (ci := 6) (v := .ref (aH 0)) (C := RX7) (T := TX7) (N := 10) hx hb hts hi_X7_count_X7 hown hK.1 hP 0 rfl rfl 2 (by decide) (hts _ k_X7_count_1) (fun _ h9 => h9) rfl dX7_count_80 ?_
          refine lv_aload_n hx hb dX7_count_83 rfl (lv_at hl 0 rfl) ?_
          refine va_get (D := D) (ci := 6) (v := .ref (aH 0)) (C := RX7) (T := TX7) (N := 10) hx hb hts hi_X7_count_X7 hown hK.1 hP 0 rfl rfl 2 (by decide) (hts _ k_X7_count_1) (fun _ h9 => h9) rfl dX7_count_84 ?_
          refine rd_calli (va_runV (As := []) (rest := [.ref (aH 0)]) ⟨hx, hb, hml, hown, hts⟩ (c_X1_saidBits l D ca aH heap_kinds heap_whos heap_toWhoms heap_topics heap_weights heap_answered heap_deeds heap_size heap_saidBits heap_deedCount  _ h) (cwV 0 hts gX7_count_X1_saidBits rfl rfl rfl (by decide +kernel) ⟨Nat.le_of_ble_eq_true rfl, Nat.le_of_ble_eq_true rfl⟩) (PcX.preV (q := (RX1, TX1, 10)) (ci := 1) (q0 := 7) hK hP rfl rfl (hP.subM [7, 8, 9, 10, 11, 12, 13, 14] rfl)) rfl rfl hl.1 rfl (lv_room (Nat.le_of_ble_eq_true rfl)) dX7_count_87 ⟨Nat.le_of_ble_eq_true rfl, Nat.le_of_ble_eq_true rfl⟩) (fun r5 h => ?_)
          try dsimp only at h
          refine rd_calli (va_runV (As := [.int r5]) (rest := []) ⟨hx, hb, hml, hown, hts⟩ (c_X1_pricesOf l D ca aH heap_kinds heap_whos heap_toWhoms heap_topics heap_weights heap_answered heap_deeds heap_size heap_saidBits heap_deedCount r5 _ h) (cwV 1 hts gX7_count_X1_pricesOf rfl rfl rfl (by decide +kernel) ⟨Nat.le_of_ble_eq_true rfl, Nat.le_of_ble_eq_true rfl⟩) (PcX.preV (q := (RX1, TX1, 10)) (ci := 1) (q0 := 7) hK hP rfl rfl (hP.subM [7, 8, 9, 10, 11, 12, 13, 14] rfl)) rfl rfl hl.1 rfl (lv_room (Nat.le_of_ble_eq_true rfl)) dX7_count_90 ⟨Nat.le_of_ble_eq_true rfl, Nat.le_of_ble_eq_true rfl⟩) (fun r6 h => ?_)
          try dsimp only at h
          exact W.iret (v := r6) hx hb hr (fun t ht hW => ⟨r6, rfl, h, ht⟩) (fun q hq => absurd hq List.not_mem_nil) dX7_count_93
        · have h := h.2
          by_cases hc4 : what = 4
          · have h := h.1 hc4
            refine lv_tableIn (tgt := 94) hx hb dX7_count_1 (by rw [hc4]; decide) (by rw [hc4]; decide) (by rw [hc4]; rfl) (by decide) ?_
            refine lv_aload_n hx hb dX7_count_94 rfl (lv_at hl 0 rfl) ?_
            refine va_get (D := D) (ci := 6) (v := .ref (aH 0)) (C := RX7) (T := TX7) (N := 10) hx hb hts hi_X7_count_X7 hown hK.1 hP 0 rfl rfl 2 (by decide) (hts _ k_X7_count_1) (fun _ h9 => h9) rfl dX7_count_95 ?_
            refine rd_calli (va_runV (As := []) (rest := []) ⟨hx, hb, hml, hown, hts⟩ (c_X1_beginners l D ca aH heap_kinds heap_whos heap_toWhoms heap_topics heap_weights heap_answered heap_deeds heap_size heap_saidBits heap_deedCount  _ h) (cwV 0 hts gX7_count_X1_beginners rfl rfl rfl (by decide +kernel) ⟨Nat.le_of_ble_eq_true rfl, Nat.le_of_ble_eq_true rfl⟩) (PcX.preV (q := (RX1, TX1, 10)) (ci := 1) (q0 := 7) hK hP rfl rfl (hP.subM [7, 8, 9, 10, 11, 12, 13, 14] rfl)) rfl rfl hl.1 rfl (lv_room (Nat.le_of_ble_eq_true rfl)) dX7_count_98 ⟨Nat.le_of_ble_eq_true rfl, Nat.le_of_ble_eq_true rfl⟩) (fun r7 h => ?_)
            try dsimp only at h
            refine rd_calli (va_runS (As := [.int r7]) (rest := []) ⟨hx, hb, hml, hown, hts⟩ (c_J6_bitCount_0f7a4 l D ca   r7 _ h) (va_cwS 1 hts gX7_count_J6_bitCount_0f7a4 rfl rfl rfl (by decide +kernel) ⟨Nat.le_of_ble_eq_true rfl, Nat.le_of_ble_eq_true rfl⟩) (PcX.preS hK (fun k q h => by simp at h)) rfl rfl hl.1 rfl (lv_room (Nat.le_of_ble_eq_true rfl)) dX7_count_101 ⟨Nat.le_of_ble_eq_true rfl, Nat.le_of_ble_eq_true rfl⟩) (fun r8 h => ?_)
            try dsimp only at h
            exact W.iret (v := r8) hx hb hr (fun t ht hW => ⟨r8, rfl, h, ht⟩) (fun q hq => absurd hq List.not_mem_nil) dX7_count_104
          · have h := h.2
            by_cases hc5 : what = 5
            · have h := h.1 hc5
              refine lv_tableIn (tgt := 105) hx hb dX7_count_1 (by rw [hc5]; decide) (by rw [hc5]; decide) (by rw [hc5]; rfl) (by decide) ?_
              refine lv_aload_n hx hb dX7_count_105 rfl (lv_at hl 0 rfl) ?_
              refine va_get (D := D) (ci := 6) (v := .ref (aH 0)) (C := RX7) (T := TX7) (N := 10) hx hb hts hi_X7_count_X7 hown hK.1 hP 0 rfl rfl 2 (by decide) (hts _ k_X7_count_1) (fun _ h9 => h9) rfl dX7_count_106 ?_
              refine lv_iconst (v := (1)) hx hb dX7_count_109 (by decide) ?_
              refine rd_calli (va_runV (As := [.int (1 : Int32)]) (rest := []) ⟨hx, hb, hml, hown, hts⟩ (c_X1_howManyOf l D ca aH heap_kinds heap_whos heap_toWhoms heap_topics heap_weights heap_answered heap_deeds heap_size heap_saidBits heap_deedCount (1 : Int32) _ h) (cwV 1 hts gX7_count_X1_howManyOf rfl rfl rfl (by decide +kernel) ⟨Nat.le_of_ble_eq_true rfl, Nat.le_of_ble_eq_true rfl⟩) (PcX.preV (q := (RX1, TX1, 10)) (ci := 1) (q0 := 7) hK hP rfl rfl (hP.subM [7, 8, 9, 10, 11, 12, 13, 14] rfl)) rfl rfl hl.1 rfl (lv_room (Nat.le_of_ble_eq_true rfl)) dX7_count_110 ⟨Nat.le_of_ble_eq_true rfl, Nat.le_of_ble_eq_true rfl⟩) (fun r9 h => ?_)
              try dsimp only at h
              exact W.iret (v := r9) hx hb hr (fun t ht hW => ⟨r9, rfl, h, ht⟩) (fun q hq => absurd hq List.not_mem_nil) dX7_count_113
            · have h := h.2
              by_cases hc6 : what = 6
              · have h := h.1 hc6
                refine lv_tableIn (tgt := 114) hx hb dX7_count_1 (by rw [hc6]; decide) (by rw [hc6]; decide) (by rw [hc6]; rfl) (by decide) ?_
                refine lv_aload_n hx hb dX7_count_114 rfl (lv_at hl 0 rfl) ?_
                refine va_get (D := D) (ci := 6) (v := .ref (aR 0)) (C := RX7) (T := TX7) (N := 10) hx hb hts hi_X7_count_X7 hown hK.1 hP 0 rfl rfl 0 (by decide) (hts _ k_X7_count_2) (fun _ h9 => h9) rfl dX7_count_115 ?_
                refine rd_calli (va_runV (As := []) (rest := []) ⟨hx, hb, hml, hown, hts⟩ (c_X5_howManyThere l D ca aR rows_ns rows_nc rows_width rows_sizes rows_cells  _ h) (cwV 0 hts gX7_count_X5_howManyThere rfl rfl rfl (by decide +kernel) ⟨Nat.le_of_ble_eq_true rfl, Nat.le_of_ble_eq_true rfl⟩) (PcX.preV (q := (RX5, TX5, 3)) (ci := 4) (q0 := 1) hK hP rfl rfl (hP.subM [1, 2, 3] rfl)) rfl rfl hl.1 rfl (lv_room (Nat.le_of_ble_eq_true rfl)) dX7_count_118 ⟨Nat.le_of_ble_eq_true rfl, Nat.le_of_ble_eq_true rfl⟩) (fun r10 h => ?_)
                try dsimp only at h
                exact W.iret (v := r10) hx hb hr (fun t ht hW => ⟨r10, rfl, h, ht⟩) (fun q hq => absurd hq List.not_mem_nil) dX7_count_121
              · have h := h.2
                by_cases hc7 : what = 7
                · have h := h.1 hc7
                  refine lv_tableIn (tgt := 122) hx hb dX7_count_1 (by rw [hc7]; decide) (by rw [hc7]; decide) (by rw [hc7]; rfl) (by decide) ?_
                  refine lv_aload_n hx hb dX7_count_122 rfl (lv_at hl 0 rfl) ?_
                  refine va_get (D := D) (ci := 6) (v := .ref (aT 0)) (C := RX7) (T := TX7) (N := 10) hx hb hts hi_X7_count_X7 hown hK.1 hP 0 rfl rfl 1 (by decide) (hts _ k_X7_count_3) (fun _ h9 => h9) rfl dX7_count_123 ?_
                  refine rd_calli (va_runV (As := []) (rest := []) ⟨hx, hb, hml, hown, hts⟩ (c_X5_howManyThere l D ca aT texts_ns texts_nc texts_width texts_sizes texts_cells  _ h) (cwV 0 hts gX7_count_X5_howManyThere rfl rfl rfl (by decide +kernel) ⟨Nat.le_of_ble_eq_true rfl, Nat.le_of_ble_eq_true rfl⟩) (PcX.preV (q := (RX5, TX5, 3)) (ci := 4) (q0 := 4) hK hP rfl rfl (hP.subM [4, 5, 6] rfl)) rfl rfl hl.1 rfl (lv_room (Nat.le_of_ble_eq_true rfl)) dX7_count_126 ⟨Nat.le_of_ble_eq_true rfl, Nat.le_of_ble_eq_true rfl⟩) (fun r11 h => ?_)
                  try dsimp only at h
                  exact W.iret (v := r11) hx hb hr (fun t ht hW => ⟨r11, rfl, h, ht⟩) (fun q hq => absurd hq List.not_mem_nil) dX7_count_129
                · have h := h.2
                  by_cases hc8 : what = 8
                  · have h := h.1 hc8
                    refine lv_tableIn (tgt := 130) hx hb dX7_count_1 (by rw [hc8]; decide) (by rw [hc8]; decide) (by rw [hc8]; rfl) (by decide) ?_
                    refine lv_aload_n hx hb dX7_count_130 rfl (lv_at hl 0 rfl) ?_
                    refine rd_calli (va_runV (As := []) (rest := []) ⟨hx, hb, hml, hown, hts⟩ (c_X7_howManyKept l D ca a aR aT aH aD aK aI aC aS aY  lastTold kept  _ h) (cwV 0 hts gX7_count_X7_howManyKept rfl rfl rfl (by decide +kernel) ⟨Nat.le_of_ble_eq_true rfl, Nat.le_of_ble_eq_true rfl⟩) (PcX.preV (q := (RX7, TX7, 10)) (ci := 6) (q0 := 0) hK hP rfl rfl (hP.subM [0, 15] rfl)) rfl rfl hl.1 rfl (lv_room (Nat.le_of_ble_eq_true rfl)) dX7_count_131 ⟨Nat.le_of_ble_eq_true rfl, Nat.le_of_ble_eq_true rfl⟩) (fun r12 h => ?_)
                    try dsimp only at h
                    exact W.iret (v := r12) hx hb hr (fun t ht hW => ⟨r12, rfl, h, ht⟩) (fun q hq => absurd hq List.not_mem_nil) dX7_count_134
                  · have h := h.2
                    have h := h hc0 hc1 hc2 hc3 hc4 hc5 hc6 hc7 hc8
                    have hsw : what.toInt < 0 ∨ 8 < what.toInt := x_swOutL 0 9 8 (by decide) (by decide) (by decide) (fun j hj => by rcases (show j = 0 ∨ j = 1 ∨ j = 2 ∨ j = 3 ∨ j = 4 ∨ j = 5 ∨ j = 6 ∨ j = 7 ∨ j = 8 by omega) with rfl | rfl | rfl | rfl | rfl | rfl | rfl | rfl | rfl <;> assumption)
                    refine lv_tableOut (tgt := 135) hx hb dX7_count_1 hsw (by decide) ?_
                    refine lv_iconst (v := (-1)) hx hb dX7_count_135 (by decide) ?_
                    exact W.iret (v := (-1 : Int32)) hx hb hr (fun t ht hW => ⟨(-1 : Int32), rfl, h, ht⟩) (fun q hq => absurd hq List.not_mem_nil) dX7_count_136

-- IronedQuarrels.finding()I
def wp_X7_finding (tally_latest : Int32) (post : Int32 → Prop) : Prop :=
  wp_X6_latest tally_latest (fun r1 => post r1)
def rm_X7_finding : Room := { frames := 1, cells := 0, slots := 0, locals := 20 }
theorem k_X7_finding_1 : Cond.fieldLink RX7 59 "IronedQuarrels" "tally" "LIronedQuarrels$Tally;" ∈ wsX7_finding := List.mem_of_getElem? (i := 1) (by decide +kernel)
theorem hi_X7_finding_X6 : ∀ w ∈ wsX60, w ∈ wsX7_finding := fun w h => List.mem_cons_of_mem _ (List.mem_append_right _ h)
theorem hi_X7_finding_X7 : ∀ w ∈ wsX70, w ∈ wsX7_finding := fun w h => List.mem_cons_of_mem _ (List.mem_append_left _ (List.mem_append_right _ h))
set_option maxHeartbeats 4000000 in
set_option maxRecDepth 100000 in
theorem c_X7_finding (l : Launch) (D : va_G) (ca : Nat → ClassId) (a : Nat → Nat) (aR : Nat → Nat) (aT : Nat → Nat) (aH : Nat → Nat) (aD : Nat → Nat) (aK : Nat) (aI : Nat → Nat) (aC : Nat → Nat) (aS : Nat → Nat) (aY : Nat → Nat) (lastTold : Int32) (tally_often : Nat → Int32) (tally_latest : Int32)  (post : Int32 → Prop) (h : wp_X7_finding tally_latest post) : Met l yX7_finding wsX7_finding rm_X7_finding (PcX D ca [.ref (a 0)] ((W_X7 a aR aT aH aD aK aI aC aS aY lastTold) ++ (W_X6 ca aY tally_often tally_latest))) (rdI post) 0 0 (fun _ => False) := by
  refine Met.ofW (cc := cX7_finding) (maxL := 1) (ret := (some .int)) (by decide) rfl ?_
  intro zp ze zs zm za zb zt zc z1 B hml hv
  obtain ⟨rfl, hP, hK⟩ := hv
  have hx := B.exec
  have hb := B.bytes
  have hr := B.returns
  have hts := atoms_spec (ws := wsX7_finding) B.pre
  have hown : zs.vm.findClass RX7 = some zm.cls := findClass_of_methodNamed B.named
  have hlocks := B.notSynchronized
  have hl := lv_entry ([.ref (a 0)]) (n := 1) (Nat.le_of_ble_eq_true rfl)
  rw [lg_entry_eq]
  generalize (lg_sl ([.ref (a 0)]) ++ List.replicate (1 - (lg_sl ([.ref (a 0)])).length) Slot.unset).toArray = ls at hl ⊢
  replace hl : lv_has ls 1 [(0, .ref (a 0))] := hl
  show W zp l ze rm_X7_finding zs zm ([.ref (a 0)] : List Value).toArray zb zt zc zs.heap [] 0 0 (MQ zb (rdI post) ([.ref (a 0)] : List Value).toArray zs 0 0 (fun _ => False)) (F0 zm 0 ls [])
  unfold wp_X7_finding at h
  refine lv_aload_n hx hb dX7_finding_0 rfl (lv_at hl 0 rfl) ?_
  refine va_get (D := D) (ci := 6) (v := .ref (aY 0)) (C := RX7) (T := TX7) (N := 10) hx hb hts hi_X7_finding_X7 hown hK.1 hP 0 rfl rfl 8 (by decide) (hts _ k_X7_finding_1) (fun _ h9 => h9) rfl dX7_finding_1 ?_
  refine rd_calli (va_runV (As := []) (rest := []) ⟨hx, hb, hml, hown, hts⟩ (c_X6_latest l D ca aY tally_often tally_latest  _ h) (cwV 0 hts gX7_finding_X6_latest rfl rfl rfl (by decide +kernel) ⟨Nat.le_of_ble_eq_true rfl, Nat.le_of_ble_eq_true rfl⟩) (PcX.preV (q := (RX6, TX6, 2)) (ci := 5) (q0 := 1) hK hP rfl rfl (hP.subM [1, 2] rfl)) rfl rfl hl.1 rfl (lv_room (Nat.le_of_ble_eq_true rfl)) dX7_finding_4 ⟨Nat.le_of_ble_eq_true rfl, Nat.le_of_ble_eq_true rfl⟩) (fun r1 h => ?_)
  try dsimp only at h
  exact W.iret (v := r1) hx hb hr (fun t ht hW => ⟨r1, rfl, h, ht⟩) (fun q hq => absurd hq List.not_mem_nil) dX7_finding_7

-- IronedQuarrels.findings(I)I
def wp_X7_findings (tally_often : Nat → Int32) (f : Int32) (post : Int32 → Prop) : Prop :=
  (f < (1 : Int32) → (post (-1 : Int32))) ∧ (¬ f < (1 : Int32) → ((f ≤ (5 : Int32) → (wp_X6_howOften tally_often f (fun r1 => post r1))) ∧ (¬ f ≤ (5 : Int32) → (post (-1 : Int32)))))
def rm_X7_findings : Room := { frames := 1, cells := 0, slots := 0, locals := 21 }
theorem k_X7_findings_1 : Cond.fieldLink RX7 59 "IronedQuarrels" "tally" "LIronedQuarrels$Tally;" ∈ wsX7_findings := List.mem_of_getElem? (i := 1) (by decide +kernel)
theorem hi_X7_findings_X6 : ∀ w ∈ wsX60, w ∈ wsX7_findings := fun w h => List.mem_cons_of_mem _ (List.mem_append_right _ h)
theorem hi_X7_findings_X7 : ∀ w ∈ wsX70, w ∈ wsX7_findings := fun w h => List.mem_cons_of_mem _ (List.mem_append_left _ (List.mem_append_right _ h))
set_option maxHeartbeats 4000000 in
set_option maxRecDepth 100000 in
theorem c_X7_findings (l : Launch) (D : va_G) (ca : Nat → ClassId) (a : Nat → Nat) (aR : Nat → Nat) (aT : Nat → Nat) (aH : Nat → Nat) (aD : Nat → Nat) (aK : Nat) (aI : Nat → Nat) (aC : Nat → Nat) (aS : Nat → Nat) (aY : Nat → Nat) (lastTold : Int32) (tally_often : Nat → Int32) (tally_latest : Int32) (f : Int32) (post : Int32 → Prop) (h : wp_X7_findings tally_often f post) : Met l yX7_findings wsX7_findings rm_X7_findings (PcX D ca [.ref (a 0), .int f] ((W_X7 a aR aT aH aD aK aI aC aS aY lastTold) ++ (W_X6 ca aY tally_often tally_latest))) (rdI post) 0 0 (fun _ => False) := by
  refine Met.ofW (cc := cX7_findings) (maxL := 2) (ret := (some .int)) (by decide) rfl ?_
  intro zp ze zs zm za zb zt zc z1 B hml hv
  obtain ⟨rfl, hP, hK⟩ := hv
  have hx := B.exec
  have hb := B.bytes
  have hr := B.returns
  have hts := atoms_spec (ws := wsX7_findings) B.pre
  have hown : zs.vm.findClass RX7 = some zm.cls := findClass_of_methodNamed B.named
  have hlocks := B.notSynchronized
  have hl := lv_entry ([.ref (a 0), .int f]) (n := 2) (Nat.le_of_ble_eq_true rfl)
  rw [lg_entry_eq]
  generalize (lg_sl ([.ref (a 0), .int f]) ++ List.replicate (2 - (lg_sl ([.ref (a 0), .int f])).length) Slot.unset).toArray = ls at hl ⊢
  replace hl : lv_has ls 2 [(0, .ref (a 0)), (1, .int f)] := hl
  show W zp l ze rm_X7_findings zs zm ([.ref (a 0), .int f] : List Value).toArray zb zt zc zs.heap [] 0 0 (MQ zb (rdI post) ([.ref (a 0), .int f] : List Value).toArray zs 0 0 (fun _ => False)) (F0 zm 0 ls [])
  unfold wp_X7_findings at h
  refine lv_iload_n hx hb dX7_findings_0 rfl (lv_at hl 1 rfl) ?_
  refine lv_iconst (v := (1)) hx hb dX7_findings_1 (by decide) ?_
  refine lv_icmp_lt (tgt := 10) hx hb dX7_findings_2 (by decide) (fun hc => ?_) (fun hc => ?_)
  · have h := h.1 hc
    refine lv_iconst (v := (-1)) hx hb dX7_findings_10 (by decide) ?_
    exact W.iret (v := (-1 : Int32)) hx hb hr (fun t ht hW => ⟨(-1 : Int32), rfl, h, ht⟩) (fun q hq => absurd hq List.not_mem_nil) dX7_findings_11
  · have h := h.2 hc
    refine lv_iload_n hx hb dX7_findings_5 rfl (lv_at hl 1 rfl) ?_
    refine lv_iconst (v := (5)) hx hb dX7_findings_6 (by decide) ?_
    refine lv_icmp_le (tgt := 12) hx hb dX7_findings_7 (by decide) (fun hc => ?_) (fun hc => ?_)
    · have h := h.1 hc
      refine lv_aload_n hx hb dX7_findings_12 rfl (lv_at hl 0 rfl) ?_
      refine va_get (D := D) (ci := 6) (v := .ref (aY 0)) (C := RX7) (T := TX7) (N := 10) hx hb hts hi_X7_findings_X7 hown hK.1 hP 0 rfl rfl 8 (by decide) (hts _ k_X7_findings_1) (fun _ h9 => h9) rfl dX7_findings_13 ?_
      refine lv_iload_n hx hb dX7_findings_16 rfl (lv_at hl 1 rfl) ?_
      refine rd_calli (va_runV (As := [.int f]) (rest := []) ⟨hx, hb, hml, hown, hts⟩ (c_X6_howOften l D ca aY tally_often tally_latest f _ h) (cwV 1 hts gX7_findings_X6_howOften rfl rfl rfl (by decide +kernel) ⟨Nat.le_of_ble_eq_true rfl, Nat.le_of_ble_eq_true rfl⟩) (PcX.preV (q := (RX6, TX6, 2)) (ci := 5) (q0 := 1) hK hP rfl rfl (hP.subM [1, 2] rfl)) rfl rfl hl.1 rfl (lv_room (Nat.le_of_ble_eq_true rfl)) dX7_findings_17 ⟨Nat.le_of_ble_eq_true rfl, Nat.le_of_ble_eq_true rfl⟩) (fun r1 h => ?_)
      try dsimp only at h
      exact W.iret (v := r1) hx hb hr (fun t ht hW => ⟨r1, rfl, h, ht⟩) (fun q hq => absurd hq List.not_mem_nil) dX7_findings_20
    · have h := h.2 hc
      refine lv_iconst (v := (-1)) hx hb dX7_findings_10 (by decide) ?_
      exact W.iret (v := (-1 : Int32)) hx hb hr (fun t ht hW => ⟨(-1 : Int32), rfl, h, ht⟩) (fun q hq => absurd hq List.not_mem_nil) dX7_findings_11
