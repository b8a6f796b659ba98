-- IronedQuarrels.row(II)I
def wp_X7_row (rows_ns : Nat) (rows_nc : Nat) (rows_width : Int32) (rows_sizes : Nat → Int32) (rows_cells : Nat → Int32) (tally_often : Nat → Int32) (tally_latest : Int32) (r : Int32) (n : Int32) (post : Int32 → (Nat → Int32) → (Nat → Int32) → (Nat → Int32) → (Int32) → Prop) : Prop :=
  wp_X5_hasNumber rows_ns r (fun r1 => (r1 = 0 → (post (-1 : Int32) rows_sizes rows_cells tally_often tally_latest)) ∧ (¬ r1 = 0 → ((n ≤ (40 : Int32) → ((0 ≤ n → (wp_X5_makeAnew rows_ns rows_nc rows_width rows_sizes rows_cells r n (0 : Int32) (fun rows_sizes_2 rows_cells_3 => post n rows_sizes_2 rows_cells_3 tally_often tally_latest))) ∧ (¬ 0 ≤ n → (wp_X6_note tally_often (5 : Int32) (fun r4 tally_often_5 tally_latest_6 => post r4 rows_sizes rows_cells tally_often_5 tally_latest_6))))) ∧ (¬ n ≤ (40 : Int32) → (post (-1 : Int32) rows_sizes rows_cells tally_often tally_latest)))))
def rm_X7_row : Room := { frames := 3, cells := 0, slots := 0, locals := 69 }
theorem k_X7_row_1 : Cond.fieldLink RX7 14 "IronedQuarrels" "rows" "LIronedQuarrels$Shelf;" ∈ wsX7_row := List.mem_of_getElem? (i := 1) (by decide +kernel)
theorem k_X7_row_2 : Cond.fieldLink RX7 59 "IronedQuarrels" "tally" "LIronedQuarrels$Tally;" ∈ wsX7_row := List.mem_of_getElem? (i := 2) (by decide +kernel)
theorem hi_X7_row_X5 : ∀ w ∈ wsX50, w ∈ wsX7_row := fun w h => List.mem_cons_of_mem _ (List.mem_append_left _ (List.mem_append_right _ h))
theorem hi_X7_row_X6 : ∀ w ∈ wsX60, w ∈ wsX7_row := fun w h => List.mem_cons_of_mem _ (List.mem_append_right _ h)
theorem hi_X7_row_X7 : ∀ w ∈ wsX70, w ∈ wsX7_row := fun w h => List.mem_cons_of_mem _ (List.mem_append_left _ (List.mem_append_left _ (List.mem_append_right _ h)))
set_option maxHeartbeats 4000000 in
set_option maxRecDepth 100000 in
theorem c_X7_row (l : Launch) (D : va_G) (ca : Nat → ClassId) (a : Nat → Nat) (aR : Nat → Nat) (aT : Nat → Nat) (aH : Nat → Nat) (aD : Nat → Nat) (aK : Nat) (aI : Nat → Nat) (aC : Nat → Nat) (aS : Nat → Nat) (aY : Nat → Nat) (lastTold : Int32) (rows_ns : Nat) (rows_nc : Nat) (rows_width : Int32) (rows_sizes : Nat → Int32) (rows_cells : Nat → Int32) (tally_often : Nat → Int32) (tally_latest : Int32) (r : Int32) (n : Int32) (post : Int32 → (Nat → Int32) → (Nat → Int32) → (Nat → Int32) → (Int32) → Prop) (hd : va_D (fun _ => True) ((W_X7 a aR aT aH aD aK aI aC aS aY lastTold) ++ (W_X5 ca aR rows_ns rows_nc rows_width rows_sizes rows_cells) ++ (W_X6 ca aY tally_often tally_latest))) (h : wp_X7_row rows_ns rows_nc rows_width rows_sizes rows_cells tally_often tally_latest r n post) : Met l yX7_row wsX7_row rm_X7_row (PcX D ca [.ref (a 0), .int r, .int n] ((W_X7 a aR aT aH aD aK aI aC aS aY lastTold) ++ (W_X5 ca aR rows_ns rows_nc rows_width rows_sizes rows_cells) ++ (W_X6 ca aY tally_often tally_latest))) (wrI (S := (Nat → Int32) × (Nat → Int32) × (Nat → Int32) × (Int32)) D ((W_X7 a aR aT aH aD aK aI aC aS aY lastTold) ++ (W_X5 ca aR rows_ns rows_nc rows_width rows_sizes rows_cells) ++ (W_X6 ca aY tally_often tally_latest)) (fun u => (W_X7 a aR aT aH aD aK aI aC aS aY lastTold) ++ (W_X5 ca aR rows_ns rows_nc rows_width u.1 u.2.1) ++ (W_X6 ca aY u.2.2.1 u.2.2.2)) (fun r u => post r u.1 u.2.1 u.2.2.1 u.2.2.2)) 0 0 (adr ((W_X7 a aR aT aH aD aK aI aC aS aY lastTold) ++ (W_X5 ca aR rows_ns rows_nc rows_width rows_sizes rows_cells) ++ (W_X6 ca aY tally_often tally_latest))) := by
  refine Met.ofW (cc := cX7_row) (maxL := 3) (ret := (some .int)) (by decide) rfl ?_
  intro zp ze zs zm za zb zt zc z1 B hml hv
  obtain ⟨rfl, hP, hK⟩ := hv
  have hx := B.exec
  have hb := B.bytes
  have hr := B.returns
  have hts := atoms_spec (ws := wsX7_row) B.pre
  have hown : zs.vm.findClass RX7 = some zm.cls := findClass_of_methodNamed B.named
  have hlocks := B.notSynchronized
  have hD : va_D (adr ((W_X7 a aR aT aH aD aK aI aC aS aY lastTold) ++ (W_X5 ca aR rows_ns rows_nc rows_width rows_sizes rows_cells) ++ (W_X6 ca aY tally_often tally_latest))) ((W_X7 a aR aT aH aD aK aI aC aS aY lastTold) ++ (W_X5 ca aR rows_ns rows_nc rows_width rows_sizes rows_cells) ++ (W_X6 ca aY tally_often tally_latest)) := hd.adr
  have hS : va_S (adr ((W_X7 a aR aT aH aD aK aI aC aS aY lastTold) ++ (W_X5 ca aR rows_ns rows_nc rows_width rows_sizes rows_cells) ++ (W_X6 ca aY tally_often tally_latest))) zs.heap zs.heap [] := va_S.rf
  have hl := lv_entry ([.ref (a 0), .int r, .int n]) (n := 3) (Nat.le_of_ble_eq_true rfl)
  rw [lg_entry_eq]
  generalize (lg_sl ([.ref (a 0), .int r, .int n]) ++ List.replicate (3 - (lg_sl ([.ref (a 0), .int r, .int n])).length) Slot.unset).toArray = ls at hl ⊢
  replace hl : lv_has ls 3 [(0, .ref (a 0)), (1, .int r), (2, .int n)] := hl
  show W zp l ze rm_X7_row zs zm ([.ref (a 0), .int r, .int n] : List Value).toArray zb zt zc zs.heap [] 0 0 (MQ zb (wrI (S := (Nat → Int32) × (Nat → Int32) × (Nat → Int32) × (Int32)) D ((W_X7 a aR aT aH aD aK aI aC aS aY lastTold) ++ (W_X5 ca aR rows_ns rows_nc rows_width rows_sizes rows_cells) ++ (W_X6 ca aY tally_often tally_latest)) (fun u => (W_X7 a aR aT aH aD aK aI aC aS aY lastTold) ++ (W_X5 ca aR rows_ns rows_nc rows_width u.1 u.2.1) ++ (W_X6 ca aY u.2.2.1 u.2.2.2)) (fun r u => post r u.1 u.2.1 u.2.2.1 u.2.2.2)) ([.ref (a 0), .int r, .int n] : List Value).toArray zs 0 0 (adr ((W_X7 a aR aT aH aD aK aI aC aS aY lastTold) ++ (W_X5 ca aR rows_ns rows_nc rows_width rows_sizes rows_cells) ++ (W_X6 ca aY tally_often tally_latest)))) (F0 zm 0 ls [])
  unfold wp_X7_row at h
  refine lv_aload_n hx hb dX7_row_0 rfl (lv_at hl 0 rfl) ?_
  refine va_get (D := D) (ci := 6) (v := .ref (aR 0)) (C := RX7) (T := TX7) (N := 10) hx hb hts hi_X7_row_X7 hown hK.1 hP 0 rfl rfl 0 (by decide) (hts _ k_X7_row_1) (fun _ h9 => h9) rfl dX7_row_1 ?_
  refine lv_iload_n hx hb dX7_row_4 rfl (lv_at hl 1 rfl) ?_
  refine rd_callz (va_runV (As := [.int r]) (rest := []) ⟨hx, hb, hml, hown, hts⟩ (c_X5_hasNumber l D ca aR rows_ns rows_nc rows_width rows_sizes rows_cells r _ h) (cwV 1 hts gX7_row_X5_hasNumber rfl rfl rfl (by decide +kernel) ⟨Nat.le_of_ble_eq_true rfl, Nat.le_of_ble_eq_true rfl⟩) (PcX.preV (q := (RX5, TX5, 3)) (ci := 4) (q0 := 1) hK hP rfl rfl (hP.subM [1, 2, 3] rfl)) rfl rfl hl.1 rfl (lv_room (Nat.le_of_ble_eq_true rfl)) dX7_row_5 ⟨Nat.le_of_ble_eq_true rfl, Nat.le_of_ble_eq_true rfl⟩) (fun r1 h hz_r1 => ?_)
  try dsimp only at h
  refine lv_if_eq (tgt := 17) hx hb dX7_row_8 (by decide) (fun hc => ?_) (fun hc => ?_)
  · have h := h.1 hc
    refine lv_iconst (v := (-1)) hx hb dX7_row_17 (by decide) ?_
    exact W.iret (v := (-1 : Int32)) hx hb hr (fun t ht hW => ⟨⟨(-1 : Int32), (rows_sizes, rows_cells, tally_often, tally_latest), rfl, h, by rw [ht]; exact hP⟩, hS.F ht⟩) hS.2.2 dX7_row_18
  · have h := h.2 hc
    refine lv_iload_n hx hb dX7_row_11 rfl (lv_at hl 2 rfl) ?_
    refine lv_bipush (v := (40)) hx hb dX7_row_12 (by decide) ?_
    refine lv_icmp_le (tgt := 19) hx hb dX7_row_14 (by decide) (fun hc => ?_) (fun hc => ?_)
    · have h := h.1 hc
      refine lv_iload_n hx hb dX7_row_19 rfl (lv_at hl 2 rfl) ?_
      refine lv_if_ge (tgt := 32) hx hb dX7_row_20 (by decide) (fun hc => ?_) (fun hc => ?_)
      · have h := h.1 hc
        refine lv_aload_n hx hb dX7_row_32 rfl (lv_at hl 0 rfl) ?_
        refine va_get (D := D) (ci := 6) (v := .ref (aR 0)) (C := RX7) (T := TX7) (N := 10) hx hb hts hi_X7_row_X7 hown hK.1 hP 0 rfl rfl 0 (by decide) (hts _ k_X7_row_1) (fun _ h9 => h9) rfl dX7_row_33 ?_
        refine lv_iload_n hx hb dX7_row_36 rfl (lv_at hl 1 rfl) ?_
        refine lv_iload_n hx hb dX7_row_37 rfl (lv_at hl 2 rfl) ?_
        refine lv_iconst (v := (0)) hx hb dX7_row_38 (by decide) ?_
        refine wr_callv (ws1 := fun u => (W_X7 a aR aT aH aD aK aI aC aS aY lastTold) ++ (W_X5 ca aR rows_ns rows_nc rows_width u.1 u.2) ++ (W_X6 ca aY tally_often tally_latest)) (wr := ([0, 4, 5] : List Nat).filterMap (fun i => ((W_X7 a aR aT aH aD aK aI aC aS aY lastTold) ++ (W_X5 ca aR rows_ns rows_nc rows_width rows_sizes rows_cells) ++ (W_X6 ca aY tally_often tally_latest) : va_W)[i]?)) (n := 6) (va_runV (As := [.int r, .int n, .int (0 : Int32)]) (rest := []) ⟨hx, hb, hml, hown, hts⟩ (c_X5_makeAnew l D ca aR rows_ns rows_nc rows_width rows_sizes rows_cells r n (0 : Int32) _ (hD.subM [1, 2, 3] (by decide) rfl) h) (cwV 3 hts gX7_row_X5_makeAnew rfl rfl rfl (by decide +kernel) ⟨Nat.le_of_ble_eq_true rfl, Nat.le_of_ble_eq_true rfl⟩) (PcX.preV (q := (RX5, TX5, 3)) (ci := 4) (q0 := 1) hK hP rfl rfl (hP.subM [1, 2, 3] rfl)) rfl rfl hl.1 rfl (lv_room (Nat.le_of_ble_eq_true rfl)) dX7_row_39 ⟨Nat.le_of_ble_eq_true rfl, Nat.le_of_ble_eq_true rfl⟩) hP hD hS [1, 2, 3] [0, 4, 5] rfl (fun _ => rfl) rfl (fun _ => rfl) (fun _ => rfl) (fun _ => rfl) (by decide +kernel) (by decide +kernel) (fun u H locs h hP hD hS => ?_)
        obtain ⟨rows_sizes_2, rows_cells_3⟩ := u
        have hP : va_P D vwCl ((W_X7 a aR aT aH aD aK aI aC aS aY lastTold) ++ (W_X5 ca aR rows_ns rows_nc rows_width rows_sizes_2 rows_cells_3) ++ (W_X6 ca aY tally_often tally_latest)) H := hP
        have hD : va_D _ ((W_X7 a aR aT aH aD aK aI aC aS aY lastTold) ++ (W_X5 ca aR rows_ns rows_nc rows_width rows_sizes_2 rows_cells_3) ++ (W_X6 ca aY tally_often tally_latest)) := hD
        try dsimp only at h
        refine lv_iload_n hx hb dX7_row_42 rfl (lv_at hl 2 rfl) ?_
        exact W.iret (v := n) hx hb hr (fun t ht hW => ⟨⟨n, (rows_sizes_2, rows_cells_3, tally_often, tally_latest), rfl, h, by rw [ht]; exact hP⟩, hS.F ht⟩) hS.2.2 dX7_row_43
      · have h := h.2 hc
        refine lv_aload_n hx hb dX7_row_23 rfl (lv_at hl 0 rfl) ?_
        refine va_get (D := D) (ci := 6) (v := .ref (aY 0)) (C := RX7) (T := TX7) (N := 10) hx hb hts hi_X7_row_X7 hown hK.1 hP 0 rfl rfl 8 (by decide) (hts _ k_X7_row_2) (fun _ h9 => h9) rfl dX7_row_24 ?_
        refine lv_iconst (v := (5)) hx hb dX7_row_27 (by decide) ?_
        refine wr_calli (ws1 := fun u => (W_X7 a aR aT aH aD aK aI aC aS aY lastTold) ++ (W_X5 ca aR rows_ns rows_nc rows_width rows_sizes rows_cells) ++ (W_X6 ca aY u.1 u.2)) (wr := ([0, 1, 2, 3] : List Nat).filterMap (fun i => ((W_X7 a aR aT aH aD aK aI aC aS aY lastTold) ++ (W_X5 ca aR rows_ns rows_nc rows_width rows_sizes rows_cells) ++ (W_X6 ca aY tally_often tally_latest) : va_W)[i]?)) (n := 6) (va_runV (As := [.int (5 : Int32)]) (rest := []) ⟨hx, hb, hml, hown, hts⟩ (c_X6_note l D ca aY tally_often tally_latest (5 : Int32) _ (hD.subM [4, 5] (by decide) rfl) h) (cwV 1 hts gX7_row_X6_note rfl rfl rfl (by decide +kernel) ⟨Nat.le_of_ble_eq_true rfl, Nat.le_of_ble_eq_true rfl⟩) (PcX.preV (q := (RX6, TX6, 2)) (ci := 5) (q0 := 4) hK hP rfl rfl (hP.subM [4, 5] rfl)) rfl rfl hl.1 rfl (lv_room (Nat.le_of_ble_eq_true rfl)) dX7_row_28 ⟨Nat.le_of_ble_eq_true rfl, Nat.le_of_ble_eq_true rfl⟩) hP hD hS [4, 5] [0, 1, 2, 3] rfl (fun _ => rfl) rfl (fun _ => rfl) (fun _ => rfl) (fun _ => rfl) (by decide +kernel) (by decide +kernel) (fun r4 u H locs h hP hD hS => ?_)
        obtain ⟨tally_often_5, tally_latest_6⟩ := u
        have hP : va_P D vwCl ((W_X7 a aR aT aH aD aK aI aC aS aY lastTold) ++ (W_X5 ca aR rows_ns rows_nc rows_width rows_sizes rows_cells) ++ (W_X6 ca aY tally_often_5 tally_latest_6)) H := hP
        have hD : va_D _ ((W_X7 a aR aT aH aD aK aI aC aS aY lastTold) ++ (W_X5 ca aR rows_ns rows_nc rows_width rows_sizes rows_cells) ++ (W_X6 ca aY tally_often_5 tally_latest_6)) := hD
        try dsimp only at h
        exact W.iret (v := r4) hx hb hr (fun t ht hW => ⟨⟨r4, (rows_sizes, rows_cells, tally_often_5, tally_latest_6), rfl, h, by rw [ht]; exact hP⟩, hS.F ht⟩) hS.2.2 dX7_row_31
    · have h := h.2 hc
      refine lv_iconst (v := (-1)) hx hb dX7_row_17 (by decide) ?_
      exact W.iret (v := (-1 : Int32)) hx hb hr (fun t ht hW => ⟨⟨(-1 : Int32), (rows_sizes, rows_cells, tally_often, tally_latest), rfl, h, by rw [ht]; exact hP⟩, hS.F ht⟩) hS.2.2 dX7_row_18

-- IronedQuarrels.refusalOfShelf(LIronedQuarrels$Shelf;I)I
def wp_X7_refusalOfShelf (shelf_ns : Nat) (shelf_sizes : Nat → Int32) (tally_often : Nat → Int32) (tally_latest : Int32) (number : Int32) (post : Int32 → (Nat → Int32) → (Int32) → Prop) : Prop :=
  wp_X5_hasNumber shelf_ns number (fun r1 => (¬ r1 = 0 → (wp_X5_isThere shelf_ns shelf_sizes number (fun r2 => (r2 = 0 → (wp_X6_note tally_often (1 : Int32) (fun r3 tally_often_4 tally_latest_5 => post r3 tally_often_4 tally_latest_5))) ∧ (¬ r2 = 0 → (post (0 : Int32) tally_often tally_latest))))) ∧ (r1 = 0 → (post (-1 : Int32) tally_often tally_latest)))
def rm_X7_refusalOfShelf : Room := { frames := 1, cells := 0, slots := 0, locals := 21 }
theorem k_X7_refusalOfShelf_1 : Cond.fieldLink RX7 59 "IronedQuarrels" "tally" "LIronedQuarrels$Tally;" ∈ wsX7_refusalOfShelf := List.mem_of_getElem? (i := 1) (by decide +kernel)
theorem hi_X7_refusalOfShelf_X5 : ∀ w ∈ wsX50, w ∈ wsX7_refusalOfShelf := fun w h => List.mem_cons_of_mem _ (List.mem_append_left _ (List.mem_append_right _ h))
theorem hi_X7_refusalOfShelf_X6 : ∀ w ∈ wsX60, w ∈ wsX7_refusalOfShelf := fun w h => List.mem_cons_of_mem _ (List.mem_append_right _ h)
theorem hi_X7_refusalOfShelf_X7 : ∀ w ∈ wsX70, w ∈ wsX7_refusalOfShelf := fun w h => List.mem_cons_of_mem _ (List.mem_append_left _ (List.mem_append_left _ (List.mem_append_right _ h)))
set_option maxHeartbeats 4000000 in
set_option maxRecDepth 100000 in
theorem c_X7_refusalOfShelf (l : Launch) (D : va_G) (ca : Nat → ClassId) (a : Nat → Nat) (aR : Nat → Nat) (aT : Nat → Nat) (aH : Nat → Nat) (aD : Nat → Nat) (aK : Nat) (aI : Nat → Nat) (aC : Nat → Nat) (aS : Nat → Nat) (aY : Nat → Nat) (a_shelf : Nat → Nat) (lastTold : Int32) (shelf_ns : Nat) (shelf_nc : Nat) (shelf_width : Int32) (shelf_sizes : Nat → Int32) (shelf_cells : Nat → Int32) (tally_often : Nat → Int32) (tally_latest : Int32) (number : Int32) (post : Int32 → (Nat → Int32) → (Int32) → Prop) (hd : va_D (fun _ => True) ((W_X7 a aR aT aH aD aK aI aC aS aY lastTold) ++ (W_X5 ca a_shelf shelf_ns shelf_nc shelf_width shelf_sizes shelf_cells) ++ (W_X6 ca aY tally_often tally_latest))) (h : wp_X7_refusalOfShelf shelf_ns shelf_sizes tally_often tally_latest number post) : Met l yX7_refusalOfShelf wsX7_refusalOfShelf rm_X7_refusalOfShelf (PcX D ca [.ref (a 0), .ref (a_shelf 0), .int number] ((W_X7 a aR aT aH aD aK aI aC aS aY lastTold) ++ (W_X5 ca a_shelf shelf_ns shelf_nc shelf_width shelf_sizes shelf_cells) ++ (W_X6 ca aY tally_often tally_latest))) (wrI (S := (Nat → Int32) × (Int32)) D ((W_X7 a aR aT aH aD aK aI aC aS aY lastTold) ++ (W_X5 ca a_shelf shelf_ns shelf_nc shelf_width shelf_sizes shelf_cells) ++ (W_X6 ca aY tally_often tally_latest)) (fun u => (W_X7 a aR aT aH aD aK aI aC aS aY lastTold) ++ (W_X5 ca a_shelf shelf_ns shelf_nc shelf_width shelf_sizes shelf_cells) ++ (W_X6 ca aY u.1 u.2)) (fun r u => post r u.1 u.2)) 0 0 (adr ((W_X7 a aR aT aH aD aK aI aC aS aY lastTold) ++ (W_X5 ca a_shelf shelf_ns shelf_nc shelf_width shelf_sizes shelf_cells) ++ (W_X6 ca aY tally_often tally_latest))) := by
  refine Met.ofW (cc := cX7_refusalOfShelf) (maxL := 3) (ret := (some .int)) (by decide) rfl ?_
  intro zp ze zs zm za zb zt zc z1 B hml hv
  obtain ⟨rfl, hP, hK⟩ := hv
  have hx := B.exec
  have hb := B.bytes
  have hr := B.returns
  have hts := atoms_spec (ws := wsX7_refusalOfShelf) B.pre
  have hown : zs.vm.findClass RX7 = some zm.cls := findClass_of_methodNamed B.named
  have hlocks := B.notSynchronized
  have hD : va_D (adr ((W_X7 a aR aT aH aD aK aI aC aS aY lastTold) ++ (W_X5 ca a_shelf shelf_ns shelf_nc shelf_width shelf_sizes shelf_cells) ++ (W_X6 ca aY tally_often tally_latest))) ((W_X7 a aR aT aH aD aK aI aC aS aY lastTold) ++ (W_X5 ca a_shelf shelf_ns shelf_nc shelf_width shelf_sizes shelf_cells) ++ (W_X6 ca aY tally_often tally_latest)) := hd.adr
  have hS : va_S (adr ((W_X7 a aR aT aH aD aK aI aC aS aY lastTold) ++ (W_X5 ca a_shelf shelf_ns shelf_nc shelf_width shelf_sizes shelf_cells) ++ (W_X6 ca aY tally_often tally_latest))) zs.heap zs.heap [] := va_S.rf
  have hl := lv_entry ([.ref (a 0), .ref (a_shelf 0), .int number]) (n := 3) (Nat.le_of_ble_eq_true rfl)
  rw [lg_entry_eq]
  generalize (lg_sl ([.ref (a 0), .ref (a_shelf 0), .int number]) ++ List.replicate (3 - (lg_sl ([.ref (a 0), .ref (a_shelf 0), .int number])).length) Slot.unset).toArray = ls at hl ⊢
  replace hl : lv_has ls 3 [(0, .ref (a 0)), (1, .ref (a_shelf 0)), (2, .int number)] := hl
  show W zp l ze rm_X7_refusalOfShelf zs zm ([.ref (a 0), .ref (a_shelf 0), .int number] : List Value).toArray zb zt zc zs.heap [] 0 0 (MQ zb (wrI (S := (Nat → Int32) × (Int32)) D ((W_X7 a aR aT aH aD aK aI aC aS aY lastTold) ++ (W_X5 ca a_shelf shelf_ns shelf_nc shelf_width shelf_sizes shelf_cells) ++ (W_X6 ca aY tally_often tally_latest)) (fun u => (W_X7 a aR aT aH aD aK aI aC aS aY lastTold) ++ (W_X5 ca a_shelf shelf_ns shelf_nc shelf_width shelf_sizes shelf_cells) ++ (W_X6 ca aY u.1 u.2)) (fun r u => post r u.1 u.2)) ([.ref (a 0), .ref (a_shelf 0), .int number] : List Value).toArray zs 0 0 (adr ((W_X7 a aR aT aH aD aK aI aC aS aY lastTold) ++ (W_X5 ca a_shelf shelf_ns shelf_nc shelf_width shelf_sizes shelf_cells) ++ (W_X6 ca aY tally_often tally_latest)))) (F0 zm 0 ls [])
  unfold wp_X7_refusalOfShelf at h
  refine lv_aload_n hx hb dX7_refusalOfShelf_0 rfl (lv_at hl 1 rfl) ?_
  refine lv_iload_n hx hb dX7_refusalOfShelf_1 rfl (lv_at hl 2 rfl) ?_
  refine rd_callz (va_runV (As := [.int number]) (rest := []) ⟨hx, hb, hml, hown, hts⟩ (c_X5_hasNumber l D ca a_shelf shelf_ns shelf_nc shelf_width shelf_sizes shelf_cells number _ h) (cwV 1 hts gX7_refusalOfShelf_X5_hasNumber rfl rfl rfl (by decide +kernel) ⟨Nat.le_of_ble_eq_true rfl, Nat.le_of_ble_eq_true rfl⟩) (PcX.preV (q := (RX5, TX5, 3)) (ci := 4) (q0 := 1) hK hP rfl rfl (hP.subM [1, 2, 3] rfl)) rfl rfl hl.1 rfl (lv_room (Nat.le_of_ble_eq_true rfl)) dX7_refusalOfShelf_2 ⟨Nat.le_of_ble_eq_true rfl, Nat.le_of_ble_eq_true rfl⟩) (fun r1 h hz_r1 => ?_)
  try dsimp only at h
  refine lv_if_ne (tgt := 10) hx hb dX7_refusalOfShelf_5 (by decide) (fun hc => ?_) (fun hc => ?_)
  · have h := h.1 hc
    refine lv_aload_n hx hb dX7_refusalOfShelf_10 rfl (lv_at hl 1 rfl) ?_
    refine lv_iload_n hx hb dX7_refusalOfShelf_11 rfl (lv_at hl 2 rfl) ?_
    refine rd_callz (va_runV (As := [.int number]) (rest := []) ⟨hx, hb, hml, hown, hts⟩ (c_X5_isThere l D ca a_shelf shelf_ns shelf_nc shelf_width shelf_sizes shelf_cells number _ h) (cwV 1 hts gX7_refusalOfShelf_X5_isThere rfl rfl rfl (by decide +kernel) ⟨Nat.le_of_ble_eq_true rfl, Nat.le_of_ble_eq_true rfl⟩) (PcX.preV (q := (RX5, TX5, 3)) (ci := 4) (q0 := 1) hK hP rfl rfl (hP.subM [1, 2, 3] rfl)) rfl rfl hl.1 rfl (lv_room (Nat.le_of_ble_eq_true rfl)) dX7_refusalOfShelf_12 ⟨Nat.le_of_ble_eq_true rfl, Nat.le_of_ble_eq_true rfl⟩) (fun r2 h hz_r2 => ?_)
    try dsimp only at h
    refine lv_if_eq (tgt := 22) hx hb dX7_refusalOfShelf_15 (by decide) (fun hc => ?_) (fun hc => ?_)
    · have h := h.1 hc
      refine lv_aload_n hx hb dX7_refusalOfShelf_22 rfl (lv_at hl 0 rfl) ?_
      refine va_get (D := D) (ci := 6) (v := .ref (aY 0)) (C := RX7) (T := TX7) (N := 10) hx hb hts hi_X7_refusalOfShelf_X7 hown hK.1 hP 0 rfl rfl 8 (by decide) (hts _ k_X7_refusalOfShelf_1) (fun _ h9 => h9) rfl dX7_refusalOfShelf_23 ?_
      refine lv_iconst (v := (1)) hx hb dX7_refusalOfShelf_26 (by decide) ?_
      refine wr_calli (ws1 := fun u => (W_X7 a aR aT aH aD aK aI aC aS aY lastTold) ++ (W_X5 ca a_shelf shelf_ns shelf_nc shelf_width shelf_sizes shelf_cells) ++ (W_X6 ca aY u.1 u.2)) (wr := ([0, 1, 2, 3] : List Nat).filterMap (fun i => ((W_X7 a aR aT aH aD aK aI aC aS aY lastTold) ++ (W_X5 ca a_shelf shelf_ns shelf_nc shelf_width shelf_sizes shelf_cells) ++ (W_X6 ca aY tally_often tally_latest) : va_W)[i]?)) (n := 6) (va_runV (As := [.int (1 : Int32)]) (rest := []) ⟨hx, hb, hml, hown, hts⟩ (c_X6_note l D ca aY tally_often tally_latest (1 : Int32) _ (hD.subM [4, 5] (by decide) rfl) h) (cwV 1 hts gX7_refusalOfShelf_X6_note rfl rfl rfl (by decide +kernel) ⟨Nat.le_of_ble_eq_true rfl, Nat.le_of_ble_eq_true rfl⟩) (PcX.preV (q := (RX6, TX6, 2)) (ci := 5) (q0 := 4) hK hP rfl rfl (hP.subM [4, 5] rfl)) rfl rfl hl.1 rfl (lv_room (Nat.le_of_ble_eq_true rfl)) dX7_refusalOfShelf_27 ⟨Nat.le_of_ble_eq_true rfl, Nat.le_of_ble_eq_true rfl⟩) hP hD hS [4, 5] [0, 1, 2, 3] rfl (fun _ => rfl) rfl (fun _ => rfl) (fun _ => rfl) (fun _ => rfl) (by decide +kernel) (by decide +kernel) (fun r3 u H locs h hP hD hS => ?_)
      obtain ⟨tally_often_4, tally_latest_5⟩ := u
      have hP : va_P D vwCl ((W_X7 a aR aT aH aD aK aI aC aS aY lastTold) ++ (W_X5 ca a_shelf shelf_ns shelf_nc shelf_width shelf_sizes shelf_cells) ++ (W_X6 ca aY tally_often_4 tally_latest_5)) H := hP
      have hD : va_D _ ((W_X7 a aR aT aH aD aK aI aC aS aY lastTold) ++ (W_X5 ca a_shelf shelf_ns shelf_nc shelf_width shelf_sizes shelf_cells) ++ (W_X6 ca aY tally_often_4 tally_latest_5)) := hD
      try dsimp only at h
      exact W.iret (v := r3) hx hb hr (fun t ht hW => ⟨⟨r3, (tally_often_4, tally_latest_5), rfl, h, by rw [ht]; exact hP⟩, hS.F ht⟩) hS.2.2 dX7_refusalOfShelf_30
    · have h := h.2 hc
      refine lv_iconst (v := (0)) hx hb dX7_refusalOfShelf_18 (by decide) ?_
      refine lv_goto (tgt := 30) hx hb dX7_refusalOfShelf_19 (by decide) ?_
      exact W.iret (v := (0 : Int32)) hx hb hr (fun t ht hW => ⟨⟨(0 : Int32), (tally_often, tally_latest), rfl, h, by rw [ht]; exact hP⟩, hS.F ht⟩) hS.2.2 dX7_refusalOfShelf_30
  · have h := h.2 hc
    refine lv_iconst (v := (-1)) hx hb dX7_refusalOfShelf_8 (by decide) ?_
    exact W.iret (v := (-1 : Int32)) hx hb hr (fun t ht hW => ⟨⟨(-1 : Int32), (tally_often, tally_latest), rfl, h, by rw [ht]; exact hP⟩, hS.F ht⟩) hS.2.2 dX7_refusalOfShelf_9

-- IronedQuarrels.refusalOfPlace(LIronedQuarrels$Shelf;II)I
def wp_X7_refusalOfPlace (shelf_ns : Nat) (shelf_sizes : Nat → Int32) (tally_often : Nat → Int32) (tally_latest : Int32) (number : Int32) (place : Int32) (post : Int32 → (Nat → Int32) → (Int32) → Prop) : Prop :=
  wp_X7_refusalOfShelf shelf_ns shelf_sizes tally_often tally_latest number (fun r1 tally_often_2 tally_latest_3 => (r1 = 0 → (wp_X5_hasPlace shelf_ns shelf_sizes number place (fun r4 => (r4 = 0 → (wp_X6_note tally_often_2 (2 : Int32) (fun r5 tally_often_6 tally_latest_7 => post r5 tally_often_6 tally_latest_7))) ∧ (¬ r4 = 0 → (post (0 : Int32) tally_often_2 tally_latest_3))))) ∧ (¬ r1 = 0 → (post r1 tally_often_2 tally_latest_3)))
def rm_X7_refusalOfPlace : Room := { frames := 2, cells := 0, slots := 0, locals := 43 }
theorem k_X7_refusalOfPlace_1 : Cond.fieldLink RX7 59 "IronedQuarrels" "tally" "LIronedQuarrels$Tally;" ∈ wsX7_refusalOfPlace := List.mem_of_getElem? (i := 1) (by decide +kernel)
theorem hi_X7_refusalOfPlace_X5 : ∀ w ∈ wsX50, w ∈ wsX7_refusalOfPlace := fun w h => List.mem_cons_of_mem _ (List.mem_append_left _ (List.mem_append_right _ h))
theorem hi_X7_refusalOfPlace_X6 : ∀ w ∈ wsX60, w ∈ wsX7_refusalOfPlace := fun w h => List.mem_cons_of_mem _ (List.mem_append_right _ h)
theorem hi_X7_refusalOfPlace_X7 : ∀ w ∈ wsX70, w ∈ wsX7_refusalOfPlace := fun w h => List.mem_cons_of_mem _ (List.mem_append_left _ (List.mem_append_left _ (List.mem_append_right _ h)))
set_option maxHeartbeats 4000000 in
set_option maxRecDepth 100000 in
theorem c_X7_refusalOfPlace (l : Launch) (D : va_G) (ca : Nat → ClassId) (a : Nat → Nat) (aR : Nat → Nat) (aT : Nat → Nat) (aH : Nat → Nat) (aD : Nat → Nat) (aK : Nat) (aI : Nat → Nat) (aC : Nat → Nat) (aS : Nat → Nat) (aY : Nat → Nat) (a_shelf : Nat → Nat) (lastTold : Int32) (shelf_ns : Nat) (shelf_nc : Nat) (shelf_width : Int32) (shelf_sizes : Nat → Int32) (shelf_cells : Nat → Int32) (tally_often : Nat → Int32) (tally_latest : Int32) (number : Int32) (place : Int32) (post : Int32 → (Nat → Int32) → (Int32) → Prop) (hd : va_D (fun _ => True) ((W_X7 a aR aT aH aD aK aI aC aS aY lastTold) ++ (W_X5 ca a_shelf shelf_ns shelf_nc shelf_width shelf_sizes shelf_cells) ++ (W_X6 ca aY tally_often tally_latest))) (h : wp_X7_refusalOfPlace shelf_ns shelf_sizes tally_often tally_latest number place post) : Met l yX7_refusalOfPlace wsX7_refusalOfPlace rm_X7_refusalOfPlace (PcX D ca [.ref (a 0), .ref (a_shelf 0), .int number, .int place] ((W_X7 a aR aT aH aD aK aI aC aS aY lastTold) ++ (W_X5 ca a_shelf shelf_ns shelf_nc shelf_width shelf_sizes shelf_cells) ++ (W_X6 ca aY tally_often tally_latest))) (wrI (S := (Nat → Int32) × (Int32)) D ((W_X7 a aR aT aH aD aK aI aC aS aY lastTold) ++ (W_X5 ca a_shelf shelf_ns shelf_nc shelf_width shelf_sizes shelf_cells) ++ (W_X6 ca aY tally_often tally_latest)) (fun u => (W_X7 a aR aT aH aD aK aI aC aS aY lastTold) ++ (W_X5 ca a_shelf shelf_ns shelf_nc shelf_width shelf_sizes shelf_cells) ++ (W_X6 ca aY u.1 u.2)) (fun r u => post r u.1 u.2)) 0 0 (adr ((W_X7 a aR aT aH aD aK aI aC aS aY lastTold) ++ (W_X5 ca a_shelf shelf_ns shelf_nc shelf_width shelf_sizes shelf_cells) ++ (W_X6 ca aY tally_often tally_latest))) := by
  refine Met.ofW (cc := cX7_refusalOfPlace) (maxL := 5) (ret := (some .int)) (by decide) rfl ?_
  intro zp ze zs zm za zb zt zc z1 B hml hv
  obtain ⟨rfl, hP, hK⟩ := hv
  have hx := B.exec
  have hb := B.bytes
  have hr := B.returns
  have hts := atoms_spec (ws := wsX7_refusalOfPlace) B.pre
  have hown : zs.vm.findClass RX7 = some zm.cls := findClass_of_methodNamed B.named
  have hlocks := B.notSynchronized
  have hD : va_D (adr ((W_X7 a aR aT aH aD aK aI aC aS aY lastTold) ++ (W_X5 ca a_shelf shelf_ns shelf_nc shelf_width shelf_sizes shelf_cells) ++ (W_X6 ca aY tally_often tally_latest))) ((W_X7 a aR aT aH aD aK aI aC aS aY lastTold) ++ (W_X5 ca a_shelf shelf_ns shelf_nc shelf_width shelf_sizes shelf_cells) ++ (W_X6 ca aY tally_often tally_latest)) := hd.adr
  have hS : va_S (adr ((W_X7 a aR aT aH aD aK aI aC aS aY lastTold) ++ (W_X5 ca a_shelf shelf_ns shelf_nc shelf_width shelf_sizes shelf_cells) ++ (W_X6 ca aY tally_often tally_latest))) zs.heap zs.heap [] := va_S.rf
  have hl := lv_entry ([.ref (a 0), .ref (a_shelf 0), .int number, .int place]) (n := 5) (Nat.le_of_ble_eq_true rfl)
  rw [lg_entry_eq]
  generalize (lg_sl ([.ref (a 0), .ref (a_shelf 0), .int number, .int place]) ++ List.replicate (5 - (lg_sl ([.ref (a 0), .ref (a_shelf 0), .int number, .int place])).length) Slot.unset).toArray = ls at hl ⊢
  replace hl : lv_has ls 5 [(0, .ref (a 0)), (1, .ref (a_shelf 0)), (2, .int number), (3, .int place)] := hl
  show W zp l ze rm_X7_refusalOfPlace zs zm ([.ref (a 0), .ref (a_shelf 0), .int number, .int place] : List Value).toArray zb zt zc zs.heap [] 0 0 (MQ zb (wrI (S := (Nat → Int32) × (Int32)) D ((W_X7 a aR aT aH aD aK aI aC aS aY lastTold) ++ (W_X5 ca a_shelf shelf_ns shelf_nc shelf_width shelf_sizes shelf_cells) ++ (W_X6 ca aY tally_often tally_latest)) (fun u => (W_X7 a aR aT aH aD aK aI aC aS aY lastTold) ++ (W_X5 ca a_shelf shelf_ns shelf_nc shelf_width shelf_sizes shelf_cells) ++ (W_X6 ca aY u.1 u.2)) (fun r u => post r u.1 u.2)) ([.ref (a 0), .ref (a_shelf 0), .int number, .int place] : List Value).toArray zs 0 0 (adr ((W_X7 a aR aT aH aD aK aI aC aS aY lastTold) ++ (W_X5 ca a_shelf shelf_ns shelf_nc shelf_width shelf_sizes shelf_cells) ++ (W_X6 ca aY tally_often tally_latest)))) (F0 zm 0 ls [])
  unfold wp_X7_refusalOfPlace at h
  refine lv_aload_n hx hb dX7_refusalOfPlace_0 rfl (lv_at hl 0 rfl) ?_
  refine lv_aload_n hx hb dX7_refusalOfPlace_1 rfl (lv_at hl 1 rfl) ?_
  refine lv_iload_n hx hb dX7_refusalOfPlace_2 rfl (lv_at hl 2 rfl) ?_
  refine wr_calli (ws1 := fun u => (W_X7 a aR aT aH aD aK aI aC aS aY lastTold) ++ (W_X5 ca a_shelf shelf_ns shelf_nc shelf_width shelf_sizes shelf_cells) ++ (W_X6 ca aY u.1 u.2)) (wr := ([] : List Nat).filterMap (fun i => ((W_X7 a aR aT aH aD aK aI aC aS aY lastTold) ++ (W_X5 ca a_shelf shelf_ns shelf_nc shelf_width shelf_sizes shelf_cells) ++ (W_X6 ca aY tally_often tally_latest) : va_W)[i]?)) (n := 6) (va_runV (As := [.ref (a_shelf 0), .int number]) (rest := []) ⟨hx, hb, hml, hown, hts⟩ (c_X7_refusalOfShelf l D ca a aR aT aH aD aK aI aC aS aY a_shelf lastTold shelf_ns shelf_nc shelf_width shelf_sizes shelf_cells tally_often tally_latest number _ (hD.subM [0, 1, 2, 3, 4, 5] (by decide) rfl) h) (cwV 2 hts gX7_refusalOfPlace_X7_refusalOfShelf rfl rfl rfl (by decide +kernel) ⟨Nat.le_of_ble_eq_true rfl, Nat.le_of_ble_eq_true rfl⟩) (PcX.preV (q := (RX7, TX7, 10)) (ci := 6) (q0 := 0) hK hP rfl rfl hP) rfl rfl hl.1 rfl (lv_room (Nat.le_of_ble_eq_true rfl)) dX7_refusalOfPlace_3 ⟨Nat.le_of_ble_eq_true rfl, Nat.le_of_ble_eq_true rfl⟩) hP hD hS [0, 1, 2, 3, 4, 5] [] rfl (fun _ => rfl) rfl (fun _ => rfl) (fun _ => rfl) (fun _ => rfl) (by decide +kernel) (by decide +kernel) (fun r1 u H locs h hP hD hS => ?_)
  obtain ⟨tally_often_2, tally_latest_3⟩ := u
  have hP : va_P D vwCl ((W_X7 a aR aT aH aD aK aI aC aS aY lastTold) ++ (W_X5 ca a_shelf shelf_ns shelf_nc shelf_width shelf_sizes shelf_cells) ++ (W_X6 ca aY tally_often_2 tally_latest_3)) H := hP
  have hD : va_D _ ((W_X7 a aR aT aH aD aK aI aC aS aY lastTold) ++ (W_X5 ca a_shelf shelf_ns shelf_nc shelf_width shelf_sizes shelf_cells) ++ (W_X6 ca aY tally_often_2 tally_latest_3)) := hD
  try dsimp only at h
  refine lv_istore (lv' := [(4, .int r1), (0, .ref (a 0)), (1, .ref (a_shelf 0)), (2, .int number), (3, .int place)]) hx hb dX7_refusalOfPlace_6 hl (by decide) rfl (fun ls hl => ?_)
  refine lv_iload hx hb dX7_refusalOfPlace_8 (lv_at hl 0 rfl) ?_
  refine lv_if_eq (tgt := 16) hx hb dX7_refusalOfPlace_10 (by decide) (fun hc => ?_) (fun hc => ?_)
  · have h := h.1 hc
    refine lv_aload_n hx hb dX7_refusalOfPlace_16 rfl (lv_at hl 2 rfl) ?_
    refine lv_iload_n hx hb dX7_refusalOfPlace_17 rfl (lv_at hl 3 rfl) ?_
    refine lv_iload_n hx hb dX7_refusalOfPlace_18 rfl (lv_at hl 4 rfl) ?_
    refine rd_callz (va_runV (As := [.int number, .int place]) (rest := []) ⟨hx, hb, hml, hown, hts⟩ (c_X5_hasPlace l D ca a_shelf shelf_ns shelf_nc shelf_width shelf_sizes shelf_cells number place _ h) (cwV 2 hts gX7_refusalOfPlace_X5_hasPlace rfl rfl rfl (by decide +kernel) ⟨Nat.le_of_ble_eq_true rfl, Nat.le_of_ble_eq_true rfl⟩) (PcX.preV (q := (RX5, TX5, 3)) (ci := 4) (q0 := 1) hK hP rfl rfl (hP.subM [1, 2, 3] rfl)) rfl rfl hl.1 rfl (lv_room (Nat.le_of_ble_eq_true rfl)) dX7_refusalOfPlace_19 ⟨Nat.le_of_ble_eq_true rfl, Nat.le_of_ble_eq_true rfl⟩) (fun r4 h hz_r4 => ?_)
    try dsimp only at h
    refine lv_if_eq (tgt := 29) hx hb dX7_refusalOfPlace_22 (by decide) (fun hc => ?_) (fun hc => ?_)
    · have h := h.1 hc
      refine lv_aload_n hx hb dX7_refusalOfPlace_29 rfl (lv_at hl 1 rfl) ?_
      refine va_get (D := D) (ci := 6) (v := .ref (aY 0)) (C := RX7) (T := TX7) (N := 10) hx hb hts hi_X7_refusalOfPlace_X7 hown hK.1 hP 0 rfl rfl 8 (by decide) (hts _ k_X7_refusalOfPlace_1) (fun _ h9 => h9) rfl dX7_refusalOfPlace_30 ?_
      refine lv_iconst (v := (2)) hx hb dX7_refusalOfPlace_33 (by decide) ?_
      refine wr_calli (ws1 := fun u => (W_X7 a aR aT aH aD aK aI aC aS aY lastTold) ++ (W_X5 ca a_shelf shelf_ns shelf_nc shelf_width shelf_sizes shelf_cells) ++ (W_X6 ca aY u.1 u.2)) (wr := ([0, 1, 2, 3] : List Nat).filterMap (fun i => ((W_X7 a aR aT aH aD aK aI aC aS aY lastTold) ++ (W_X5 ca a_shelf shelf_ns shelf_nc shelf_width shelf_sizes shelf_cells) ++ (W_X6 ca aY tally_often_2 tally_latest_3) : va_W)[i]?)) (n := 6) (va_runV (As := [.int (2 : Int32)]) (rest := []) ⟨hx, hb, hml, hown, hts⟩ (c_X6_note l D ca aY tally_often_2 tally_latest_3 (2 : Int32) _ (hD.subM [4, 5] (by decide) rfl) h) (cwV 1 hts gX7_refusalOfPlace_X6_note rfl rfl rfl (by decide +kernel) ⟨Nat.le_of_ble_eq_true rfl, Nat.le_of_ble_eq_true rfl⟩) (PcX.preV (q := (RX6, TX6, 2)) (ci := 5) (q0 := 4) hK hP rfl rfl (hP.subM [4, 5] rfl)) rfl rfl hl.1 rfl (lv_room (Nat.le_of_ble_eq_true rfl)) dX7_refusalOfPlace_34 ⟨Nat.le_of_ble_eq_true rfl, Nat.le_of_ble_eq_true rfl⟩) hP hD hS [4, 5] [0, 1, 2, 3] rfl (fun _ => rfl) rfl (fun _ => rfl) (fun _ => rfl) (fun _ => rfl) (by decide +kernel) (by decide +kernel) (fun r5 u H locs h hP hD hS => ?_)
      obtain ⟨tally_often_6, tally_latest_7⟩ := u
      have hP : va_P D vwCl ((W_X7 a aR aT aH aD aK aI aC aS aY lastTold) ++ (W_X5 ca a_shelf shelf_ns shelf_nc shelf_width shelf_sizes shelf_cells) ++ (W_X6 ca aY tally_often_6 tally_latest_7)) H := hP
      have hD : va_D _ ((W_X7 a aR aT aH aD aK aI aC aS aY lastTold) ++ (W_X5 ca a_shelf shelf_ns shelf_nc shelf_width shelf_sizes shelf_cells) ++ (W_X6 ca aY tally_often_6 tally_latest_7)) := hD
      try dsimp only at h
      exact W.iret (v := r5) hx hb hr (fun t ht hW => ⟨⟨r5, (tally_often_6, tally_latest_7), rfl, h, by rw [ht]; exact hP⟩, hS.F ht⟩) hS.2.2 dX7_refusalOfPlace_37
    · have h := h.2 hc
      refine lv_iconst (v := (0)) hx hb dX7_refusalOfPlace_25 (by decide) ?_
      refine lv_goto (tgt := 37) hx hb dX7_refusalOfPlace_26 (by decide) ?_
      exact W.iret (v := (0 : Int32)) hx hb hr (fun t ht hW => ⟨⟨(0 : Int32), (tally_often_2, tally_latest_3), rfl, h, by rw [ht]; exact hP⟩, hS.F ht⟩) hS.2.2 dX7_refusalOfPlace_37
  · have h := h.2 hc
    refine lv_iload hx hb dX7_refusalOfPlace_13 (lv_at hl 0 rfl) ?_
    exact W.iret (v := r1) hx hb hr (fun t ht hW => ⟨⟨r1, (tally_often_2, tally_latest_3), rfl, h, by rw [ht]; exact hP⟩, hS.F ht⟩) hS.2.2 dX7_refusalOfPlace_15

-- IronedQuarrels.lay(III)I
def wp_X7_lay (lastTold : Int32) (rows_ns : Nat) (rows_nc : Nat) (rows_width : Int32) (rows_sizes : Nat → Int32) (rows_cells : Nat → Int32) (tally_often : Nat → Int32) (tally_latest : Int32) (r : Int32) (i : Int32) (v : Int32) (post : Int32 → (Int32) → (Nat → Int32) → (Nat → Int32) → (Int32) → Prop) : Prop :=
  wp_X7_refusalOfPlace rows_ns rows_sizes tally_often tally_latest r i (fun r1 tally_often_2 tally_latest_3 => (r1 = 0 → (wp_X5_cell rows_nc rows_width rows_cells r i (fun r4 => wp_X5_setCell rows_nc rows_width rows_cells r i v (fun rows_cells_5 => post (1 : Int32) r4 rows_cells_5 tally_often_2 tally_latest_3)))) ∧ (¬ r1 = 0 → (post r1 lastTold rows_cells tally_often_2 tally_latest_3)))
def rm_X7_lay : Room := { frames := 3, cells := 0, slots := 0, locals := 67 }
theorem k_X7_lay_1 : Cond.fieldLink RX7 14 "IronedQuarrels" "rows" "LIronedQuarrels$Shelf;" ∈ wsX7_lay := List.mem_of_getElem? (i := 1) (by decide +kernel)
theorem k_X7_lay_2 : Cond.fieldLink RX7 63 "IronedQuarrels" "lastTold" "I" ∈ wsX7_lay := List.mem_of_getElem? (i := 2) (by decide +kernel)
theorem hi_X7_lay_X5 : ∀ w ∈ wsX50, w ∈ wsX7_lay := fun w h => List.mem_cons_of_mem _ (List.mem_append_left _ (List.mem_append_right _ h))
theorem hi_X7_lay_X6 : ∀ w ∈ wsX60, w ∈ wsX7_lay := fun w h => List.mem_cons_of_mem _ (List.mem_append_right _ h)
theorem hi_X7_lay_X7 : ∀ w ∈ wsX70, w ∈ wsX7_lay := fun w h => List.mem_cons_of_mem _ (List.mem_append_left _ (List.mem_append_left _ (List.mem_append_right _ h)))
set_option maxHeartbeats 4000000 in
set_option maxRecDepth 100000 in
theorem c_X7_lay (l : Launch) (D : va_G) (ca : Nat → ClassId) (a : Nat → Nat) (aR : Nat → Nat) (aT : Nat → Nat) (aH : Nat → Nat) (aD : Nat → Nat) (aK : Nat) (aI : Nat → Nat) (aC : Nat → Nat) (aS : Nat → Nat) (aY : Nat → Nat) (lastTold : Int32) (rows_ns : Nat) (rows_nc : Nat) (rows_width : Int32) (rows_sizes : Nat → Int32) (rows_cells : Nat → Int32) (tally_often : Nat → Int32) (tally_latest : Int32) (r : Int32) (i : Int32) (v : Int32) (post : Int32 → (Int32) → (Nat → Int32) → (Nat → Int32) → (Int32) → Prop) (hd : va_D (fun _ => True) ((W_X7 a aR aT aH aD aK aI aC aS aY lastTold) ++ (W_X5 ca aR rows_ns rows_nc rows_width rows_sizes rows_cells) ++ (W_X6 ca aY tally_often tally_latest))) (h : wp_X7_lay lastTold rows_ns rows_nc rows_width rows_sizes rows_cells tally_often tally_latest r i v post) : Met l yX7_lay wsX7_lay rm_X7_lay (PcX D ca [.ref (a 0), .int r, .int i, .int v] ((W_X7 a aR aT aH aD aK aI aC aS aY lastTold) ++ (W_X5 ca aR rows_ns rows_nc rows_width rows_sizes rows_cells) ++ (W_X6 ca aY tally_often tally_latest))) (wrI (S := (Int32) × (Nat → Int32) × (Nat → Int32) × (Int32)) D ((W_X7 a aR aT aH aD aK aI aC aS aY lastTold) ++ (W_X5 ca aR rows_ns rows_nc rows_width rows_sizes rows_cells) ++ (W_X6 ca aY tally_often tally_latest)) (fun u => (W_X7 a aR aT aH aD aK aI aC aS aY u.1) ++ (W_X5 ca aR rows_ns rows_nc rows_width rows_sizes u.2.1) ++ (W_X6 ca aY u.2.2.1 u.2.2.2)) (fun r u => post r u.1 u.2.1 u.2.2.1 u.2.2.2)) 0 0 (adr ((W_X7 a aR aT aH aD aK aI aC aS aY lastTold) ++ (W_X5 ca aR rows_ns rows_nc rows_width rows_sizes rows_cells) ++ (W_X6 ca aY tally_often tally_latest))) := by
  refine Met.ofW (cc := cX7_lay) (maxL := 5) (ret := (some .int)) (by decide) rfl ?_
  intro zp ze zs zm za zb zt zc z1 B hml hv
  obtain ⟨rfl, hP, hK⟩ := hv
  have hx := B.exec
  have hb := B.bytes
  have hr := B.returns
  have hts := atoms_spec (ws := wsX7_lay) B.pre
  have hown : zs.vm.findClass RX7 = some zm.cls := findClass_of_methodNamed B.named
  have hlocks := B.notSynchronized
  have hD : va_D (adr ((W_X7 a aR aT aH aD aK aI aC aS aY lastTold) ++ (W_X5 ca aR rows_ns rows_nc rows_width rows_sizes rows_cells) ++ (W_X6 ca aY tally_often tally_latest))) ((W_X7 a aR aT aH aD aK aI aC aS aY lastTold) ++ (W_X5 ca aR rows_ns rows_nc rows_width rows_sizes rows_cells) ++ (W_X6 ca aY tally_often tally_latest)) := hd.adr
  have hS : va_S (adr ((W_X7 a aR aT aH aD aK aI aC aS aY lastTold) ++ (W_X5 ca aR rows_ns rows_nc rows_width rows_sizes rows_cells) ++ (W_X6 ca aY tally_often tally_latest))) zs.heap zs.heap [] := va_S.rf
  have hl := lv_entry ([.ref (a 0), .int r, .int i, .int v]) (n := 5) (Nat.le_of_ble_eq_true rfl)
  rw [lg_entry_eq]
  generalize (lg_sl ([.ref (a 0), .int r, .int i, .int v]) ++ List.replicate (5 - (lg_sl ([.ref (a 0), .int r, .int i, .int v])).length) Slot.unset).toArray = ls at hl ⊢
  replace hl : lv_has ls 5 [(0, .ref (a 0)), (1, .int r), (2, .int i), (3, .int v)] := hl
  show W zp l ze rm_X7_lay zs zm ([.ref (a 0), .int r, .int i, .int v] : List Value).toArray zb zt zc zs.heap [] 0 0 (MQ zb (wrI (S := (Int32) × (Nat → Int32) × (Nat → Int32) × (Int32)) D ((W_X7 a aR aT aH aD aK aI aC aS aY lastTold) ++ (W_X5 ca aR rows_ns rows_nc rows_width rows_sizes rows_cells) ++ (W_X6 ca aY tally_often tally_latest)) (fun u => (W_X7 a aR aT aH aD aK aI aC aS aY u.1) ++ (W_X5 ca aR rows_ns rows_nc rows_width rows_sizes u.2.1) ++ (W_X6 ca aY u.2.2.1 u.2.2.2)) (fun r u => post r u.1 u.2.1 u.2.2.1 u.2.2.2)) ([.ref (a 0), .int r, .int i, .int v] : List Value).toArray zs 0 0 (adr ((W_X7 a aR aT aH aD aK aI aC aS aY lastTold) ++ (W_X5 ca aR rows_ns rows_nc rows_width rows_sizes rows_cells) ++ (W_X6 ca aY tally_often tally_latest)))) (F0 zm 0 ls [])
  unfold wp_X7_lay at h
  refine lv_aload_n hx hb dX7_lay_0 rfl (lv_at hl 0 rfl) ?_
  refine lv_aload_n hx hb dX7_lay_1 rfl (lv_at hl 0 rfl) ?_
  refine va_get (D := D) (ci := 6) (v := .ref (aR 0)) (C := RX7) (T := TX7) (N := 10) hx hb hts hi_X7_lay_X7 hown hK.1 hP 0 rfl rfl 0 (by decide) (hts _ k_X7_lay_1) (fun _ h9 => h9) rfl dX7_lay_2 ?_
  refine lv_iload_n hx hb dX7_lay_5 rfl (lv_at hl 1 rfl) ?_
  refine lv_iload_n hx hb dX7_lay_6 rfl (lv_at hl 2 rfl) ?_
  refine wr_calli (ws1 := fun u => (W_X7 a aR aT aH aD aK aI aC aS aY lastTold) ++ (W_X5 ca aR rows_ns rows_nc rows_width rows_sizes rows_cells) ++ (W_X6 ca aY u.1 u.2)) (wr := ([] : List Nat).filterMap (fun i => ((W_X7 a aR aT aH aD aK aI aC aS aY lastTold) ++ (W_X5 ca aR rows_ns rows_nc rows_width rows_sizes rows_cells) ++ (W_X6 ca aY tally_often tally_latest) : va_W)[i]?)) (n := 6) (va_runV (As := [.ref (aR 0), .int r, .int i]) (rest := []) ⟨hx, hb, hml, hown, hts⟩ (c_X7_refusalOfPlace l D ca a aR aT aH aD aK aI aC aS aY aR lastTold rows_ns rows_nc rows_width rows_sizes rows_cells tally_often tally_latest r i _ (hD.subM [0, 1, 2, 3, 4, 5] (by decide) rfl) h) (cwV 3 hts gX7_lay_X7_refusalOfPlace rfl rfl rfl (by decide +kernel) ⟨Nat.le_of_ble_eq_true rfl, Nat.le_of_ble_eq_true rfl⟩) (PcX.preV (q := (RX7, TX7, 10)) (ci := 6) (q0 := 0) hK hP rfl rfl hP) rfl rfl hl.1 rfl (lv_room (Nat.le_of_ble_eq_true rfl)) dX7_lay_7 ⟨Nat.le_of_ble_eq_true rfl, Nat.le_of_ble_eq_true rfl⟩) hP hD hS [0, 1, 2, 3, 4, 5] [] rfl (fun _ => rfl) rfl (fun _ => rfl) (fun _ => rfl) (fun _ => rfl) (by decide +kernel) (by decide +kernel) (fun r1 u H locs h hP hD hS => ?_)
  obtain ⟨tally_often_2, tally_latest_3⟩ := u
  have hP : va_P D vwCl ((W_X7 a aR aT aH aD aK aI aC aS aY lastTold) ++ (W_X5 ca aR rows_ns rows_nc rows_width rows_sizes rows_cells) ++ (W_X6 ca aY tally_often_2 tally_latest_3)) H := hP
  have hD : va_D _ ((W_X7 a aR aT aH aD aK aI aC aS aY lastTold) ++ (W_X5 ca aR rows_ns rows_nc rows_width rows_sizes rows_cells) ++ (W_X6 ca aY tally_often_2 tally_latest_3)) := hD
  try dsimp only at h
  refine lv_istore (lv' := [(4, .int r1), (0, .ref (a 0)), (1, .int r), (2, .int i), (3, .int v)]) hx hb dX7_lay_10 hl (by decide) rfl (fun ls hl => ?_)
  refine lv_iload hx hb dX7_lay_12 (lv_at hl 0 rfl) ?_
  refine lv_if_eq (tgt := 20) hx hb dX7_lay_14 (by decide) (fun hc => ?_) (fun hc => ?_)
  · have h := h.1 hc
    refine lv_aload_n hx hb dX7_lay_20 rfl (lv_at hl 1 rfl) ?_
    refine lv_aload_n hx hb dX7_lay_21 rfl (lv_at hl 1 rfl) ?_
    refine va_get (D := D) (ci := 6) (v := .ref (aR 0)) (C := RX7) (T := TX7) (N := 10) hx hb hts hi_X7_lay_X7 hown hK.1 hP 0 rfl rfl 0 (by decide) (hts _ k_X7_lay_1) (fun _ h9 => h9) rfl dX7_lay_22 ?_
    refine lv_iload_n hx hb dX7_lay_25 rfl (lv_at hl 2 rfl) ?_
    refine lv_iload_n hx hb dX7_lay_26 rfl (lv_at hl 3 rfl) ?_
    refine rd_calli (va_runV (As := [.int r, .int i]) (rest := [.ref (a 0)]) ⟨hx, hb, hml, hown, hts⟩ (c_X5_cell l D ca aR rows_ns rows_nc rows_width rows_sizes rows_cells r i _ h) (cwV 2 hts gX7_lay_X5_cell rfl rfl rfl (by decide +kernel) ⟨Nat.le_of_ble_eq_true rfl, Nat.le_of_ble_eq_true rfl⟩) (PcX.preV (q := (RX5, TX5, 3)) (ci := 4) (q0 := 1) hK hP rfl rfl (hP.subM [1, 2, 3] rfl)) rfl rfl hl.1 rfl (lv_room (Nat.le_of_ble_eq_true rfl)) dX7_lay_27 ⟨Nat.le_of_ble_eq_true rfl, Nat.le_of_ble_eq_true rfl⟩) (fun r4 h => ?_)
    try dsimp only at h
    refine va_put (D := D) (ci := 6) (v := .int r4) (ty := .int) (C := RX7) (T := TX7) (N := 10) hx hb hts hi_X7_lay_X7 tyX7 tyX7_ok nmX7 hown hK.1 hP hD hS 0 rfl rfl 9 (by decide) (hts _ k_X7_lay_2) (fun _ h9 => h9) rfl (by decide +kernel) rfl rfl (Nat.le_of_ble_eq_true rfl) dX7_lay_30 (fun H locs hP hD hS => ?_)
    have hP : va_P D vwCl ((W_X7 a aR aT aH aD aK aI aC aS aY r4) ++ (W_X5 ca aR rows_ns rows_nc rows_width rows_sizes rows_cells) ++ (W_X6 ca aY tally_often_2 tally_latest_3)) H := hP
    have hD : va_D _ ((W_X7 a aR aT aH aD aK aI aC aS aY r4) ++ (W_X5 ca aR rows_ns rows_nc rows_width rows_sizes rows_cells) ++ (W_X6 ca aY tally_often_2 tally_latest_3)) := hD
    refine lv_aload_n hx hb dX7_lay_33 rfl (lv_at hl 1 rfl) ?_
    refine va_get (D := D) (ci := 6) (v := .ref (aR 0)) (C := RX7) (T := TX7) (N := 10) hx hb hts hi_X7_lay_X7 hown hK.1 hP 0 rfl rfl 0 (by decide) (hts _ k_X7_lay_1) (fun _ h9 => h9) rfl dX7_lay_34 ?_
    refine lv_iload_n hx hb dX7_lay_37 rfl (lv_at hl 2 rfl) ?_
    refine lv_iload_n hx hb dX7_lay_38 rfl (lv_at hl 3 rfl) ?_
    refine lv_iload_n hx hb dX7_lay_39 rfl (lv_at hl 4 rfl) ?_
    refine wr_callv (ws1 := fun u => (W_X7 a aR aT aH aD aK aI aC aS aY r4) ++ (W_X5 ca aR rows_ns rows_nc rows_width rows_sizes u) ++ (W_X6 ca aY tally_often_2 tally_latest_3)) (wr := ([0, 4, 5] : List Nat).filterMap (fun i => ((W_X7 a aR aT aH aD aK aI aC aS aY r4) ++ (W_X5 ca aR rows_ns rows_nc rows_width rows_sizes rows_cells) ++ (W_X6 ca aY tally_often_2 tally_latest_3) : va_W)[i]?)) (n := 6) (va_runV (As := [.int r, .int i, .int v]) (rest := []) ⟨hx, hb, hml, hown, hts⟩ (c_X5_setCell l D ca aR rows_ns rows_nc rows_width rows_sizes rows_cells r i v _ (hD.subM [1, 2, 3] (by decide) rfl) h) (cwV 3 hts gX7_lay_X5_setCell rfl rfl rfl (by decide +kernel) ⟨Nat.le_of_ble_eq_true rfl, Nat.le_of_ble_eq_true rfl⟩) (PcX.preV (q := (RX5, TX5, 3)) (ci := 4) (q0 := 1) hK hP rfl rfl (hP.subM [1, 2, 3] rfl)) rfl rfl hl.1 rfl (lv_room (Nat.le_of_ble_eq_true rfl)) dX7_lay_40 ⟨Nat.le_of_ble_eq_true rfl, Nat.le_of_ble_eq_true rfl⟩) hP hD hS [1, 2, 3] [0, 4, 5] rfl (fun _ => rfl) rfl (fun _ => rfl) (fun _ => rfl) (fun _ => rfl) (by decide +kernel) (by decide +kernel) (fun u H locs h hP hD hS => ?_)
    obtain ⟨rows_cells_5, rfl⟩ : ∃ z, z = u := ⟨u, rfl⟩
    have hP : va_P D vwCl ((W_X7 a aR aT aH aD aK aI aC aS aY r4) ++ (W_X5 ca aR rows_ns rows_nc rows_width rows_sizes rows_cells_5) ++ (W_X6 ca aY tally_often_2 tally_latest_3)) H := hP
    have hD : va_D _ ((W_X7 a aR aT aH aD aK aI aC aS aY r4) ++ (W_X5 ca aR rows_ns rows_nc rows_width rows_sizes rows_cells_5) ++ (W_X6 ca aY tally_often_2 tally_latest_3)) := hD
    try dsimp only at h
    refine lv_iconst (v := (1)) hx hb dX7_lay_43 (by decide) ?_
    exact W.iret (v := (1 : Int32)) hx hb hr (fun t ht hW => ⟨⟨(1 : Int32), (r4, rows_cells_5, tally_often_2, tally_latest_3), rfl, h, by rw [ht]; exact hP⟩, hS.F ht⟩) hS.2.2 dX7_lay_44
  · have h := h.2 hc
    refine lv_iload hx hb dX7_lay_17 (lv_at hl 0 rfl) ?_
    exact W.iret (v := r1) hx hb hr (fun t ht hW => ⟨⟨r1, (lastTold, rows_cells, tally_often_2, tally_latest_3), rfl, h, by rw [ht]; exact hP⟩, hS.F ht⟩) hS.2.2 dX7_lay_19

-- IronedQuarrels.at(II)I
def wp_X7_at (lastTold : Int32) (rows_ns : Nat) (rows_nc : Nat) (rows_width : Int32) (rows_sizes : Nat → Int32) (rows_cells : Nat → Int32) (tally_often : Nat → Int32) (tally_latest : Int32) (r : Int32) (i : Int32) (post : Int32 → (Int32) → (Nat → Int32) → (Int32) → Prop) : Prop :=
  wp_X7_refusalOfPlace rows_ns rows_sizes tally_often tally_latest r i (fun r1 tally_often_2 tally_latest_3 => (r1 = 0 → (wp_X5_cell rows_nc rows_width rows_cells r i (fun r4 => post (1 : Int32) r4 tally_often_2 tally_latest_3))) ∧ (¬ r1 = 0 → (post r1 lastTold tally_often_2 tally_latest_3)))
def rm_X7_at : Room := { frames := 3, cells := 0, slots := 0, locals := 67 }
theorem k_X7_at_1 : Cond.fieldLink RX7 14 "IronedQuarrels" "rows" "LIronedQuarrels$Shelf;" ∈ wsX7_at := List.mem_of_getElem? (i := 1) (by decide +kernel)
theorem k_X7_at_2 : Cond.fieldLink RX7 63 "IronedQuarrels" "lastTold" "I" ∈ wsX7_at := List.mem_of_getElem? (i := 2) (by decide +kernel)
theorem hi_X7_at_X5 : ∀ w ∈ wsX50, w ∈ wsX7_at := fun w h => List.mem_cons_of_mem _ (List.mem_append_left _ (List.mem_append_right _ h))
theorem hi_X7_at_X6 : ∀ w ∈ wsX60, w ∈ wsX7_at := fun w h => List.mem_cons_of_mem _ (List.mem_append_right _ h)
theorem hi_X7_at_X7 : ∀ w ∈ wsX70, w ∈ wsX7_at := fun w h => List.mem_cons_of_mem _ (List.mem_append_left _ (List.mem_append_left _ (List.mem_append_right _ h)))
set_option maxHeartbeats 4000000 in
set_option maxRecDepth 100000 in
theorem c_X7_at (l : Launch) (D : va_G) (ca : Nat → ClassId) (a : Nat → Nat) (aR : Nat → Nat) (aT : Nat → Nat) (aH : Nat → Nat) (aD : Nat → Nat) (aK : Nat) (aI : Nat → Nat) (aC : Nat → Nat) (aS : Nat → Nat) (aY : Nat → Nat) (lastTold : Int32) (rows_ns : Nat) (rows_nc : Nat) (rows_width : Int32) (rows_sizes : Nat → Int32) (rows_cells : Nat → Int32) (tally_often : Nat → Int32) (tally_latest : Int32) (r : Int32) (i : Int32) (post : Int32 → (Int32) → (Nat → Int32) → (Int32) → Prop) (hd : va_D (fun _ => True) ((W_X7 a aR aT aH aD aK aI aC aS aY lastTold) ++ (W_X5 ca aR rows_ns rows_nc rows_width rows_sizes rows_cells) ++ (W_X6 ca aY tally_often tally_latest))) (h : wp_X7_at lastTold rows_ns rows_nc rows_width rows_sizes rows_cells tally_often tally_latest r i post) : Met l yX7_at wsX7_at rm_X7_at (PcX D ca [.ref (a 0), .int r, .int i] ((W_X7 a aR aT aH aD aK aI aC aS aY lastTold) ++ (W_X5 ca aR rows_ns rows_nc rows_width rows_sizes rows_cells) ++ (W_X6 ca aY tally_often tally_latest))) (wrI (S := (Int32) × (Nat → Int32) × (Int32)) D ((W_X7 a aR aT aH aD aK aI aC aS aY lastTold) ++ (W_X5 ca aR rows_ns rows_nc rows_width rows_sizes rows_cells) ++ (W_X6 ca aY tally_often tally_latest)) (fun u => (W_X7 a aR aT aH aD aK aI aC aS aY u.1) ++ (W_X5 ca aR rows_ns rows_nc rows_width rows_sizes rows_cells) ++ (W_X6 ca aY u.2.1 u.2.2)) (fun r u => post r u.1 u.2.1 u.2.2)) 0 0 (adr ((W_X7 a aR aT aH aD aK aI aC aS aY lastTold) ++ (W_X5 ca aR rows_ns rows_nc rows_width rows_sizes rows_cells) ++ (W_X6 ca aY tally_often tally_latest))) := by
  refine Met.ofW (cc := cX7_at) (maxL := 4) (ret := (some .int)) (by decide) rfl ?_
  intro zp ze zs zm za zb zt zc z1 B hml hv
  obtain ⟨rfl, hP, hK⟩ := hv
  have hx := B.exec
  have hb := B.bytes
  have hr := B.returns
  have hts := atoms_spec (ws := wsX7_at) B.pre
  have hown : zs.vm.findClass RX7 = some zm.cls := findClass_of_methodNamed B.named
  have hlocks := B.notSynchronized
  have hD : va_D (adr ((W_X7 a aR aT aH aD aK aI aC aS aY lastTold) ++ (W_X5 ca aR rows_ns rows_nc rows_width rows_sizes rows_cells) ++ (W_X6 ca aY tally_often tally_latest))) ((W_X7 a aR aT aH aD aK aI aC aS aY lastTold) ++ (W_X5 ca aR rows_ns rows_nc rows_width rows_sizes rows_cells) ++ (W_X6 ca aY tally_often tally_latest)) := hd.adr
  have hS : va_S (adr ((W_X7 a aR aT aH aD aK aI aC aS aY lastTold) ++ (W_X5 ca aR rows_ns rows_nc rows_width rows_sizes rows_cells) ++ (W_X6 ca aY tally_often tally_latest))) zs.heap zs.heap [] := va_S.rf
  have hl := lv_entry ([.ref (a 0), .int r, .int i]) (n := 4) (Nat.le_of_ble_eq_true rfl)
  rw [lg_entry_eq]
  generalize (lg_sl ([.ref (a 0), .int r, .int i]) ++ List.replicate (4 - (lg_sl ([.ref (a 0), .int r, .int i])).length) Slot.unset).toArray = ls at hl ⊢
  replace hl : lv_has ls 4 [(0, .ref (a 0)), (1, .int r), (2, .int i)] := hl
  show W zp l ze rm_X7_at zs zm ([.ref (a 0), .int r, .int i] : List Value).toArray zb zt zc zs.heap [] 0 0 (MQ zb (wrI (S := (Int32) × (Nat → Int32) × (Int32)) D ((W_X7 a aR aT aH aD aK aI aC aS aY lastTold) ++ (W_X5 ca aR rows_ns rows_nc rows_width rows_sizes rows_cells) ++ (W_X6 ca aY tally_often tally_latest)) (fun u => (W_X7 a aR aT aH aD aK aI aC aS aY u.1) ++ (W_X5 ca aR rows_ns rows_nc rows_width rows_sizes rows_cells) ++ (W_X6 ca aY u.2.1 u.2.2)) (fun r u => post r u.1 u.2.1 u.2.2)) ([.ref (a 0), .int r, .int i] : List Value).toArray zs 0 0 (adr ((W_X7 a aR aT aH aD aK aI aC aS aY lastTold) ++ (W_X5 ca aR rows_ns rows_nc rows_width rows_sizes rows_cells) ++ (W_X6 ca aY tally_often tally_latest)))) (F0 zm 0 ls [])
  unfold wp_X7_at at h
  refine lv_aload_n hx hb dX7_at_0 rfl (lv_at hl 0 rfl) ?_
  refine lv_aload_n hx hb dX7_at_1 rfl (lv_at hl 0 rfl) ?_
  refine va_get (D := D) (ci := 6) (v := .ref (aR 0)) (C := RX7) (T := TX7) (N := 10) hx hb hts hi_X7_at_X7 hown hK.1 hP 0 rfl rfl 0 (by decide) (hts _ k_X7_at_1) (fun _ h9 => h9) rfl dX7_at_2 ?_
  refine lv_iload_n hx hb dX7_at_5 rfl (lv_at hl 1 rfl) ?_
  refine lv_iload_n hx hb dX7_at_6 rfl (lv_at hl 2 rfl) ?_
  refine wr_calli (ws1 := fun u => (W_X7 a aR aT aH aD aK aI aC aS aY lastTold) ++ (W_X5 ca aR rows_ns rows_nc rows_width rows_sizes rows_cells) ++ (W_X6 ca aY u.1 u.2)) (wr := ([] : List Nat).filterMap (fun i => ((W_X7 a aR aT aH aD aK aI aC aS aY lastTold) ++ (W_X5 ca aR rows_ns rows_nc rows_width rows_sizes rows_cells) ++ (W_X6 ca aY tally_often tally_latest) : va_W)[i]?)) (n := 6) (va_runV (As := [.ref (aR 0), .int r, .int i]) (rest := []) ⟨hx, hb, hml, hown, hts⟩ (c_X7_refusalOfPlace l D ca a aR aT aH aD aK aI aC aS aY aR lastTold rows_ns rows_nc rows_width rows_sizes rows_cells tally_often tally_latest r i _ (hD.subM [0, 1, 2, 3, 4, 5] (by decide) rfl) h) (cwV 3 hts gX7_at_X7_refusalOfPlace rfl rfl rfl (by decide +kernel) ⟨Nat.le_of_ble_eq_true rfl, Nat.le_of_ble_eq_true rfl⟩) (PcX.preV (q := (RX7, TX7, 10)) (ci := 6) (q0 := 0) hK hP rfl rfl hP) rfl rfl hl.1 rfl (lv_room (Nat.le_of_ble_eq_true rfl)) dX7_at_7 ⟨Nat.le_of_ble_eq_true rfl, Nat.le_of_ble_eq_true rfl⟩) hP hD hS [0, 1, 2, 3, 4, 5] [] rfl (fun _ => rfl) rfl (fun _ => rfl) (fun _ => rfl) (fun _ => rfl) (by decide +kernel) (by decide +kernel) (fun r1 u H locs h hP hD hS => ?_)
  obtain ⟨tally_often_2, tally_latest_3⟩ := u
  have hP : va_P D vwCl ((W_X7 a aR aT aH aD aK aI aC aS aY lastTold) ++ (W_X5 ca aR rows_ns rows_nc rows_width rows_sizes rows_cells) ++ (W_X6 ca aY tally_often_2 tally_latest_3)) H := hP
  have hD : va_D _ ((W_X7 a aR aT aH aD aK aI aC aS aY lastTold) ++ (W_X5 ca aR rows_ns rows_nc rows_width rows_sizes rows_cells) ++ (W_X6 ca aY tally_often_2 tally_latest_3)) := hD
  try dsimp only at h
  refine lv_istore_n (lv' := [(3, .int r1), (0, .ref (a 0)), (1, .int r), (2, .int i)]) hx hb dX7_at_10 rfl hl (by decide) rfl (fun ls hl => ?_)
  refine lv_iload_n hx hb dX7_at_11 rfl (lv_at hl 0 rfl) ?_
  refine lv_if_eq (tgt := 17) hx hb dX7_at_12 (by decide) (fun hc => ?_) (fun hc => ?_)
  · have h := h.1 hc
    refine lv_aload_n hx hb dX7_at_17 rfl (lv_at hl 1 rfl) ?_
    refine lv_aload_n hx hb dX7_at_18 rfl (lv_at hl 1 rfl) ?_
    refine va_get (D := D) (ci := 6) (v := .ref (aR 0)) (C := RX7) (T := TX7) (N := 10) hx hb hts hi_X7_at_X7 hown hK.1 hP 0 rfl rfl 0 (by decide) (hts _ k_X7_at_1) (fun _ h9 => h9) rfl dX7_at_19 ?_
    refine lv_iload_n hx hb dX7_at_22 rfl (lv_at hl 2 rfl) ?_
    refine lv_iload_n hx hb dX7_at_23 rfl (lv_at hl 3 rfl) ?_
    refine rd_calli (va_runV (As := [.int r, .int i]) (rest := [.ref (a 0)]) ⟨hx, hb, hml, hown, hts⟩ (c_X5_cell l D ca aR rows_ns rows_nc rows_width rows_sizes rows_cells r i _ h) (cwV 2 hts gX7_at_X5_cell rfl rfl rfl (by decide +kernel) ⟨Nat.le_of_ble_eq_true rfl, Nat.le_of_ble_eq_true rfl⟩) (PcX.preV (q := (RX5, TX5, 3)) (ci := 4) (q0 := 1) hK hP rfl rfl (hP.subM [1, 2, 3] rfl)) rfl rfl hl.1 rfl (lv_room (Nat.le_of_ble_eq_true rfl)) dX7_at_24 ⟨Nat.le_of_ble_eq_true rfl, Nat.le_of_ble_eq_true rfl⟩) (fun r4 h => ?_)
    try dsimp only at h
    refine va_put (D := D) (ci := 6) (v := .int r4) (ty := .int) (C := RX7) (T := TX7) (N := 10) hx hb hts hi_X7_at_X7 tyX7 tyX7_ok nmX7 hown hK.1 hP hD hS 0 rfl rfl 9 (by decide) (hts _ k_X7_at_2) (fun _ h9 => h9) rfl (by decide +kernel) rfl rfl (Nat.le_of_ble_eq_true rfl) dX7_at_27 (fun H locs hP hD hS => ?_)
    have hP : va_P D vwCl ((W_X7 a aR aT aH aD aK aI aC aS aY r4) ++ (W_X5 ca aR rows_ns rows_nc rows_width rows_sizes rows_cells) ++ (W_X6 ca aY tally_often_2 tally_latest_3)) H := hP
    have hD : va_D _ ((W_X7 a aR aT aH aD aK aI aC aS aY r4) ++ (W_X5 ca aR rows_ns rows_nc rows_width rows_sizes rows_cells) ++ (W_X6 ca aY tally_often_2 tally_latest_3)) := hD
    refine lv_iconst (v := (1)) hx hb dX7_at_30 (by decide) ?_
    exact W.iret (v := (1 : Int32)) hx hb hr (fun t ht hW => ⟨⟨(1 : Int32), (r4, tally_often_2, tally_latest_3), rfl, h, by rw [ht]; exact hP⟩, hS.F ht⟩) hS.2.2 dX7_at_31
  · have h := h.2 hc
    refine lv_iload_n hx hb dX7_at_15 rfl (lv_at hl 0 rfl) ?_
    exact W.iret (v := r1) hx hb hr (fun t ht hW => ⟨⟨r1, (lastTold, tally_often_2, tally_latest_3), rfl, h, by rw [ht]; exact hP⟩, hS.F ht⟩) hS.2.2 dX7_at_16

-- IronedQuarrels.tear(I)I
def wp_X7_tear (rows_ns : Nat) (rows_sizes : Nat → Int32) (tally_often : Nat → Int32) (tally_latest : Int32) (r : Int32) (post : Int32 → (Nat → Int32) → (Nat → Int32) → (Int32) → Prop) : Prop :=
  wp_X7_refusalOfShelf rows_ns rows_sizes tally_often tally_latest r (fun r1 tally_often_2 tally_latest_3 => (r1 = 0 → (wp_X5_drop rows_ns rows_sizes r (fun rows_sizes_4 => post (1 : Int32) rows_sizes_4 tally_often_2 tally_latest_3))) ∧ (¬ r1 = 0 → (post r1 rows_sizes tally_often_2 tally_latest_3)))
def rm_X7_tear : Room := { frames := 2, cells := 0, slots := 0, locals := 43 }
theorem k_X7_tear_1 : Cond.fieldLink RX7 14 "IronedQuarrels" "rows" "LIronedQuarrels$Shelf;" ∈ wsX7_tear := List.mem_of_getElem? (i := 1) (by decide +kernel)
theorem hi_X7_tear_X5 : ∀ w ∈ wsX50, w ∈ wsX7_tear := fun w h => List.mem_cons_of_mem _ (List.mem_append_left _ (List.mem_append_right _ h))
theorem hi_X7_tear_X6 : ∀ w ∈ wsX60, w ∈ wsX7_tear := fun w h => List.mem_cons_of_mem _ (List.mem_append_right _ h)
theorem hi_X7_tear_X7 : ∀ w ∈ wsX70, w ∈ wsX7_tear := fun w h => List.mem_cons_of_mem _ (List.mem_append_left _ (List.mem_append_left _ (List.mem_append_right _ h)))
set_option maxHeartbeats 4000000 in
set_option maxRecDepth 100000 in
theorem c_X7_tear (l : Launch) (D : va_G) (ca : Nat → ClassId) (a : Nat → Nat) (aR : Nat → Nat) (aT : Nat → Nat) (aH : Nat → Nat) (aD : Nat → Nat) (aK : Nat) (aI : Nat → Nat) (aC : Nat → Nat) (aS : Nat → Nat) (aY : Nat → Nat) (lastTold : Int32) (rows_ns : Nat) (rows_nc : Nat) (rows_width : Int32) (rows_sizes : Nat → Int32) (rows_cells : Nat → Int32) (tally_often : Nat → Int32) (tally_latest : Int32) (r : Int32) (post : Int32 → (Nat → Int32) → (Nat → Int32) → (Int32) → Prop) (hd : va_D (fun _ => True) ((W_X7 a aR aT aH aD aK aI aC aS aY lastTold) ++ (W_X5 ca aR rows_ns rows_nc rows_width rows_sizes rows_cells) ++ (W_X6 ca aY tally_often tally_latest))) (h : wp_X7_tear rows_ns rows_sizes tally_often tally_latest r post) : Met l yX7_tear wsX7_tear rm_X7_tear (PcX D ca [.ref (a 0), .int r] ((W_X7 a aR aT aH aD aK aI aC aS aY lastTold) ++ (W_X5 ca aR rows_ns rows_nc rows_width rows_sizes rows_cells) ++ (W_X6 ca aY tally_often tally_latest))) (wrI (S := (Nat → Int32) × (Nat → Int32) × (Int32)) D ((W_X7 a aR aT aH aD aK aI aC aS aY lastTold) ++ (W_X5 ca aR rows_ns rows_nc rows_width rows_sizes rows_cells) ++ (W_X6 ca aY tally_often tally_latest)) (fun u => (W_X7 a aR aT aH aD aK aI aC aS aY lastTold) ++ (W_X5 ca aR rows_ns rows_nc rows_width u.1 rows_cells) ++ (W_X6 ca aY u.2.1 u.2.2)) (fun r u => post r u.1 u.2.1 u.2.2)) 0 0 (adr ((W_X7 a aR aT aH aD aK aI aC aS aY lastTold) ++ (W_X5 ca aR rows_ns rows_nc rows_width rows_sizes rows_cells) ++ (W_X6 ca aY tally_often tally_latest))) := by
  refine Met.ofW (cc := cX7_tear) (maxL := 3) (ret := (some .int)) (by decide) rfl ?_
  intro zp ze zs zm za zb zt zc z1 B hml hv
  obtain ⟨rfl, hP, hK⟩ := hv
  have hx := B.exec
  have hb := B.bytes
  have hr := B.returns
  have hts := atoms_spec (ws := wsX7_tear) B.pre
  have hown : zs.vm.findClass RX7 = some zm.cls := findClass_of_methodNamed B.named
  have hlocks := B.notSynchronized
  have hD : va_D (adr ((W_X7 a aR aT aH aD aK aI aC aS aY lastTold) ++ (W_X5 ca aR rows_ns rows_nc rows_width rows_sizes rows_cells) ++ (W_X6 ca aY tally_often tally_latest))) ((W_X7 a aR aT aH aD aK aI aC aS aY lastTold) ++ (W_X5 ca aR rows_ns rows_nc rows_width rows_sizes rows_cells) ++ (W_X6 ca aY tally_often tally_latest)) := hd.adr
  have hS : va_S (adr ((W_X7 a aR aT aH aD aK aI aC aS aY lastTold) ++ (W_X5 ca aR rows_ns rows_nc rows_width rows_sizes rows_cells) ++ (W_X6 ca aY tally_often tally_latest))) zs.heap zs.heap [] := va_S.rf
  have hl := lv_entry ([.ref (a 0), .int r]) (n := 3) (Nat.le_of_ble_eq_true rfl)
  rw [lg_entry_eq]
  generalize (lg_sl ([.ref (a 0), .int r]) ++ List.replicate (3 - (lg_sl ([.ref (a 0), .int r])).length) Slot.unset).toArray = ls at hl ⊢
  replace hl : lv_has ls 3 [(0, .ref (a 0)), (1, .int r)] := hl
  show W zp l ze rm_X7_tear zs zm ([.ref (a 0), .int r] : List Value).toArray zb zt zc zs.heap [] 0 0 (MQ zb (wrI (S := (Nat → Int32) × (Nat → Int32) × (Int32)) D ((W_X7 a aR aT aH aD aK aI aC aS aY lastTold) ++ (W_X5 ca aR rows_ns rows_nc rows_width rows_sizes rows_cells) ++ (W_X6 ca aY tally_often tally_latest)) (fun u => (W_X7 a aR aT aH aD aK aI aC aS aY lastTold) ++ (W_X5 ca aR rows_ns rows_nc rows_width u.1 rows_cells) ++ (W_X6 ca aY u.2.1 u.2.2)) (fun r u => post r u.1 u.2.1 u.2.2)) ([.ref (a 0), .int r] : List Value).toArray zs 0 0 (adr ((W_X7 a aR aT aH aD aK aI aC aS aY lastTold) ++ (W_X5 ca aR rows_ns rows_nc rows_width rows_sizes rows_cells) ++ (W_X6 ca aY tally_often tally_latest)))) (F0 zm 0 ls [])
  unfold wp_X7_tear at h
  refine lv_aload_n hx hb dX7_tear_0 rfl (lv_at hl 0 rfl) ?_
  refine lv_aload_n hx hb dX7_tear_1 rfl (lv_at hl 0 rfl) ?_
  refine va_get (D := D) (ci := 6) (v := .ref (aR 0)) (C := RX7) (T := TX7) (N := 10) hx hb hts hi_X7_tear_X7 hown hK.1 hP 0 rfl rfl 0 (by decide) (hts _ k_X7_tear_1) (fun _ h9 => h9) rfl dX7_tear_2 ?_
  refine lv_iload_n hx hb dX7_tear_5 rfl (lv_at hl 1 rfl) ?_
  refine wr_calli (ws1 := fun u => (W_X7 a aR aT aH aD aK aI aC aS aY lastTold) ++ (W_X5 ca aR rows_ns rows_nc rows_width rows_sizes rows_cells) ++ (W_X6 ca aY u.1 u.2)) (wr := ([] : List Nat).filterMap (fun i => ((W_X7 a aR aT aH aD aK aI aC aS aY lastTold) ++ (W_X5 ca aR rows_ns rows_nc rows_width rows_sizes rows_cells) ++ (W_X6 ca aY tally_often tally_latest) : va_W)[i]?)) (n := 6) (va_runV (As := [.ref (aR 0), .int r]) (rest := []) ⟨hx, hb, hml, hown, hts⟩ (c_X7_refusalOfShelf l D ca a aR aT aH aD aK aI aC aS aY aR lastTold rows_ns rows_nc rows_width rows_sizes rows_cells tally_often tally_latest r _ (hD.subM [0, 1, 2, 3, 4, 5] (by decide) rfl) h) (cwV 2 hts gX7_tear_X7_refusalOfShelf rfl rfl rfl (by decide +kernel) ⟨Nat.le_of_ble_eq_true rfl, Nat.le_of_ble_eq_true rfl⟩) (PcX.preV (q := (RX7, TX7, 10)) (ci := 6) (q0 := 0) hK hP rfl rfl hP) rfl rfl hl.1 rfl (lv_room (Nat.le_of_ble_eq_true rfl)) dX7_tear_6 ⟨Nat.le_of_ble_eq_true rfl, Nat.le_of_ble_eq_true rfl⟩) hP hD hS [0, 1, 2, 3, 4, 5] [] rfl (fun _ => rfl) rfl (fun _ => rfl) (fun _ => rfl) (fun _ => rfl) (by decide +kernel) (by decide +kernel) (fun r1 u H locs h hP hD hS => ?_)
  obtain ⟨tally_often_2, tally_latest_3⟩ := u
  have hP : va_P D vwCl ((W_X7 a aR aT aH aD aK aI aC aS aY lastTold) ++ (W_X5 ca aR rows_ns rows_nc rows_width rows_sizes rows_cells) ++ (W_X6 ca aY tally_often_2 tally_latest_3)) H := hP
  have hD : va_D _ ((W_X7 a aR aT aH aD aK aI aC aS aY lastTold) ++ (W_X5 ca aR rows_ns rows_nc rows_width rows_sizes rows_cells) ++ (W_X6 ca aY tally_often_2 tally_latest_3)) := hD
  try dsimp only at h
  refine lv_istore_n (lv' := [(2, .int r1), (0, .ref (a 0)), (1, .int r)]) hx hb dX7_tear_9 rfl hl (by decide) rfl (fun ls hl => ?_)
  refine lv_iload_n hx hb dX7_tear_10 rfl (lv_at hl 0 rfl) ?_
  refine lv_if_eq (tgt := 16) hx hb dX7_tear_11 (by decide) (fun hc => ?_) (fun hc => ?_)
  · have h := h.1 hc
    refine lv_aload_n hx hb dX7_tear_16 rfl (lv_at hl 1 rfl) ?_
    refine va_get (D := D) (ci := 6) (v := .ref (aR 0)) (C := RX7) (T := TX7) (N := 10) hx hb hts hi_X7_tear_X7 hown hK.1 hP 0 rfl rfl 0 (by decide) (hts _ k_X7_tear_1) (fun _ h9 => h9) rfl dX7_tear_17 ?_
    refine lv_iload_n hx hb dX7_tear_20 rfl (lv_at hl 2 rfl) ?_
    refine wr_callv (ws1 := fun u => (W_X7 a aR aT aH aD aK aI aC aS aY lastTold) ++ (W_X5 ca aR rows_ns rows_nc rows_width u rows_cells) ++ (W_X6 ca aY tally_often_2 tally_latest_3)) (wr := ([0, 4, 5] : List Nat).filterMap (fun i => ((W_X7 a aR aT aH aD aK aI aC aS aY lastTold) ++ (W_X5 ca aR rows_ns rows_nc rows_width rows_sizes rows_cells) ++ (W_X6 ca aY tally_often_2 tally_latest_3) : va_W)[i]?)) (n := 6) (va_runV (As := [.int r]) (rest := []) ⟨hx, hb, hml, hown, hts⟩ (c_X5_drop l D ca aR rows_ns rows_nc rows_width rows_sizes rows_cells r _ (hD.subM [1, 2, 3] (by decide) rfl) h) (cwV 1 hts gX7_tear_X5_drop rfl rfl rfl (by decide +kernel) ⟨Nat.le_of_ble_eq_true rfl, Nat.le_of_ble_eq_true rfl⟩) (PcX.preV (q := (RX5, TX5, 3)) (ci := 4) (q0 := 1) hK hP rfl rfl (hP.subM [1, 2, 3] rfl)) rfl rfl hl.1 rfl (lv_room (Nat.le_of_ble_eq_true rfl)) dX7_tear_21 ⟨Nat.le_of_ble_eq_true rfl, Nat.le_of_ble_eq_true rfl⟩) hP hD hS [1, 2, 3] [0, 4, 5] rfl (fun _ => rfl) rfl (fun _ => rfl) (fun _ => rfl) (fun _ => rfl) (by decide +kernel) (by decide +kernel) (fun u H locs h hP hD hS => ?_)
    obtain ⟨rows_sizes_4, rfl⟩ : ∃ z, z = u := ⟨u, rfl⟩
    have hP : va_P D vwCl ((W_X7 a aR aT aH aD aK aI aC aS aY lastTold) ++ (W_X5 ca aR rows_ns rows_nc rows_width rows_sizes_4 rows_cells) ++ (W_X6 ca aY tally_often_2 tally_latest_3)) H := hP
    have hD : va_D _ ((W_X7 a aR aT aH aD aK aI aC aS aY lastTold) ++ (W_X5 ca aR rows_ns rows_nc rows_width rows_sizes_4 rows_cells) ++ (W_X6 ca aY tally_often_2 tally_latest_3)) := hD
    try dsimp only at h
    refine lv_iconst (v := (1)) hx hb dX7_tear_24 (by decide) ?_
    exact W.iret (v := (1 : Int32)) hx hb hr (fun t ht hW => ⟨⟨(1 : Int32), (rows_sizes_4, tally_often_2, tally_latest_3), rfl, h, by rw [ht]; exact hP⟩, hS.F ht⟩) hS.2.2 dX7_tear_25
  · have h := h.2 hc
    refine lv_iload_n hx hb dX7_tear_14 rfl (lv_at hl 0 rfl) ?_
    exact W.iret (v := r1) hx hb hr (fun t ht hW => ⟨⟨r1, (rows_sizes, tally_often_2, tally_latest_3), rfl, h, by rw [ht]; exact hP⟩, hS.F ht⟩) hS.2.2 dX7_tear_15

-- IronedQuarrels.copy(IIIII)I
def wb_X7_copy_60 (post : Int32 → (Nat → Int32) → (Nat → Int32) → (Int32) → Prop) (rows_cells : Nat → Int32) (tally_often : Nat → Int32) (tally_latest : Int32) : Prop :=
  wp_X6_note tally_often (1 : Int32) (fun r4 tally_often_5 tally_latest_6 => post r4 rows_cells tally_often_5 tally_latest_6)
def wb_X7_copy_98 (post : Int32 → (Nat → Int32) → (Nat → Int32) → (Int32) → Prop) (rows_cells : Nat → Int32) (tally_often : Nat → Int32) (tally_latest : Int32) : Prop :=
  wp_X6_note tally_often (2 : Int32) (fun r9 tally_often_10 tally_latest_11 => post r9 rows_cells tally_often_10 tally_latest_11)
def wp_X7_copy (rows_ns : Nat) (rows_nc : Nat) (rows_width : Int32) (rows_sizes : Nat → Int32) (rows_cells : Nat → Int32) (tally_often : Nat → Int32) (tally_latest : Int32) (r : Int32) (i : Int32) (to : Int32) (j : Int32) (n : Int32) (post : Int32 → (Nat → Int32) → (Nat → Int32) → (Int32) → Prop) : Prop :=
  wp_X5_hasNumber rows_ns r (fun r1 => (r1 = 0 → (post (-1 : Int32) rows_cells tally_often tally_latest)) ∧ (¬ r1 = 0 → (wp_X5_hasNumber rows_ns to (fun r2 => (¬ r2 = 0 → ((0 ≤ n → (wp_X5_isThere rows_ns rows_sizes r (fun r3 => (r3 = 0 → (wb_X7_copy_60 post rows_cells tally_often tally_latest)) ∧ (¬ r3 = 0 → (wp_X5_isThere rows_ns rows_sizes to (fun r7 => (¬ r7 = 0 → (wp_X5_reaches rows_ns rows_sizes r i n (fun r8 => (r8 = 0 → (wb_X7_copy_98 post rows_cells tally_often tally_latest)) ∧ (¬ r8 = 0 → (wp_X5_reaches rows_ns rows_sizes to j n (fun r12 => (¬ r12 = 0 → (wp_X5_move rows_nc rows_width rows_cells r i to j n (fun rows_cells_13 => post (1 : Int32) rows_cells_13 tally_often tally_latest))) ∧ (r12 = 0 → (wb_X7_copy_98 post rows_cells tally_often tally_latest)))))))) ∧ (r7 = 0 → (wb_X7_copy_60 post rows_cells tally_often tally_latest)))))))) ∧ (¬ 0 ≤ n → (wp_X6_note tally_often (5 : Int32) (fun r14 tally_often_15 tally_latest_16 => post r14 rows_cells tally_often_15 tally_latest_16))))) ∧ (r2 = 0 → (post (-1 : Int32) rows_cells tally_often tally_latest))))))
def rm_X7_copy : Room := { frames := 2, cells := 0, slots := 0, locals := 65 }
theorem k_X7_copy_1 : Cond.fieldLink RX7 14 "IronedQuarrels" "rows" "LIronedQuarrels$Shelf;" ∈ wsX7_copy := List.mem_of_getElem? (i := 1) (by decide +kernel)
theorem k_X7_copy_2 : Cond.fieldLink RX7 59 "IronedQuarrels" "tally" "LIronedQuarrels$Tally;" ∈ wsX7_copy := List.mem_of_getElem? (i := 2) (by decide +kernel)
theorem hi_X7_copy_X5 : ∀ w ∈ wsX50, w ∈ wsX7_copy := fun w h => List.mem_cons_of_mem _ (List.mem_append_left _ (List.mem_append_right _ h))
theorem hi_X7_copy_X6 : ∀ w ∈ wsX60, w ∈ wsX7_copy := fun w h => List.mem_cons_of_mem _ (List.mem_append_right _ h)
theorem hi_X7_copy_X7 : ∀ w ∈ wsX70, w ∈ wsX7_copy := fun w h => List.mem_cons_of_mem _ (List.mem_append_left _ (List.mem_append_left _ (List.mem_append_right _ h)))
set_option maxHeartbeats 4000000 in
set_option maxRecDepth 100000 in
theorem c_X7_copy (l : Launch) (D : va_G) (ca : Nat → ClassId) (a : Nat → Nat) (aR : Nat → Nat) (aT : Nat → Nat) (aH : Nat → Nat) (aD : Nat → Nat) (aK : Nat) (aI : Nat → Nat) (aC : Nat → Nat) (aS : Nat → Nat) (aY : Nat → Nat) (lastTold : Int32) (rows_ns : Nat) (rows_nc : Nat) (rows_width : Int32) (rows_sizes : Nat → Int32) (rows_cells : Nat → Int32) (tally_often : Nat → Int32) (tally_latest : Int32) (r : Int32) (i : Int32) (to : Int32) (j : Int32) (n : Int32) (post : Int32 → (Nat → Int32) → (Nat → Int32) → (Int32) → Prop) (hd : va_D (fun _ => True) ((W_X7 a aR aT aH aD aK aI aC aS aY lastTold) ++ (W_X5 ca aR rows_ns rows_nc rows_width rows_sizes rows_cells) ++ (W_X6 ca aY tally_often tally_latest))) (h : wp_X7_copy rows_ns rows_nc rows_width rows_sizes rows_cells tally_often tally_latest r i to j n post) : Met l yX7_copy wsX7_copy rm_X7_copy (PcX D ca [.ref (a 0), .int r, .int i, .int to, .int j, .int n] ((W_X7 a aR aT aH aD aK aI aC aS aY lastTold) ++ (W_X5 ca aR rows_ns rows_nc rows_width rows_sizes rows_cells) ++ (W_X6 ca aY tally_often tally_latest))) (wrI (S := (Nat → Int32) × (Nat → Int32) × (Int32)) D ((W_X7 a aR aT aH aD aK aI aC aS aY lastTold) ++ (W_X5 ca aR rows_ns rows_nc rows_width rows_sizes rows_cells) ++ (W_X6 ca aY tally_often tally_latest)) (fun u => (W_X7 a aR aT aH aD aK aI aC aS aY lastTold) ++ (W_X5 ca aR rows_ns rows_nc rows_width rows_sizes u.1) ++ (W_X6 ca aY u.2.1 u.2.2)) (fun r u => post r u.1 u.2.1 u.2.2)) 0 0 (adr ((W_X7 a aR aT aH aD aK aI aC aS aY lastTold) ++ (W_X5 ca aR rows_ns rows_nc rows_width rows_sizes rows_cells) ++ (W_X6 ca aY tally_often tally_latest))) := by
  refine Met.ofW (cc := cX7_copy) (maxL := 6) (ret := (some .int)) (by decide) rfl ?_
  intro zp ze zs zm za zb zt zc z1 B hml hv
  obtain ⟨rfl, hP, hK⟩ := hv
  have hx := B.exec
  have hb := B.bytes
  have hr := B.returns
  have hts := atoms_spec (ws := wsX7_copy) B.pre
  have hown : zs.vm.findClass RX7 = some zm.cls := findClass_of_methodNamed B.named
  have hlocks := B.notSynchronized
  have hD : va_D (adr ((W_X7 a aR aT aH aD aK aI aC aS aY lastTold) ++ (W_X5 ca aR rows_ns rows_nc rows_width rows_sizes rows_cells) ++ (W_X6 ca aY tally_often tally_latest))) ((W_X7 a aR aT aH aD aK aI aC aS aY lastTold) ++ (W_X5 ca aR rows_ns rows_nc rows_width rows_sizes rows_cells) ++ (W_X6 ca aY tally_often tally_latest)) := hd.adr
  have hS : va_S (adr ((W_X7 a aR aT aH aD aK aI aC aS aY lastTold) ++ (W_X5 ca aR rows_ns rows_nc rows_width rows_sizes rows_cells) ++ (W_X6 ca aY tally_often tally_latest))) zs.heap zs.heap [] := va_S.rf
  have hl := lv_entry ([.ref (a 0), .int r, .int i, .int to, .int j, .int n]) (n := 6) (Nat.le_of_ble_eq_true rfl)
  rw [lg_entry_eq]
  generalize (lg_sl ([.ref (a 0), .int r, .int i, .int to, .int j, .int n]) ++ List.replicate (6 - (lg_sl ([.ref (a 0), .int r, .int i, .int to, .int j, .int n])).length) Slot.unset).toArray = ls at hl ⊢
  replace hl : lv_has ls 6 [(0, .ref (a 0)), (1, .int r), (2, .int i), (3, .int to), (4, .int j), (5, .int n)] := hl
  show W zp l ze rm_X7_copy zs zm ([.ref (a 0), .int r, .int i, .int to, .int j, .int n] : List Value).toArray zb zt zc zs.heap [] 0 0 (MQ zb (wrI (S := (Nat → Int32) × (Nat → Int32) × (Int32)) D ((W_X7 a aR aT aH aD aK aI aC aS aY lastTold) ++ (W_X5 ca aR rows_ns rows_nc rows_width rows_sizes rows_cells) ++ (W_X6 ca aY tally_often tally_latest)) (fun u => (W_X7 a aR aT aH aD aK aI aC aS aY lastTold) ++ (W_X5 ca aR rows_ns rows_nc rows_width rows_sizes u.1) ++ (W_X6 ca aY u.2.1 u.2.2)) (fun r u => post r u.1 u.2.1 u.2.2)) ([.ref (a 0), .int r, .int i, .int to, .int j, .int n] : List Value).toArray zs 0 0 (adr ((W_X7 a aR aT aH aD aK aI aC aS aY lastTold) ++ (W_X5 ca aR rows_ns rows_nc rows_width rows_sizes rows_cells) ++ (W_X6 ca aY tally_often tally_latest)))) (F0 zm 0 ls [])
  have w_60 : ∀ (rows_cells : Nat → Int32) (tally_often : Nat → Int32) (tally_latest : Int32), wb_X7_copy_60 post rows_cells tally_often tally_latest → ∀ (H : Heap) (locs : List Loc), va_P D vwCl ((W_X7 a aR aT aH aD aK aI aC aS aY lastTold) ++ (W_X5 ca aR rows_ns rows_nc rows_width rows_sizes rows_cells) ++ (W_X6 ca aY tally_often tally_latest)) H → va_D (adr ((W_X7 a aR aT aH aD aK aI aC aS aY lastTold) ++ (W_X5 ca aR rows_ns rows_nc rows_width rows_sizes rows_cells) ++ (W_X6 ca aY tally_often tally_latest))) ((W_X7 a aR aT aH aD aK aI aC aS aY lastTold) ++ (W_X5 ca aR rows_ns rows_nc rows_width rows_sizes rows_cells) ++ (W_X6 ca aY tally_often tally_latest)) → va_S (adr ((W_X7 a aR aT aH aD aK aI aC aS aY lastTold) ++ (W_X5 ca aR rows_ns rows_nc rows_width rows_sizes rows_cells) ++ (W_X6 ca aY tally_often tally_latest))) zs.heap H locs → ∀ ls : Array Slot, lv_has ls 6 [(0, .ref (a 0))] → W zp l ze rm_X7_copy zs zm ([.ref (a 0), .int r, .int i, .int to, .int j, .int n] : List Value).toArray zb zt zc H locs 0 0 (MQ zb (wrI (S := (Nat → Int32) × (Nat → Int32) × (Int32)) D ((W_X7 a aR aT aH aD aK aI aC aS aY lastTold) ++ (W_X5 ca aR rows_ns rows_nc rows_width rows_sizes rows_cells) ++ (W_X6 ca aY tally_often tally_latest)) (fun u => (W_X7 a aR aT aH aD aK aI aC aS aY lastTold) ++ (W_X5 ca aR rows_ns rows_nc rows_width rows_sizes u.1) ++ (W_X6 ca aY u.2.1 u.2.2)) (fun r u => post r u.1 u.2.1 u.2.2)) ([.ref (a 0), .int r, .int i, .int to, .int j, .int n] : List Value).toArray zs 0 0 (adr ((W_X7 a aR aT aH aD aK aI aC aS aY lastTold) ++ (W_X5 ca aR rows_ns rows_nc rows_width rows_sizes rows_cells) ++ (W_X6 ca aY tally_often tally_latest)))) (F0 zm 60 ls []) := by
    intro rows_cells tally_often tally_latest h H locs hP hD hS ls hl
    unfold wb_X7_copy_60 at h
    refine lv_aload_n hx hb dX7_copy_60 rfl (lv_at hl 0 rfl) ?_
    refine va_get (D := D) (ci := 6) (v := .ref (aY 0)) (C := RX7) (T := TX7) (N := 10) hx hb hts hi_X7_copy_X7 hown hK.1 hP 0 rfl rfl 8 (by decide) (hts _ k_X7_copy_2) (fun _ h9 => h9) rfl dX7_copy_61 ?_
    refine lv_iconst (v := (1)) hx hb dX7_copy_64 (by decide) ?_
    refine wr_calli (ws1 := fun u => (W_X7 a aR aT aH aD aK aI aC aS aY lastTold) ++ (W_X5 ca aR rows_ns rows_nc rows_width rows_sizes rows_cells) ++ (W_X6 ca aY u.1 u.2)) (wr := ([0, 1, 2, 3] : List Nat).filterMap (fun i => ((W_X7 a aR aT aH aD aK aI aC aS aY lastTold) ++ (W_X5 ca aR rows_ns rows_nc rows_width rows_sizes rows_cells) ++ (W_X6 ca aY tally_often tally_latest) : va_W)[i]?)) (n := 6) (va_runV (As := [.int (1 : Int32)]) (rest := []) ⟨hx, hb, hml, hown, hts⟩ (c_X6_note l D ca aY tally_often tally_latest (1 : Int32) _ (hD.subM [4, 5] (by decide) rfl) h) (cwV 1 hts gX7_copy_X6_note rfl rfl rfl (by decide +kernel) ⟨Nat.le_of_ble_eq_true rfl, Nat.le_of_ble_eq_true rfl⟩) (PcX.preV (q := (RX6, TX6, 2)) (ci := 5) (q0 := 4) hK hP rfl rfl (hP.subM [4, 5] rfl)) rfl rfl hl.1 rfl (lv_room (Nat.le_of_ble_eq_true rfl)) dX7_copy_65 ⟨Nat.le_of_ble_eq_true rfl, Nat.le_of_ble_eq_true rfl⟩) hP hD hS [4, 5] [0, 1, 2, 3] rfl (fun _ => rfl) rfl (fun _ => rfl) (fun _ => rfl) (fun _ => rfl) (by decide +kernel) (by decide +kernel) (fun r4 u H locs h hP hD hS => ?_)
    obtain ⟨tally_often_5, tally_latest_6⟩ := u
    have hP : va_P D vwCl ((W_X7 a aR aT aH aD aK aI aC aS aY lastTold) ++ (W_X5 ca aR rows_ns rows_nc rows_width rows_sizes rows_cells) ++ (W_X6 ca aY tally_often_5 tally_latest_6)) H := hP
    have hD : va_D _ ((W_X7 a aR aT aH aD aK aI aC aS aY lastTold) ++ (W_X5 ca aR rows_ns rows_nc rows_width rows_sizes rows_cells) ++ (W_X6 ca aY tally_often_5 tally_latest_6)) := hD
    try dsimp only at h
    exact W.iret (v := r4) hx hb hr (fun t ht hW => ⟨⟨r4, (rows_cells, tally_often_5, tally_latest_6), rfl, h, by rw [ht]; exact hP⟩, hS.F ht⟩) hS.2.2 dX7_copy_68
  have w_98 : ∀ (rows_cells : Nat → Int32) (tally_often : Nat → Int32) (tally_latest : Int32), wb_X7_copy_98 post rows_cells tally_often tally_latest → ∀ (H : Heap) (locs : List Loc), va_P D vwCl ((W_X7 a aR aT aH aD aK aI aC aS aY lastTold) ++ (W_X5 ca aR rows_ns rows_nc rows_width rows_sizes rows_cells) ++ (W_X6 ca aY tally_often tally_latest)) H → va_D (adr ((W_X7 a aR aT aH aD aK aI aC aS aY lastTold) ++ (W_X5 ca aR rows_ns rows_nc rows_width rows_sizes rows_cells) ++ (W_X6 ca aY tally_often tally_latest))) ((W_X7 a aR aT aH aD aK aI aC aS aY lastTold) ++ (W_X5 ca aR rows_ns rows_nc rows_width rows_sizes rows_cells) ++ (W_X6 ca aY tally_often tally_latest)) → va_S (adr ((W_X7 a aR aT aH aD aK aI aC aS aY lastTold) ++ (W_X5 ca aR rows_ns rows_nc rows_width rows_sizes rows_cells) ++ (W_X6 ca aY tally_often tally_latest))) zs.heap H locs → ∀ ls : Array Slot, lv_has ls 6 [(0, .ref (a 0))] → W zp l ze rm_X7_copy zs zm ([.ref (a 0), .int r, .int i, .int to, .int j, .int n] : List Value).toArray zb zt zc H locs 0 0 (MQ zb (wrI (S := (Nat → Int32) × (Nat → Int32) × (Int32)) D ((W_X7 a aR aT aH aD aK aI aC aS aY lastTold) ++ (W_X5 ca aR rows_ns rows_nc rows_width rows_sizes rows_cells) ++ (W_X6 ca aY tally_often tally_latest)) (fun u => (W_X7 a aR aT aH aD aK aI aC aS aY lastTold) ++ (W_X5 ca aR rows_ns rows_nc rows_width rows_sizes u.1) ++ (W_X6 ca aY u.2.1 u.2.2)) (fun r u => post r u.1 u.2.1 u.2.2)) ([.ref (a 0), .int r, .int i, .int to, .int j, .int n] : List Value).toArray zs 0 0 (adr ((W_X7 a aR aT aH aD aK aI aC aS aY lastTold) ++ (W_X5 ca aR rows_ns rows_nc rows_width rows_sizes rows_cells) ++ (W_X6 ca aY tally_often tally_latest)))) (F0 zm 98 ls []) := by
    intro rows_cells tally_often tally_latest h H locs hP hD hS ls hl
    unfold wb_X7_copy_98 at h
    refine lv_aload_n hx hb dX7_copy_98 rfl (lv_at hl 0 rfl) ?_
    refine va_get (D := D) (ci := 6) (v := .ref (aY 0)) (C := RX7) (T := TX7) (N := 10) hx hb hts hi_X7_copy_X7 hown hK.1 hP 0 rfl rfl 8 (by decide) (hts _ k_X7_copy_2) (fun _ h9 => h9) rfl dX7_copy_99 ?_
    refine lv_iconst (v := (2)) hx hb dX7_copy_102 (by decide) ?_
    refine wr_calli (ws1 := fun u => (W_X7 a aR aT aH aD aK aI aC aS aY lastTold) ++ (W_X5 ca aR rows_ns rows_nc rows_width rows_sizes rows_cells) ++ (W_X6 ca aY u.1 u.2)) (wr := ([0, 1, 2, 3] : List Nat).filterMap (fun i => ((W_X7 a aR aT aH aD aK aI aC aS aY lastTold) ++ (W_X5 ca aR rows_ns rows_nc rows_width rows_sizes rows_cells) ++ (W_X6 ca aY tally_often tally_latest) : va_W)[i]?)) (n := 6) (va_runV (As := [.int (2 : Int32)]) (rest := []) ⟨hx, hb, hml, hown, hts⟩ (c_X6_note l D ca aY tally_often tally_latest (2 : Int32) _ (hD.subM [4, 5] (by decide) rfl) h) (cwV 1 hts gX7_copy_X6_note rfl rfl rfl (by decide +kernel) ⟨Nat.le_of_ble_eq_true rfl, Nat.le_of_ble_eq_true rfl⟩) (PcX.preV (q := (RX6, TX6, 2)) (ci := 5) (q0 := 4) hK hP rfl rfl (hP.subM [4, 5] rfl)) rfl rfl hl.1 rfl (lv_room (Nat.le_of_ble_eq_true rfl)) dX7_copy_103 ⟨Nat.le_of_ble_eq_true rfl, Nat.le_of_ble_eq_true rfl⟩) hP hD hS [4, 5] [0, 1, 2, 3] rfl (fun _ => rfl) rfl (fun _ => rfl) (fun _ => rfl) (fun _ => rfl) (by decide +kernel) (by decide +kernel) (fun r9 u H locs h hP hD hS => ?_)
    obtain ⟨tally_often_10, tally_latest_11⟩ := u
    have hP : va_P D vwCl ((W_X7 a aR aT aH aD aK aI aC aS aY lastTold) ++ (W_X5 ca aR rows_ns rows_nc rows_width rows_sizes rows_cells) ++ (W_X6 ca aY tally_often_10 tally_latest_11)) H := hP
    have hD : va_D _ ((W_X7 a aR aT aH aD aK aI aC aS aY lastTold) ++ (W_X5 ca aR rows_ns rows_nc rows_width rows_sizes rows_cells) ++ (W_X6 ca aY tally_often_10 tally_latest_11)) := hD
    try dsimp only at h
    exact W.iret (v := r9) hx hb hr (fun t ht hW => ⟨⟨r9, (rows_cells, tally_often_10, tally_latest_11), rfl, h, by rw [ht]; exact hP⟩, hS.F ht⟩) hS.2.2 dX7_copy_106
  unfold wp_X7_copy at h
  refine lv_aload_n hx hb dX7_copy_0 rfl (lv_at hl 0 rfl) ?_
  refine va_get (D := D) (ci := 6) (v := .ref (aR 0)) (C := RX7) (T := TX7) (N := 10) hx hb hts hi_X7_copy_X7 hown hK.1 hP 0 rfl rfl 0 (by decide) (hts _ k_X7_copy_1) (fun _ h9 => h9) rfl dX7_copy_1 ?_
  refine lv_iload_n hx hb dX7_copy_4 rfl (lv_at hl 1 rfl) ?_
  refine rd_callz (va_runV (As := [.int r]) (rest := []) ⟨hx, hb, hml, hown, hts⟩ (c_X5_hasNumber l D ca aR rows_ns rows_nc rows_width rows_sizes rows_cells r _ h) (cwV 1 hts gX7_copy_X5_hasNumber rfl rfl rfl (by decide +kernel) ⟨Nat.le_of_ble_eq_true rfl, Nat.le_of_ble_eq_true rfl⟩) (PcX.preV (q := (RX5, TX5, 3)) (ci := 4) (q0 := 1) hK hP rfl rfl (hP.subM [1, 2, 3] rfl)) rfl rfl hl.1 rfl (lv_room (Nat.le_of_ble_eq_true rfl)) dX7_copy_5 ⟨Nat.le_of_ble_eq_true rfl, Nat.le_of_ble_eq_true rfl⟩) (fun r1 h hz_r1 => ?_)
  try dsimp only at h
  refine lv_if_eq (tgt := 22) hx hb dX7_copy_8 (by decide) (fun hc => ?_) (fun hc => ?_)
  · have h := h.1 hc
    refine lv_iconst (v := (-1)) hx hb dX7_copy_22 (by decide) ?_
    exact W.iret (v := (-1 : Int32)) hx hb hr (fun t ht hW => ⟨⟨(-1 : Int32), (rows_cells, tally_often, tally_latest), rfl, h, by rw [ht]; exact hP⟩, hS.F ht⟩) hS.2.2 dX7_copy_23
  · have h := h.2 hc
    refine lv_aload_n hx hb dX7_copy_11 rfl (lv_at hl 0 rfl) ?_
    refine va_get (D := D) (ci := 6) (v := .ref (aR 0)) (C := RX7) (T := TX7) (N := 10) hx hb hts hi_X7_copy_X7 hown hK.1 hP 0 rfl rfl 0 (by decide) (hts _ k_X7_copy_1) (fun _ h9 => h9) rfl dX7_copy_12 ?_
    refine lv_iload_n hx hb dX7_copy_15 rfl (lv_at hl 3 rfl) ?_
    refine rd_callz (va_runV (As := [.int to]) (rest := []) ⟨hx, hb, hml, hown, hts⟩ (c_X5_hasNumber l D ca aR rows_ns rows_nc rows_width rows_sizes rows_cells to _ h) (cwV 1 hts gX7_copy_X5_hasNumber rfl rfl rfl (by decide +kernel) ⟨Nat.le_of_ble_eq_true rfl, Nat.le_of_ble_eq_true rfl⟩) (PcX.preV (q := (RX5, TX5, 3)) (ci := 4) (q0 := 1) hK hP rfl rfl (hP.subM [1, 2, 3] rfl)) rfl rfl hl.1 rfl (lv_room (Nat.le_of_ble_eq_true rfl)) dX7_copy_16 ⟨Nat.le_of_ble_eq_true rfl, Nat.le_of_ble_eq_true rfl⟩) (fun r2 h hz_r2 => ?_)
    try dsimp only at h
    refine lv_if_ne (tgt := 24) hx hb dX7_copy_19 (by decide) (fun hc => ?_) (fun hc => ?_)
    · have h := h.1 hc
      refine lv_iload hx hb dX7_copy_24 (lv_at hl 5 rfl) ?_
      refine lv_if_ge (tgt := 38) hx hb dX7_copy_26 (by decide) (fun hc => ?_) (fun hc => ?_)
      · have h := h.1 hc
        refine lv_aload_n hx hb dX7_copy_38 rfl (lv_at hl 0 rfl) ?_
        refine va_get (D := D) (ci := 6) (v := .ref (aR 0)) (C := RX7) (T := TX7) (N := 10) hx hb hts hi_X7_copy_X7 hown hK.1 hP 0 rfl rfl 0 (by decide) (hts _ k_X7_copy_1) (fun _ h9 => h9) rfl dX7_copy_39 ?_
        refine lv_iload_n hx hb dX7_copy_42 rfl (lv_at hl 1 rfl) ?_
        refine rd_callz (va_runV (As := [.int r]) (rest := []) ⟨hx, hb, hml, hown, hts⟩ (c_X5_isThere l D ca aR rows_ns rows_nc rows_width rows_sizes rows_cells r _ h) (cwV 1 hts gX7_copy_X5_isThere rfl rfl rfl (by decide +kernel) ⟨Nat.le_of_ble_eq_true rfl, Nat.le_of_ble_eq_true rfl⟩) (PcX.preV (q := (RX5, TX5, 3)) (ci := 4) (q0 := 1) hK hP rfl rfl (hP.subM [1, 2, 3] rfl)) rfl rfl hl.1 rfl (lv_room (Nat.le_of_ble_eq_true rfl)) dX7_copy_43 ⟨Nat.le_of_ble_eq_true rfl, Nat.le_of_ble_eq_true rfl⟩) (fun r3 h hz_r3 => ?_)
        try dsimp only at h
        refine lv_if_eq (tgt := 60) hx hb dX7_copy_46 (by decide) (fun hc => ?_) (fun hc => ?_)
        · have h := h.1 hc
          exact w_60  rows_cells tally_often tally_latest h _ _ hP hD hS ls (lv_sub hl [0] rfl)
        · have h := h.2 hc
          refine lv_aload_n hx hb dX7_copy_49 rfl (lv_at hl 0 rfl) ?_
          refine va_get (D := D) (ci := 6) (v := .ref (aR 0)) (C := RX7) (T := TX7) (N := 10) hx hb hts hi_X7_copy_X7 hown hK.1 hP 0 rfl rfl 0 (by decide) (hts _ k_X7_copy_1) (fun _ h9 => h9) rfl dX7_copy_50 ?_
          refine lv_iload_n hx hb dX7_copy_53 rfl (lv_at hl 3 rfl) ?_
          refine rd_callz (va_runV (As := [.int to]) (rest := []) ⟨hx, hb, hml, hown, hts⟩ (c_X5_isThere l D ca aR rows_ns rows_nc rows_width rows_sizes rows_cells to _ h) (cwV 1 hts gX7_copy_X5_isThere rfl rfl rfl (by decide +kernel) ⟨Nat.le_of_ble_eq_true rfl, Nat.le_of_ble_eq_true rfl⟩) (PcX.preV (q := (RX5, TX5, 3)) (ci := 4) (q0 := 1) hK hP rfl rfl (hP.subM [1, 2, 3] rfl)) rfl rfl hl.1 rfl (lv_room (Nat.le_of_ble_eq_true rfl)) dX7_copy_54 ⟨Nat.le_of_ble_eq_true rfl, Nat.le_of_ble_eq_true rfl⟩) (fun r7 h hz_r7 => ?_)
          try dsimp only at h
          refine lv_if_ne (tgt := 69) hx hb dX7_copy_57 (by decide) (fun hc => ?_) (fun hc => ?_)
          · have h := h.1 hc
            refine lv_aload_n hx hb dX7_copy_69 rfl (lv_at hl 0 rfl) ?_
            refine va_get (D := D) (ci := 6) (v := .ref (aR 0)) (C := RX7) (T := TX7) (N := 10) hx hb hts hi_X7_copy_X7 hown hK.1 hP 0 rfl rfl 0 (by decide) (hts _ k_X7_copy_1) (fun _ h9 => h9) rfl dX7_copy_70 ?_
            refine lv_iload_n hx hb dX7_copy_73 rfl (lv_at hl 1 rfl) ?_
            refine lv_iload_n hx hb dX7_copy_74 rfl (lv_at hl 2 rfl) ?_
            refine lv_iload hx hb dX7_copy_75 (lv_at hl 5 rfl) ?_
            refine rd_callz (va_runV (As := [.int r, .int i, .int n]) (rest := []) ⟨hx, hb, hml, hown, hts⟩ (c_X5_reaches l D ca aR rows_ns rows_nc rows_width rows_sizes rows_cells r i n _ h) (cwV 3 hts gX7_copy_X5_reaches rfl rfl rfl (by decide +kernel) ⟨Nat.le_of_ble_eq_true rfl, Nat.le_of_ble_eq_true rfl⟩) (PcX.preV (q := (RX5, TX5, 3)) (ci := 4) (q0 := 1) hK hP rfl rfl (hP.subM [1, 2, 3] rfl)) rfl rfl hl.1 rfl (lv_room (Nat.le_of_ble_eq_true rfl)) dX7_copy_77 ⟨Nat.le_of_ble_eq_true rfl, Nat.le_of_ble_eq_true rfl⟩) (fun r8 h hz_r8 => ?_)
            try dsimp only at h
            refine lv_if_eq (tgt := 98) hx hb dX7_copy_80 (by decide) (fun hc => ?_) (fun hc => ?_)
            · have h := h.1 hc
              exact w_98  rows_cells tally_often tally_latest h _ _ hP hD hS ls (lv_sub hl [0] rfl)
            · have h := h.2 hc
              refine lv_aload_n hx hb dX7_copy_83 rfl (lv_at hl 0 rfl) ?_
              refine va_get (D := D) (ci := 6) (v := .ref (aR 0)) (C := RX7) (T := TX7) (N := 10) hx hb hts hi_X7_copy_X7 hown hK.1 hP 0 rfl rfl 0 (by decide) (hts _ k_X7_copy_1) (fun _ h9 => h9) rfl dX7_copy_84 ?_
              refine lv_iload_n hx hb dX7_copy_87 rfl (lv_at hl 3 rfl) ?_
              refine lv_iload hx hb dX7_copy_88 (lv_at hl 4 rfl) ?_
              refine lv_iload hx hb dX7_copy_90 (lv_at hl 5 rfl) ?_
              refine rd_callz (va_runV (As := [.int to, .int j, .int n]) (rest := []) ⟨hx, hb, hml, hown, hts⟩ (c_X5_reaches l D ca aR rows_ns rows_nc rows_width rows_sizes rows_cells to j n _ h) (cwV 3 hts gX7_copy_X5_reaches rfl rfl rfl (by decide +kernel) ⟨Nat.le_of_ble_eq_true rfl, Nat.le_of_ble_eq_true rfl⟩) (PcX.preV (q := (RX5, TX5, 3)) (ci := 4) (q0 := 1) hK hP rfl rfl (hP.subM [1, 2, 3] rfl)) rfl rfl hl.1 rfl (lv_room (Nat.le_of_ble_eq_true rfl)) dX7_copy_92 ⟨Nat.le_of_ble_eq_true rfl, Nat.le_of_ble_eq_true rfl⟩) (fun r12 h hz_r12 => ?_)
              try dsimp only at h
              refine lv_if_ne (tgt := 107) hx hb dX7_copy_95 (by decide) (fun hc => ?_) (fun hc => ?_)
              · have h := h.1 hc
                refine lv_aload_n hx hb dX7_copy_107 rfl (lv_at hl 0 rfl) ?_
                refine va_get (D := D) (ci := 6) (v := .ref (aR 0)) (C := RX7) (T := TX7) (N := 10) hx hb hts hi_X7_copy_X7 hown hK.1 hP 0 rfl rfl 0 (by decide) (hts _ k_X7_copy_1) (fun _ h9 => h9) rfl dX7_copy_108 ?_
                refine lv_iload_n hx hb dX7_copy_111 rfl (lv_at hl 1 rfl) ?_
                refine lv_iload_n hx hb dX7_copy_112 rfl (lv_at hl 2 rfl) ?_
                refine lv_iload_n hx hb dX7_copy_113 rfl (lv_at hl 3 rfl) ?_
                refine lv_iload hx hb dX7_copy_114 (lv_at hl 4 rfl) ?_
                refine lv_iload hx hb dX7_copy_116 (lv_at hl 5 rfl) ?_
                refine wr_callv (ws1 := fun u => (W_X7 a aR aT aH aD aK aI aC aS aY lastTold) ++ (W_X5 ca aR rows_ns rows_nc rows_width rows_sizes u) ++ (W_X6 ca aY tally_often tally_latest)) (wr := ([0, 4, 5] : List Nat).filterMap (fun i => ((W_X7 a aR aT aH aD aK aI aC aS aY lastTold) ++ (W_X5 ca aR rows_ns rows_nc rows_width rows_sizes rows_cells) ++ (W_X6 ca aY tally_often tally_latest) : va_W)[i]?)) (n := 6) (va_runV (As := [.int r, .int i, .int to, .int j, .int n]) (rest := []) ⟨hx, hb, hml, hown, hts⟩ (c_X5_move l D ca aR rows_ns rows_nc rows_width rows_sizes rows_cells r i to j n _ (hD.subM [1, 2, 3] (by decide) rfl) h) (cwV 5 hts gX7_copy_X5_move rfl rfl rfl (by decide +kernel) ⟨Nat.le_of_ble_eq_true rfl, Nat.le_of_ble_eq_true rfl⟩) (PcX.preV (q := (RX5, TX5, 3)) (ci := 4) (q0 := 1) hK hP rfl rfl (hP.subM [1, 2, 3] rfl)) rfl rfl hl.1 rfl (lv_room (Nat.le_of_ble_eq_true rfl)) dX7_copy_118 ⟨Nat.le_of_ble_eq_true rfl, Nat.le_of_ble_eq_true rfl⟩) hP hD hS [1, 2, 3] [0, 4, 5] rfl (fun _ => rfl) rfl (fun _ => rfl) (fun _ => rfl) (fun _ => rfl) (by decide +kernel) (by decide +kernel) (fun u H locs h hP hD hS => ?_)
                obtain ⟨rows_cells_13, rfl⟩ : ∃ z, z = u := ⟨u, rfl⟩
                have hP : va_P D vwCl ((W_X7 a aR aT aH aD aK aI aC aS aY lastTold) ++ (W_X5 ca aR rows_ns rows_nc rows_width rows_sizes rows_cells_13) ++ (W_X6 ca aY tally_often tally_latest)) H := hP
                have hD : va_D _ ((W_X7 a aR aT aH aD aK aI aC aS aY lastTold) ++ (W_X5 ca aR rows_ns rows_nc rows_width rows_sizes rows_cells_13) ++ (W_X6 ca aY tally_often tally_latest)) := hD
                try dsimp only at h
                refine lv_iconst (v := (1)) hx hb dX7_copy_121 (by decide) ?_
                exact W.iret (v := (1 : Int32)) hx hb hr (fun t ht hW => ⟨⟨(1 : Int32), (rows_cells_13, tally_often, tally_latest), rfl, h, by rw [ht]; exact hP⟩, hS.F ht⟩) hS.2.2 dX7_copy_122
              · have h := h.2 hc
                exact w_98  rows_cells tally_often tally_latest h _ _ hP hD hS ls (lv_sub hl [0] rfl)
          · have h := h.2 hc
            exact w_60  rows_cells tally_often tally_latest h _ _ hP hD hS ls (lv_sub hl [0] rfl)
      · have h := h.2 hc
        refine lv_aload_n hx hb dX7_copy_29 rfl (lv_at hl 0 rfl) ?_
        refine va_get (D := D) (ci := 6) (v := .ref (aY 0)) (C := RX7) (T := TX7) (N := 10) hx hb hts hi_X7_copy_X7 hown hK.1 hP 0 rfl rfl 8 (by decide) (hts _ k_X7_copy_2) (fun _ h9 => h9) rfl dX7_copy_30 ?_
        refine lv_iconst (v := (5)) hx hb dX7_copy_33 (by decide) ?_
        refine wr_calli (ws1 := fun u => (W_X7 a aR aT aH aD aK aI aC aS aY lastTold) ++ (W_X5 ca aR rows_ns rows_nc rows_width rows_sizes rows_cells) ++ (W_X6 ca aY u.1 u.2)) (wr := ([0, 1, 2, 3] : List Nat).filterMap (fun i => ((W_X7 a aR aT aH aD aK aI aC aS aY lastTold) ++ (W_X5 ca aR rows_ns rows_nc rows_width rows_sizes rows_cells) ++ (W_X6 ca aY tally_often tally_latest) : va_W)[i]?)) (n := 6) (va_runV (As := [.int (5 : Int32)]) (rest := []) ⟨hx, hb, hml, hown, hts⟩ (c_X6_note l D ca aY tally_often tally_latest (5 : Int32) _ (hD.subM [4, 5] (by decide) rfl) h) (cwV 1 hts gX7_copy_X6_note rfl rfl rfl (by decide +kernel) ⟨Nat.le_of_ble_eq_true rfl, Nat.le_of_ble_eq_true rfl⟩) (PcX.preV (q := (RX6, TX6, 2)) (ci := 5) (q0 := 4) hK hP rfl rfl (hP.subM [4, 5] rfl)) rfl rfl hl.1 rfl (lv_room (Nat.le_of_ble_eq_true rfl)) dX7_copy_34 ⟨Nat.le_of_ble_eq_true rfl, Nat.le_of_ble_eq_true rfl⟩) hP hD hS [4, 5] [0, 1, 2, 3] rfl (fun _ => rfl) rfl (fun _ => rfl) (fun _ => rfl) (fun _ => rfl) (by decide +kernel) (by decide +kernel) (fun r14 u H locs h hP hD hS => ?_)
        obtain ⟨tally_often_15, tally_latest_16⟩ := u
        have hP : va_P D vwCl ((W_X7 a aR aT aH aD aK aI aC aS aY lastTold) ++ (W_X5 ca aR rows_ns rows_nc rows_width rows_sizes rows_cells) ++ (W_X6 ca aY tally_often_15 tally_latest_16)) H := hP
        have hD : va_D _ ((W_X7 a aR aT aH aD aK aI aC aS aY lastTold) ++ (W_X5 ca aR rows_ns rows_nc rows_width rows_sizes rows_cells) ++ (W_X6 ca aY tally_often_15 tally_latest_16)) := hD
        try dsimp only at h
        exact W.iret (v := r14) hx hb hr (fun t ht hW => ⟨⟨r14, (rows_cells, tally_often_15, tally_latest_16), rfl, h, by rw [ht]; exact hP⟩, hS.F ht⟩) hS.2.2 dX7_copy_37
    · have h := h.2 hc
      refine lv_iconst (v := (-1)) hx hb dX7_copy_22 (by decide) ?_
      exact W.iret (v := (-1 : Int32)) hx hb hr (fun t ht hW => ⟨⟨(-1 : Int32), (rows_cells, tally_often, tally_latest), rfl, h, by rw [ht]; exact hP⟩, hS.F ht⟩) hS.2.2 dX7_copy_23

-- IronedQuarrels.mean(I)I
def wp_X7_mean (lastTold : Int32) (rows_ns : Nat) (rows_nc : Nat) (rows_width : Int32) (rows_sizes : Nat → Int32) (rows_cells : Nat → Int32) (tally_often : Nat → Int32) (tally_latest : Int32) (r : Int32) (post : Int32 → (Int32) → (Nat → Int32) → (Int32) → Prop) : Prop :=
  wp_X7_refusalOfShelf rows_ns rows_sizes tally_often tally_latest r (fun r1 tally_often_2 tally_latest_3 => (r1 = 0 → (wp_X5_sizeOf rows_ns rows_sizes r (fun r4 => (0 < r4 → (wp_X5_sumOf rows_ns rows_nc rows_width rows_sizes rows_cells r (fun r5 => ¬ r4.toInt64 = 0 ∧ post (1 : Int32) ((r5 / r4.toInt64).toInt32) tally_often_2 tally_latest_3))) ∧ (¬ 0 < r4 → (wp_X6_note tally_often_2 (4 : Int32) (fun r6 tally_often_7 tally_latest_8 => post r6 lastTold tally_often_7 tally_latest_8)))))) ∧ (¬ r1 = 0 → (post r1 lastTold tally_often_2 tally_latest_3)))
def rm_X7_mean : Room := { frames := 2, cells := 0, slots := 0, locals := 46 }
theorem k_X7_mean_1 : Cond.fieldLink RX7 14 "IronedQuarrels" "rows" "LIronedQuarrels$Shelf;" ∈ wsX7_mean := List.mem_of_getElem? (i := 1) (by decide +kernel)
theorem k_X7_mean_2 : Cond.fieldLink RX7 59 "IronedQuarrels" "tally" "LIronedQuarrels$Tally;" ∈ wsX7_mean := List.mem_of_getElem? (i := 2) (by decide +kernel)
theorem k_X7_mean_3 : Cond.fieldLink RX7 63 "IronedQuarrels" "lastTold" "I" ∈ wsX7_mean := List.mem_of_getElem? (i := 3) (by decide +kernel)
theorem hi_X7_mean_X5 : ∀ w ∈ wsX50, w ∈ wsX7_mean := fun w h => List.mem_cons_of_mem _ (List.mem_append_left _ (List.mem_append_right _ h))
theorem hi_X7_mean_X6 : ∀ w ∈ wsX60, w ∈ wsX7_mean := fun w h => List.mem_cons_of_mem _ (List.mem_append_right _ h)
theorem hi_X7_mean_X7 : ∀ w ∈ wsX70, w ∈ wsX7_mean := fun w h => List.mem_cons_of_mem _ (List.mem_append_left _ (List.mem_append_left _ (List.mem_append_right _ h)))
set_option maxHeartbeats 4000000 in
set_option maxRecDepth 100000 in
theorem c_X7_mean (l : Launch) (D : va_G) (ca : Nat → ClassId) (a : Nat → Nat) (aR : Nat → Nat) (aT : Nat → Nat) (aH : Nat → Nat) (aD : Nat → Nat) (aK : Nat) (aI : Nat → Nat) (aC : Nat → Nat) (aS : Nat → Nat) (aY : Nat → Nat) (lastTold : Int32) (rows_ns : Nat) (rows_nc : Nat) (rows_width : Int32) (rows_sizes : Nat → Int32) (rows_cells : Nat → Int32) (tally_often : Nat → Int32) (tally_latest : Int32) (r : Int32) (post : Int32 → (Int32) → (Nat → Int32) → (Int32) → Prop) (hd : va_D (fun _ => True) ((W_X7 a aR aT aH aD aK aI aC aS aY lastTold) ++ (W_X5 ca aR rows_ns rows_nc rows_width rows_sizes rows_cells) ++ (W_X6 ca aY tally_often tally_latest))) (h : wp_X7_mean lastTold rows_ns rows_nc rows_width rows_sizes rows_cells tally_often tally_latest r post) : Met l yX7_mean wsX7_mean rm_X7_mean (PcX D ca [.ref (a 0), .int r] ((W_X7 a aR aT aH aD aK aI aC aS aY lastTold) ++ (W_X5 ca aR rows_ns rows_nc rows_width rows_sizes rows_cells) ++ (W_X6 ca aY tally_often tally_latest))) (wrI (S := (Int32) × (Nat → Int32) × (Int32)) D ((W_X7 a aR aT aH aD aK aI aC aS aY lastTold) ++ (W_X5 ca aR rows_ns rows_nc rows_width rows_sizes rows_cells) ++ (W_X6 ca aY tally_often tally_latest)) (fun u => (W_X7 a aR aT aH aD aK aI aC aS aY u.1) ++ (W_X5 ca aR rows_ns rows_nc rows_width rows_sizes rows_cells) ++ (W_X6 ca aY u.2.1 u.2.2)) (fun r u => post r u.1 u.2.1 u.2.2)) 0 0 (adr ((W_X7 a aR aT aH aD aK aI aC aS aY lastTold) ++ (W_X5 ca aR rows_ns rows_nc rows_width rows_sizes rows_cells) ++ (W_X6 ca aY tally_often tally_latest))) := by
  refine Met.ofW (cc := cX7_mean) (maxL := 4) (ret := (some .int)) (by decide) rfl ?_
  intro zp ze zs zm za zb zt zc z1 B hml hv
  obtain ⟨rfl, hP, hK⟩ := hv
  have hx := B.exec
  have hb := B.bytes
  have hr := B.returns
  have hts := atoms_spec (ws := wsX7_mean) B.pre
  have hown : zs.vm.findClass RX7 = some zm.cls := findClass_of_methodNamed B.named
  have hlocks := B.notSynchronized
  have hD : va_D (adr ((W_X7 a aR aT aH aD aK aI aC aS aY lastTold) ++ (W_X5 ca aR rows_ns rows_nc rows_width rows_sizes rows_cells) ++ (W_X6 ca aY tally_often tally_latest))) ((W_X7 a aR aT aH aD aK aI aC aS aY lastTold) ++ (W_X5 ca aR rows_ns rows_nc rows_width rows_sizes rows_cells) ++ (W_X6 ca aY tally_often tally_latest)) := hd.adr
  have hS : va_S (adr ((W_X7 a aR aT aH aD aK aI aC aS aY lastTold) ++ (W_X5 ca aR rows_ns rows_nc rows_width rows_sizes rows_cells) ++ (W_X6 ca aY tally_often tally_latest))) zs.heap zs.heap [] := va_S.rf
  have hl := lv_entry ([.ref (a 0), .int r]) (n := 4) (Nat.le_of_ble_eq_true rfl)
  rw [lg_entry_eq]
  generalize (lg_sl ([.ref (a 0), .int r]) ++ List.replicate (4 - (lg_sl ([.ref (a 0), .int r])).length) Slot.unset).toArray = ls at hl ⊢
  replace hl : lv_has ls 4 [(0, .ref (a 0)), (1, .int r)] := hl
  show W zp l ze rm_X7_mean zs zm ([.ref (a 0), .int r] : List Value).toArray zb zt zc zs.heap [] 0 0 (MQ zb (wrI (S := (Int32) × (Nat → Int32) × (Int32)) D ((W_X7 a aR aT aH aD aK aI aC aS aY lastTold) ++ (W_X5 ca aR rows_ns rows_nc rows_width rows_sizes rows_cells) ++ (W_X6 ca aY tally_often tally_latest)) (fun u => (W_X7 a aR aT aH aD aK aI aC aS aY u.1) ++ (W_X5 ca aR rows_ns rows_nc rows_width rows_sizes rows_cells) ++ (W_X6 ca aY u.2.1 u.2.2)) (fun r u => post r u.1 u.2.1 u.2.2)) ([.ref (a 0), .int r] : List Value).toArray zs 0 0 (adr ((W_X7 a aR aT aH aD aK aI aC aS aY lastTold) ++ (W_X5 ca aR rows_ns rows_nc rows_width rows_sizes rows_cells) ++ (W_X6 ca aY tally_often tally_latest)))) (F0 zm 0 ls [])
  unfold wp_X7_mean at h
  refine lv_aload_n hx hb dX7_mean_0 rfl (lv_at hl 0 rfl) ?_
  refine lv_aload_n hx hb dX7_mean_1 rfl (lv_at hl 0 rfl) ?_
  refine va_get (D := D) (ci := 6) (v := .ref (aR 0)) (C := RX7) (T := TX7) (N := 10) hx hb hts hi_X7_mean_X7 hown hK.1 hP 0 rfl rfl 0 (by decide) (hts _ k_X7_mean_1) (fun _ h9 => h9) rfl dX7_mean_2 ?_
  refine lv_iload_n hx hb dX7_mean_5 rfl (lv_at hl 1 rfl) ?_
  refine wr_calli (ws1 := fun u => (W_X7 a aR aT aH aD aK aI aC aS aY lastTold) ++ (W_X5 ca aR rows_ns rows_nc rows_width rows_sizes rows_cells) ++ (W_X6 ca aY u.1 u.2)) (wr := ([] : List Nat).filterMap (fun i => ((W_X7 a aR aT aH aD aK aI aC aS aY lastTold) ++ (W_X5 ca aR rows_ns rows_nc rows_width rows_sizes rows_cells) ++ (W_X6 ca aY tally_often tally_latest) : va_W)[i]?)) (n := 6) (va_runV (As := [.ref (aR 0), .int r]) (rest := []) ⟨hx, hb, hml, hown, hts⟩ (c_X7_refusalOfShelf l D ca a aR aT aH aD aK aI aC aS aY aR lastTold rows_ns rows_nc rows_width rows_sizes rows_cells tally_often tally_latest r _ (hD.subM [0, 1, 2, 3, 4, 5] (by decide) rfl) h) (cwV 2 hts gX7_mean_X7_refusalOfShelf rfl rfl rfl (by decide +kernel) ⟨Nat.le_of_ble_eq_true rfl, Nat.le_of_ble_eq_true rfl⟩) (PcX.preV (q := (RX7, TX7, 10)) (ci := 6) (q0 := 0) hK hP rfl rfl hP) rfl rfl hl.1 rfl (lv_room (Nat.le_of_ble_eq_true rfl)) dX7_mean_6 ⟨Nat.le_of_ble_eq_true rfl, Nat.le_of_ble_eq_true rfl⟩) hP hD hS [0, 1, 2, 3, 4, 5] [] rfl (fun _ => rfl) rfl (fun _ => rfl) (fun _ => rfl) (fun _ => rfl) (by decide +kernel) (by decide +kernel) (fun r1 u H locs h hP hD hS => ?_)
  obtain ⟨tally_often_2, tally_latest_3⟩ := u
  have hP : va_P D vwCl ((W_X7 a aR aT aH aD aK aI aC aS aY lastTold) ++ (W_X5 ca aR rows_ns rows_nc rows_width rows_sizes rows_cells) ++ (W_X6 ca aY tally_often_2 tally_latest_3)) H := hP
  have hD : va_D _ ((W_X7 a aR aT aH aD aK aI aC aS aY lastTold) ++ (W_X5 ca aR rows_ns rows_nc rows_width rows_sizes rows_cells) ++ (W_X6 ca aY tally_often_2 tally_latest_3)) := hD
  try dsimp only at h
  refine lv_istore_n (lv' := [(2, .int r1), (0, .ref (a 0)), (1, .int r)]) hx hb dX7_mean_9 rfl hl (by decide) rfl (fun ls hl => ?_)
  refine lv_iload_n hx hb dX7_mean_10 rfl (lv_at hl 0 rfl) ?_
  refine lv_if_eq (tgt := 16) hx hb dX7_mean_11 (by decide) (fun hc => ?_) (fun hc => ?_)
  · have h := h.1 hc
    refine lv_aload_n hx hb dX7_mean_16 rfl (lv_at hl 1 rfl) ?_
    refine va_get (D := D) (ci := 6) (v := .ref (aR 0)) (C := RX7) (T := TX7) (N := 10) hx hb hts hi_X7_mean_X7 hown hK.1 hP 0 rfl rfl 0 (by decide) (hts _ k_X7_mean_1) (fun _ h9 => h9) rfl dX7_mean_17 ?_
    refine lv_iload_n hx hb dX7_mean_20 rfl (lv_at hl 2 rfl) ?_
    refine rd_calli (va_runV (As := [.int r]) (rest := []) ⟨hx, hb, hml, hown, hts⟩ (c_X5_sizeOf l D ca aR rows_ns rows_nc rows_width rows_sizes rows_cells r _ h) (cwV 1 hts gX7_mean_X5_sizeOf rfl rfl rfl (by decide +kernel) ⟨Nat.le_of_ble_eq_true rfl, Nat.le_of_ble_eq_true rfl⟩) (PcX.preV (q := (RX5, TX5, 3)) (ci := 4) (q0 := 1) hK hP rfl rfl (hP.subM [1, 2, 3] rfl)) rfl rfl hl.1 rfl (lv_room (Nat.le_of_ble_eq_true rfl)) dX7_mean_21 ⟨Nat.le_of_ble_eq_true rfl, Nat.le_of_ble_eq_true rfl⟩) (fun r4 h => ?_)
    try dsimp only at h
    refine lv_istore_n (lv' := [(3, .int r4), (2, .int r1), (0, .ref (a 0)), (1, .int r)]) hx hb dX7_mean_24 rfl hl (by decide) rfl (fun ls hl => ?_)
    refine lv_iload_n hx hb dX7_mean_25 rfl (lv_at hl 0 rfl) ?_
    refine lv_if_gt (tgt := 38) hx hb dX7_mean_26 (by decide) (fun hc => ?_) (fun hc => ?_)
    · have h := h.1 hc
      refine lv_aload_n hx hb dX7_mean_38 rfl (lv_at hl 2 rfl) ?_
      refine lv_aload_n hx hb dX7_mean_39 rfl (lv_at hl 2 rfl) ?_
      refine va_get (D := D) (ci := 6) (v := .ref (aR 0)) (C := RX7) (T := TX7) (N := 10) hx hb hts hi_X7_mean_X7 hown hK.1 hP 0 rfl rfl 0 (by decide) (hts _ k_X7_mean_1) (fun _ h9 => h9) rfl dX7_mean_40 ?_
      refine lv_iload_n hx hb dX7_mean_43 rfl (lv_at hl 3 rfl) ?_
      refine rd_calll (va_runV (As := [.int r]) (rest := [.ref (a 0)]) ⟨hx, hb, hml, hown, hts⟩ (c_X5_sumOf l D ca aR rows_ns rows_nc rows_width rows_sizes rows_cells r _ h) (cwV 1 hts gX7_mean_X5_sumOf rfl rfl rfl (by decide +kernel) ⟨Nat.le_of_ble_eq_true rfl, Nat.le_of_ble_eq_true rfl⟩) (PcX.preV (q := (RX5, TX5, 3)) (ci := 4) (q0 := 1) hK hP rfl rfl (hP.subM [1, 2, 3] rfl)) rfl rfl hl.1 rfl (lv_room (Nat.le_of_ble_eq_true rfl)) dX7_mean_44 ⟨Nat.le_of_ble_eq_true rfl, Nat.le_of_ble_eq_true rfl⟩) (fun r5 h => ?_)
      try dsimp only at h
      refine lv_iload_n hx hb dX7_mean_47 rfl (lv_at hl 0 rfl) ?_
      refine lv_i2l hx hb dX7_mean_48 rfl ?_
      obtain ⟨h0, h⟩ := h
      refine lv_ldiv hx hb dX7_mean_49 h0 ?_
      refine lv_l2i hx hb dX7_mean_50 rfl ?_
      refine va_put (D := D) (ci := 6) (v := .int ((r5 / r4.toInt64).toInt32)) (ty := .int) (C := RX7) (T := TX7) (N := 10) hx hb hts hi_X7_mean_X7 tyX7 tyX7_ok nmX7 hown hK.1 hP hD hS 0 rfl rfl 9 (by decide) (hts _ k_X7_mean_3) (fun _ h9 => h9) rfl (by decide +kernel) rfl rfl (Nat.le_of_ble_eq_true rfl) dX7_mean_51 (fun H locs hP hD hS => ?_)
      have hP : va_P D vwCl ((W_X7 a aR aT aH aD aK aI aC aS aY ((r5 / r4.toInt64).toInt32)) ++ (W_X5 ca aR rows_ns rows_nc rows_width rows_sizes rows_cells) ++ (W_X6 ca aY tally_often_2 tally_latest_3)) H := hP
      have hD : va_D _ ((W_X7 a aR aT aH aD aK aI aC aS aY ((r5 / r4.toInt64).toInt32)) ++ (W_X5 ca aR rows_ns rows_nc rows_width rows_sizes rows_cells) ++ (W_X6 ca aY tally_often_2 tally_latest_3)) := hD
      refine lv_iconst (v := (1)) hx hb dX7_mean_54 (by decide) ?_
      exact W.iret (v := (1 : Int32)) hx hb hr (fun t ht hW => ⟨⟨(1 : Int32), ((r5 / r4.toInt64).toInt32, tally_often_2, tally_latest_3), rfl, h, by rw [ht]; exact hP⟩, hS.F ht⟩) hS.2.2 dX7_mean_55
    · have h := h.2 hc
      refine lv_aload_n hx hb dX7_mean_29 rfl (lv_at hl 2 rfl) ?_
      refine va_get (D := D) (ci := 6) (v := .ref (aY 0)) (C := RX7) (T := TX7) (N := 10) hx hb hts hi_X7_mean_X7 hown hK.1 hP 0 rfl rfl 8 (by decide) (hts _ k_X7_mean_2) (fun _ h9 => h9) rfl dX7_mean_30 ?_
      refine lv_iconst (v := (4)) hx hb dX7_mean_33 (by decide) ?_
      refine wr_calli (ws1 := fun u => (W_X7 a aR aT aH aD aK aI aC aS aY lastTold) ++ (W_X5 ca aR rows_ns rows_nc rows_width rows_sizes rows_cells) ++ (W_X6 ca aY u.1 u.2)) (wr := ([0, 1, 2, 3] : List Nat).filterMap (fun i => ((W_X7 a aR aT aH aD aK aI aC aS aY lastTold) ++ (W_X5 ca aR rows_ns rows_nc rows_width rows_sizes rows_cells) ++ (W_X6 ca aY tally_often_2 tally_latest_3) : va_W)[i]?)) (n := 6) (va_runV (As := [.int (4 : Int32)]) (rest := []) ⟨hx, hb, hml, hown, hts⟩ (c_X6_note l D ca aY tally_often_2 tally_latest_3 (4 : Int32) _ (hD.subM [4, 5] (by decide) rfl) h) (cwV 1 hts gX7_mean_X6_note rfl rfl rfl (by decide +kernel) ⟨Nat.le_of_ble_eq_true rfl, Nat.le_of_ble_eq_true rfl⟩) (PcX.preV (q := (RX6, TX6, 2)) (ci := 5) (q0 := 4) hK hP rfl rfl (hP.subM [4, 5] rfl)) rfl rfl hl.1 rfl (lv_room (Nat.le_of_ble_eq_true rfl)) dX7_mean_34 ⟨Nat.le_of_ble_eq_true rfl, Nat.le_of_ble_eq_true rfl⟩) hP hD hS [4, 5] [0, 1, 2, 3] rfl (fun _ => rfl) rfl (fun _ => rfl) (fun _ => rfl) (fun _ => rfl) (by decide +kernel) (by decide +kernel) (fun r6 u H locs h hP hD hS => ?_)
      obtain ⟨tally_often_7, tally_latest_8⟩ := u
      have hP : va_P D vwCl ((W_X7 a aR aT aH aD aK aI aC aS aY lastTold) ++ (W_X5 ca aR rows_ns rows_nc rows_width rows_sizes rows_cells) ++ (W_X6 ca aY tally_often_7 tally_latest_8)) H := hP
      have hD : va_D _ ((W_X7 a aR aT aH aD aK aI aC aS aY lastTold) ++ (W_X5 ca aR rows_ns rows_nc rows_width rows_sizes rows_cells) ++ (W_X6 ca aY tally_often_7 tally_latest_8)) := hD
      try dsimp only at h
      exact W.iret (v := r6) hx hb hr (fun t ht hW => ⟨⟨r6, (lastTold, tally_often_7, tally_latest_8), rfl, h, by rw [ht]; exact hP⟩, hS.F ht⟩) hS.2.2 dX7_mean_37
  · have h := h.2 hc
    refine lv_iload_n hx hb dX7_mean_14 rfl (lv_at hl 0 rfl) ?_
    exact W.iret (v := r1) hx hb hr (fun t ht hW => ⟨⟨r1, (lastTold, tally_often_2, tally_latest_3), rfl, h, by rw [ht]; exact hP⟩, hS.F ht⟩) hS.2.2 dX7_mean_15

-- IronedQuarrels.text(II)I
def wp_X7_text (texts_ns : Nat) (texts_nc : Nat) (texts_width : Int32) (texts_sizes : Nat → Int32) (texts_cells : Nat → Int32) (tally_often : Nat → Int32) (tally_latest : Int32) (t : Int32) (n : Int32) (post : Int32 → (Nat → Int32) → (Nat → Int32) → (Nat → Int32) → (Int32) → Prop) : Prop :=
  wp_X5_hasNumber texts_ns t (fun r1 => (r1 = 0 → (post (-1 : Int32) texts_sizes texts_cells tally_often tally_latest)) ∧ (¬ r1 = 0 → ((n ≤ (80 : Int32) → ((0 ≤ n → (wp_X5_makeAnew texts_ns texts_nc texts_width texts_sizes texts_cells t n (32 : Int32) (fun texts_sizes_2 texts_cells_3 => post n texts_sizes_2 texts_cells_3 tally_often tally_latest))) ∧ (¬ 0 ≤ n → (wp_X6_note tally_often (5 : Int32) (fun r4 tally_often_5 tally_latest_6 => post r4 texts_sizes texts_cells tally_often_5 tally_latest_6))))) ∧ (¬ n ≤ (80 : Int32) → (post (-1 : Int32) texts_sizes texts_cells tally_often tally_latest)))))
def rm_X7_text : Room := { frames := 3, cells := 0, slots := 0, locals := 69 }
theorem k_X7_text_1 : Cond.fieldLink RX7 18 "IronedQuarrels" "texts" "LIronedQuarrels$Shelf;" ∈ wsX7_text := List.mem_of_getElem? (i := 1) (by decide +kernel)
theorem k_X7_text_2 : Cond.fieldLink RX7 59 "IronedQuarrels" "tally" "LIronedQuarrels$Tally;" ∈ wsX7_text := List.mem_of_getElem? (i := 2) (by decide +kernel)
theorem hi_X7_text_X5 : ∀ w ∈ wsX50, w ∈ wsX7_text := fun w h => List.mem_cons_of_mem _ (List.mem_append_left _ (List.mem_append_right _ h))
theorem hi_X7_text_X6 : ∀ w ∈ wsX60, w ∈ wsX7_text := fun w h => List.mem_cons_of_mem _ (List.mem_append_right _ h)
theorem hi_X7_text_X7 : ∀ w ∈ wsX70, w ∈ wsX7_text := fun w h => List.mem_cons_of_mem _ (List.mem_append_left _ (List.mem_append_left _ (List.mem_append_right _ h)))
set_option maxHeartbeats 4000000 in
set_option maxRecDepth 100000 in
theorem c_X7_text (l : Launch) (D : va_G) (ca : Nat → ClassId) (a : Nat → Nat) (aR : Nat → Nat) (aT : Nat → Nat) (aH : Nat → Nat) (aD : Nat → Nat) (aK : Nat) (aI : Nat → Nat) (aC : Nat → Nat) (aS : Nat → Nat) (aY : Nat → Nat) (lastTold : Int32) (texts_ns : Nat) (texts_nc : Nat) (texts_width : Int32) (texts_sizes : Nat → Int32) (texts_cells : Nat → Int32) (tally_often : Nat → Int32) (tally_latest : Int32) (t : Int32) (n : Int32) (post : Int32 → (Nat → Int32) → (Nat → Int32) → (Nat → Int32) → (Int32) → Prop) (hd : va_D (fun _ => True) ((W_X7 a aR aT aH aD aK aI aC aS aY lastTold) ++ (W_X5 ca aT texts_ns texts_nc texts_width texts_sizes texts_cells) ++ (W_X6 ca aY tally_often tally_latest))) (h : wp_X7_text texts_ns texts_nc texts_width texts_sizes texts_cells tally_often tally_latest t n post) : Met l yX7_text wsX7_text rm_X7_text (PcX D ca [.ref (a 0), .int t, .int n] ((W_X7 a aR aT aH aD aK aI aC aS aY lastTold) ++ (W_X5 ca aT texts_ns texts_nc texts_width texts_sizes texts_cells) ++ (W_X6 ca aY tally_often tally_latest))) (wrI (S := (Nat → Int32) × (Nat → Int32) × (Nat → Int32) × (Int32)) D ((W_X7 a aR aT aH aD aK aI aC aS aY lastTold) ++ (W_X5 ca aT texts_ns texts_nc texts_width texts_sizes texts_cells) ++ (W_X6 ca aY tally_often tally_latest)) (fun u => (W_X7 a aR aT aH aD aK aI aC aS aY lastTold) ++ (W_X5 ca aT texts_ns texts_nc texts_width u.1 u.2.1) ++ (W_X6 ca aY u.2.2.1 u.2.2.2)) (fun r u => post r u.1 u.2.1 u.2.2.1 u.2.2.2)) 0 0 (adr ((W_X7 a aR aT aH aD aK aI aC aS aY lastTold) ++ (W_X5 ca aT texts_ns texts_nc texts_width texts_sizes texts_cells) ++ (W_X6 ca aY tally_often tally_latest))) := by
  refine Met.ofW (cc := cX7_text) (maxL := 3) (ret := (some .int)) (by decide) rfl ?_
  intro zp ze zs zm za zb zt zc z1 B hml hv
  obtain ⟨rfl, hP, hK⟩ := hv
  have hx := B.exec
  have hb := B.bytes
  have hr := B.returns
  have hts := atoms_spec (ws := wsX7_text) B.pre
  have hown : zs.vm.findClass RX7 = some zm.cls := findClass_of_methodNamed B.named
  have hlocks := B.notSynchronized
  have hD : va_D (adr ((W_X7 a aR aT aH aD aK aI aC aS aY lastTold) ++ (W_X5 ca aT texts_ns texts_nc texts_width texts_sizes texts_cells) ++ (W_X6 ca aY tally_often tally_latest))) ((W_X7 a aR aT aH aD aK aI aC aS aY lastTold) ++ (W_X5 ca aT texts_ns texts_nc texts_width texts_sizes texts_cells) ++ (W_X6 ca aY tally_often tally_latest)) := hd.adr
  have hS : va_S (adr ((W_X7 a aR aT aH aD aK aI aC aS aY lastTold) ++ (W_X5 ca aT texts_ns texts_nc texts_width texts_sizes texts_cells) ++ (W_X6 ca aY tally_often tally_latest))) zs.heap zs.heap [] := va_S.rf
  have hl := lv_entry ([.ref (a 0), .int t, .int n]) (n := 3) (Nat.le_of_ble_eq_true rfl)
  rw [lg_entry_eq]
  generalize (lg_sl ([.ref (a 0), .int t, .int n]) ++ List.replicate (3 - (lg_sl ([.ref (a 0), .int t, .int n])).length) Slot.unset).toArray = ls at hl ⊢
  replace hl : lv_has ls 3 [(0, .ref (a 0)), (1, .int t), (2, .int n)] := hl
  show W zp l ze rm_X7_text zs zm ([.ref (a 0), .int t, .int n] : List Value).toArray zb zt zc zs.heap [] 0 0 (MQ zb (wrI (S := (Nat → Int32) × (Nat → Int32) × (Nat → Int32) × (Int32)) D ((W_X7 a aR aT aH aD aK aI aC aS aY lastTold) ++ (W_X5 ca aT texts_ns texts_nc texts_width texts_sizes texts_cells) ++ (W_X6 ca aY tally_often tally_latest)) (fun u => (W_X7 a aR aT aH aD aK aI aC aS aY lastTold) ++ (W_X5 ca aT texts_ns texts_nc texts_width u.1 u.2.1) ++ (W_X6 ca aY u.2.2.1 u.2.2.2)) (fun r u => post r u.1 u.2.1 u.2.2.1 u.2.2.2)) ([.ref (a 0), .int t, .int n] : List Value).toArray zs 0 0 (adr ((W_X7 a aR aT aH aD aK aI aC aS aY lastTold) ++ (W_X5 ca aT texts_ns texts_nc texts_width texts_sizes texts_cells) ++ (W_X6 ca aY tally_often tally_latest)))) (F0 zm 0 ls [])
  unfold wp_X7_text at h
  refine lv_aload_n hx hb dX7_text_0 rfl (lv_at hl 0 rfl) ?_
  refine va_get (D := D) (ci := 6) (v := .ref (aT 0)) (C := RX7) (T := TX7) (N := 10) hx hb hts hi_X7_text_X7 hown hK.1 hP 0 rfl rfl 1 (by decide) (hts _ k_X7_text_1) (fun _ h9 => h9) rfl dX7_text_1 ?_
  refine lv_iload_n hx hb dX7_text_4 rfl (lv_at hl 1 rfl) ?_
  refine rd_callz (va_runV (As := [.int t]) (rest := []) ⟨hx, hb, hml, hown, hts⟩ (c_X5_hasNumber l D ca aT texts_ns texts_nc texts_width texts_sizes texts_cells t _ h) (cwV 1 hts gX7_text_X5_hasNumber rfl rfl rfl (by decide +kernel) ⟨Nat.le_of_ble_eq_true rfl, Nat.le_of_ble_eq_true rfl⟩) (PcX.preV (q := (RX5, TX5, 3)) (ci := 4) (q0 := 1) hK hP rfl rfl (hP.subM [1, 2, 3] rfl)) rfl rfl hl.1 rfl (lv_room (Nat.le_of_ble_eq_true rfl)) dX7_text_5 ⟨Nat.le_of_ble_eq_true rfl, Nat.le_of_ble_eq_true rfl⟩) (fun r1 h hz_r1 => ?_)
  try dsimp only at h
  refine lv_if_eq (tgt := 17) hx hb dX7_text_8 (by decide) (fun hc => ?_) (fun hc => ?_)
  · have h := h.1 hc
    refine lv_iconst (v := (-1)) hx hb dX7_text_17 (by decide) ?_
    exact W.iret (v := (-1 : Int32)) hx hb hr (fun t ht hW => ⟨⟨(-1 : Int32), (texts_sizes, texts_cells, tally_often, tally_latest), rfl, h, by rw [ht]; exact hP⟩, hS.F ht⟩) hS.2.2 dX7_text_18
  · have h := h.2 hc
    refine lv_iload_n hx hb dX7_text_11 rfl (lv_at hl 2 rfl) ?_
    refine lv_bipush (v := (80)) hx hb dX7_text_12 (by decide) ?_
    refine lv_icmp_le (tgt := 19) hx hb dX7_text_14 (by decide) (fun hc => ?_) (fun hc => ?_)
    · have h := h.1 hc
      refine lv_iload_n hx hb dX7_text_19 rfl (lv_at hl 2 rfl) ?_
      refine lv_if_ge (tgt := 32) hx hb dX7_text_20 (by decide) (fun hc => ?_) (fun hc => ?_)
      · have h := h.1 hc
        refine lv_aload_n hx hb dX7_text_32 rfl (lv_at hl 0 rfl) ?_
        refine va_get (D := D) (ci := 6) (v := .ref (aT 0)) (C := RX7) (T := TX7) (N := 10) hx hb hts hi_X7_text_X7 hown hK.1 hP 0 rfl rfl 1 (by decide) (hts _ k_X7_text_1) (fun _ h9 => h9) rfl dX7_text_33 ?_
        refine lv_iload_n hx hb dX7_text_36 rfl (lv_at hl 1 rfl) ?_
        refine lv_iload_n hx hb dX7_text_37 rfl (lv_at hl 2 rfl) ?_
        refine lv_bipush (v := (32)) hx hb dX7_text_38 (by decide) ?_
        refine wr_callv (ws1 := fun u => (W_X7 a aR aT aH aD aK aI aC aS aY lastTold) ++ (W_X5 ca aT texts_ns texts_nc texts_width u.1 u.2) ++ (W_X6 ca aY tally_often tally_latest)) (wr := ([0, 4, 5] : List Nat).filterMap (fun i => ((W_X7 a aR aT aH aD aK aI aC aS aY lastTold) ++ (W_X5 ca aT texts_ns texts_nc texts_width texts_sizes texts_cells) ++ (W_X6 ca aY tally_often tally_latest) : va_W)[i]?)) (n := 6) (va_runV (As := [.int t, .int n, .int (32 : Int32)]) (rest := []) ⟨hx, hb, hml, hown, hts⟩ (c_X5_makeAnew l D ca aT texts_ns texts_nc texts_width texts_sizes texts_cells t n (32 : Int32) _ (hD.subM [1, 2, 3] (by decide) rfl) h) (cwV 3 hts gX7_text_X5_makeAnew rfl rfl rfl (by decide +kernel) ⟨Nat.le_of_ble_eq_true rfl, Nat.le_of_ble_eq_true rfl⟩) (PcX.preV (q := (RX5, TX5, 3)) (ci := 4) (q0 := 1) hK hP rfl rfl (hP.subM [1, 2, 3] rfl)) rfl rfl hl.1 rfl (lv_room (Nat.le_of_ble_eq_true rfl)) dX7_text_40 ⟨Nat.le_of_ble_eq_true rfl, Nat.le_of_ble_eq_true rfl⟩) hP hD hS [1, 2, 3] [0, 4, 5] rfl (fun _ => rfl) rfl (fun _ => rfl) (fun _ => rfl) (fun _ => rfl) (by decide +kernel) (by decide +kernel) (fun u H locs h hP hD hS => ?_)
        obtain ⟨texts_sizes_2, texts_cells_3⟩ := u
        have hP : va_P D vwCl ((W_X7 a aR aT aH aD aK aI aC aS aY lastTold) ++ (W_X5 ca aT texts_ns texts_nc texts_width texts_sizes_2 texts_cells_3) ++ (W_X6 ca aY tally_often tally_latest)) H := hP
        have hD : va_D _ ((W_X7 a aR aT aH aD aK aI aC aS aY lastTold) ++ (W_X5 ca aT texts_ns texts_nc texts_width texts_sizes_2 texts_cells_3) ++ (W_X6 ca aY tally_often tally_latest)) := hD
        try dsimp only at h
        refine lv_iload_n hx hb dX7_text_43 rfl (lv_at hl 2 rfl) ?_
        exact W.iret (v := n) hx hb hr (fun t ht hW => ⟨⟨n, (texts_sizes_2, texts_cells_3, tally_often, tally_latest), rfl, h, by rw [ht]; exact hP⟩, hS.F ht⟩) hS.2.2 dX7_text_44
      · have h := h.2 hc
        refine lv_aload_n hx hb dX7_text_23 rfl (lv_at hl 0 rfl) ?_
        refine va_get (D := D) (ci := 6) (v := .ref (aY 0)) (C := RX7) (T := TX7) (N := 10) hx hb hts hi_X7_text_X7 hown hK.1 hP 0 rfl rfl 8 (by decide) (hts _ k_X7_text_2) (fun _ h9 => h9) rfl dX7_text_24 ?_
        refine lv_iconst (v := (5)) hx hb dX7_text_27 (by decide) ?_
        refine wr_calli (ws1 := fun u => (W_X7 a aR aT aH aD aK aI aC aS aY lastTold) ++ (W_X5 ca aT texts_ns texts_nc texts_width texts_sizes texts_cells) ++ (W_X6 ca aY u.1 u.2)) (wr := ([0, 1, 2, 3] : List Nat).filterMap (fun i => ((W_X7 a aR aT aH aD aK aI aC aS aY lastTold) ++ (W_X5 ca aT texts_ns texts_nc texts_width texts_sizes texts_cells) ++ (W_X6 ca aY tally_often tally_latest) : va_W)[i]?)) (n := 6) (va_runV (As := [.int (5 : Int32)]) (rest := []) ⟨hx, hb, hml, hown, hts⟩ (c_X6_note l D ca aY tally_often tally_latest (5 : Int32) _ (hD.subM [4, 5] (by decide) rfl) h) (cwV 1 hts gX7_text_X6_note rfl rfl rfl (by decide +kernel) ⟨Nat.le_of_ble_eq_true rfl, Nat.le_of_ble_eq_true rfl⟩) (PcX.preV (q := (RX6, TX6, 2)) (ci := 5) (q0 := 4) hK hP rfl rfl (hP.subM [4, 5] rfl)) rfl rfl hl.1 rfl (lv_room (Nat.le_of_ble_eq_true rfl)) dX7_text_28 ⟨Nat.le_of_ble_eq_true rfl, Nat.le_of_ble_eq_true rfl⟩) hP hD hS [4, 5] [0, 1, 2, 3] rfl (fun _ => rfl) rfl (fun _ => rfl) (fun _ => rfl) (fun _ => rfl) (by decide +kernel) (by decide +kernel) (fun r4 u H locs h hP hD hS => ?_)
        obtain ⟨tally_often_5, tally_latest_6⟩ := u
        have hP : va_P D vwCl ((W_X7 a aR aT aH aD aK aI aC aS aY lastTold) ++ (W_X5 ca aT texts_ns texts_nc texts_width texts_sizes texts_cells) ++ (W_X6 ca aY tally_often_5 tally_latest_6)) H := hP
        have hD : va_D _ ((W_X7 a aR aT aH aD aK aI aC aS aY lastTold) ++ (W_X5 ca aT texts_ns texts_nc texts_width texts_sizes texts_cells) ++ (W_X6 ca aY tally_often_5 tally_latest_6)) := hD
        try dsimp only at h
        exact W.iret (v := r4) hx hb hr (fun t ht hW => ⟨⟨r4, (texts_sizes, texts_cells, tally_often_5, tally_latest_6), rfl, h, by rw [ht]; exact hP⟩, hS.F ht⟩) hS.2.2 dX7_text_31
    · have h := h.2 hc
      refine lv_iconst (v := (-1)) hx hb dX7_text_17 (by decide) ?_
      exact W.iret (v := (-1 : Int32)) hx hb hr (fun t ht hW => ⟨⟨(-1 : Int32), (texts_sizes, texts_cells, tally_often, tally_latest), rfl, h, by rw [ht]; exact hP⟩, hS.F ht⟩) hS.2.2 dX7_text_18

-- IronedQuarrels.put(III)I
def wp_X7_put (texts_ns : Nat) (texts_nc : Nat) (texts_width : Int32) (texts_sizes : Nat → Int32) (texts_cells : Nat → Int32) (tally_often : Nat → Int32) (tally_latest : Int32) (t : Int32) (i : Int32) (v : Int32) (post : Int32 → (Nat → Int32) → (Nat → Int32) → (Int32) → Prop) : Prop :=
  wp_X7_refusalOfPlace texts_ns texts_sizes tally_often tally_latest t i (fun r1 tally_often_2 tally_latest_3 => (r1 = 0 → (wp_X5_cell texts_nc texts_width texts_cells t i (fun r4 => wp_X5_setCell texts_nc texts_width texts_cells t i v.toInt8.toInt32 (fun texts_cells_5 => post (r4 + (1000 : Int32)) texts_cells_5 tally_often_2 tally_latest_3)))) ∧ (¬ r1 = 0 → (post r1 texts_cells tally_often_2 tally_latest_3)))
def rm_X7_put : Room := { frames := 3, cells := 0, slots := 0, locals := 67 }
theorem k_X7_put_1 : Cond.fieldLink RX7 18 "IronedQuarrels" "texts" "LIronedQuarrels$Shelf;" ∈ wsX7_put := List.mem_of_getElem? (i := 1) (by decide +kernel)
theorem hi_X7_put_X5 : ∀ w ∈ wsX50, w ∈ wsX7_put := fun w h => List.mem_cons_of_mem _ (List.mem_append_left _ (List.mem_append_right _ h))
theorem hi_X7_put_X6 : ∀ w ∈ wsX60, w ∈ wsX7_put := fun w h => List.mem_cons_of_mem _ (List.mem_append_right _ h)
theorem hi_X7_put_X7 : ∀ w ∈ wsX70, w ∈ wsX7_put := fun w h => List.mem_cons_of_mem _ (List.mem_append_left _ (List.mem_append_left _ (List.mem_append_right _ h)))
set_option maxHeartbeats 4000000 in
set_option maxRecDepth 100000 in
theorem c_X7_put (l : Launch) (D : va_G) (ca : Nat → ClassId) (a : Nat → Nat) (aR : Nat → Nat) (aT : Nat → Nat) (aH : Nat → Nat) (aD : Nat → Nat) (aK : Nat) (aI : Nat → Nat) (aC : Nat → Nat) (aS : Nat → Nat) (aY : Nat → Nat) (lastTold : Int32) (texts_ns : Nat) (texts_nc : Nat) (texts_width : Int32) (texts_sizes : Nat → Int32) (texts_cells : Nat → Int32) (tally_often : Nat → Int32) (tally_latest : Int32) (t : Int32) (i : Int32) (v : Int32) (post : Int32 → (Nat → Int32) → (Nat → Int32) → (Int32) → Prop) (hd : va_D (fun _ => True) ((W_X7 a aR aT aH aD aK aI aC aS aY lastTold) ++ (W_X5 ca aT texts_ns texts_nc texts_width texts_sizes texts_cells) ++ (W_X6 ca aY tally_often tally_latest))) (h : wp_X7_put texts_ns texts_nc texts_width texts_sizes texts_cells tally_often tally_latest t i v post) : Met l yX7_put wsX7_put rm_X7_put (PcX D ca [.ref (a 0), .int t, .int i, .int v] ((W_X7 a aR aT aH aD aK aI aC aS aY lastTold) ++ (W_X5 ca aT texts_ns texts_nc texts_width texts_sizes texts_cells) ++ (W_X6 ca aY tally_often tally_latest))) (wrI (S := (Nat → Int32) × (Nat → Int32) × (Int32)) D ((W_X7 a aR aT aH aD aK aI aC aS aY lastTold) ++ (W_X5 ca aT texts_ns texts_nc texts_width texts_sizes texts_cells) ++ (W_X6 ca aY tally_often tally_latest)) (fun u => (W_X7 a aR aT aH aD aK aI aC aS aY lastTold) ++ (W_X5 ca aT texts_ns texts_nc texts_width texts_sizes u.1) ++ (W_X6 ca aY u.2.1 u.2.2)) (fun r u => post r u.1 u.2.1 u.2.2)) 0 0 (adr ((W_X7 a aR aT aH aD aK aI aC aS aY lastTold) ++ (W_X5 ca aT texts_ns texts_nc texts_width texts_sizes texts_cells) ++ (W_X6 ca aY tally_often tally_latest))) := by
  refine Met.ofW (cc := cX7_put) (maxL := 6) (ret := (some .int)) (by decide) rfl ?_
  intro zp ze zs zm za zb zt zc z1 B hml hv
  obtain ⟨rfl, hP, hK⟩ := hv
  have hx := B.exec
  have hb := B.bytes
  have hr := B.returns
  have hts := atoms_spec (ws := wsX7_put) B.pre
  have hown : zs.vm.findClass RX7 = some zm.cls := findClass_of_methodNamed B.named
  have hlocks := B.notSynchronized
  have hD : va_D (adr ((W_X7 a aR aT aH aD aK aI aC aS aY lastTold) ++ (W_X5 ca aT texts_ns texts_nc texts_width texts_sizes texts_cells) ++ (W_X6 ca aY tally_often tally_latest))) ((W_X7 a aR aT aH aD aK aI aC aS aY lastTold) ++ (W_X5 ca aT texts_ns texts_nc texts_width texts_sizes texts_cells) ++ (W_X6 ca aY tally_often tally_latest)) := hd.adr
  have hS : va_S (adr ((W_X7 a aR aT aH aD aK aI aC aS aY lastTold) ++ (W_X5 ca aT texts_ns texts_nc texts_width texts_sizes texts_cells) ++ (W_X6 ca aY tally_often tally_latest))) zs.heap zs.heap [] := va_S.rf
  have hl := lv_entry ([.ref (a 0), .int t, .int i, .int v]) (n := 6) (Nat.le_of_ble_eq_true rfl)
  rw [lg_entry_eq]
  generalize (lg_sl ([.ref (a 0), .int t, .int i, .int v]) ++ List.replicate (6 - (lg_sl ([.ref (a 0), .int t, .int i, .int v])).length) Slot.unset).toArray = ls at hl ⊢
  replace hl : lv_has ls 6 [(0, .ref (a 0)), (1, .int t), (2, .int i), (3, .int v)] := hl
  show W zp l ze rm_X7_put zs zm ([.ref (a 0), .int t, .int i, .int v] : List Value).toArray zb zt zc zs.heap [] 0 0 (MQ zb (wrI (S := (Nat → Int32) × (Nat → Int32) × (Int32)) D ((W_X7 a aR aT aH aD aK aI aC aS aY lastTold) ++ (W_X5 ca aT texts_ns texts_nc texts_width texts_sizes texts_cells) ++ (W_X6 ca aY tally_often tally_latest)) (fun u => (W_X7 a aR aT aH aD aK aI aC aS aY lastTold) ++ (W_X5 ca aT texts_ns texts_nc texts_width texts_sizes u.1) ++ (W_X6 ca aY u.2.1 u.2.2)) (fun r u => post r u.1 u.2.1 u.2.2)) ([.ref (a 0), .int t, .int i, .int v] : List Value).toArray zs 0 0 (adr ((W_X7 a aR aT aH aD aK aI aC aS aY lastTold) ++ (W_X5 ca aT texts_ns texts_nc texts_width texts_sizes texts_cells) ++ (W_X6 ca aY tally_often tally_latest)))) (F0 zm 0 ls [])
  unfold wp_X7_put at h
  refine lv_aload_n hx hb dX7_put_0 rfl (lv_at hl 0 rfl) ?_
  refine lv_aload_n hx hb dX7_put_1 rfl (lv_at hl 0 rfl) ?_
  refine va_get (D := D) (ci := 6) (v := .ref (aT 0)) (C := RX7) (T := TX7) (N := 10) hx hb hts hi_X7_put_X7 hown hK.1 hP 0 rfl rfl 1 (by decide) (hts _ k_X7_put_1) (fun _ h9 => h9) rfl dX7_put_2 ?_
  refine lv_iload_n hx hb dX7_put_5 rfl (lv_at hl 1 rfl) ?_
  refine lv_iload_n hx hb dX7_put_6 rfl (lv_at hl 2 rfl) ?_
  refine wr_calli (ws1 := fun u => (W_X7 a aR aT aH aD aK aI aC aS aY lastTold) ++ (W_X5 ca aT texts_ns texts_nc texts_width texts_sizes texts_cells) ++ (W_X6 ca aY u.1 u.2)) (wr := ([] : List Nat).filterMap (fun i => ((W_X7 a aR aT aH aD aK aI aC aS aY lastTold) ++ (W_X5 ca aT texts_ns texts_nc texts_width texts_sizes texts_cells) ++ (W_X6 ca aY tally_often tally_latest) : va_W)[i]?)) (n := 6) (va_runV (As := [.ref (aT 0), .int t, .int i]) (rest := []) ⟨hx, hb, hml, hown, hts⟩ (c_X7_refusalOfPlace l D ca a aR aT aH aD aK aI aC aS aY aT lastTold texts_ns texts_nc texts_width texts_sizes texts_cells tally_often tally_latest t i _ (hD.subM [0, 1, 2, 3, 4, 5] (by decide) rfl) h) (cwV 3 hts gX7_put_X7_refusalOfPlace rfl rfl rfl (by decide +kernel) ⟨Nat.le_of_ble_eq_true rfl, Nat.le_of_ble_eq_true rfl⟩) (PcX.preV (q := (RX7, TX7, 10)) (ci := 6) (q0 := 0) hK hP rfl rfl hP) rfl rfl hl.1 rfl (lv_room (Nat.le_of_ble_eq_true rfl)) dX7_put_7 ⟨Nat.le_of_ble_eq_true rfl, Nat.le_of_ble_eq_true rfl⟩) hP hD hS [0, 1, 2, 3, 4, 5] [] rfl (fun _ => rfl) rfl (fun _ => rfl) (fun _ => rfl) (fun _ => rfl) (by decide +kernel) (by decide +kernel) (fun r1 u H locs h hP hD hS => ?_)
  obtain ⟨tally_often_2, tally_latest_3⟩ := u
  have hP : va_P D vwCl ((W_X7 a aR aT aH aD aK aI aC aS aY lastTold) ++ (W_X5 ca aT texts_ns texts_nc texts_width texts_sizes texts_cells) ++ (W_X6 ca aY tally_often_2 tally_latest_3)) H := hP
  have hD : va_D _ ((W_X7 a aR aT aH aD aK aI aC aS aY lastTold) ++ (W_X5 ca aT texts_ns texts_nc texts_width texts_sizes texts_cells) ++ (W_X6 ca aY tally_often_2 tally_latest_3)) := hD
  try dsimp only at h
  refine lv_istore (lv' := [(4, .int r1), (0, .ref (a 0)), (1, .int t), (2, .int i), (3, .int v)]) hx hb dX7_put_10 hl (by decide) rfl (fun ls hl => ?_)
  refine lv_iload hx hb dX7_put_12 (lv_at hl 0 rfl) ?_
  refine lv_if_eq (tgt := 20) hx hb dX7_put_14 (by decide) (fun hc => ?_) (fun hc => ?_)
  · have h := h.1 hc
    refine lv_aload_n hx hb dX7_put_20 rfl (lv_at hl 1 rfl) ?_
    refine va_get (D := D) (ci := 6) (v := .ref (aT 0)) (C := RX7) (T := TX7) (N := 10) hx hb hts hi_X7_put_X7 hown hK.1 hP 0 rfl rfl 1 (by decide) (hts _ k_X7_put_1) (fun _ h9 => h9) rfl dX7_put_21 ?_
    refine lv_iload_n hx hb dX7_put_24 rfl (lv_at hl 2 rfl) ?_
    refine lv_iload_n hx hb dX7_put_25 rfl (lv_at hl 3 rfl) ?_
    refine rd_calli (va_runV (As := [.int t, .int i]) (rest := []) ⟨hx, hb, hml, hown, hts⟩ (c_X5_cell l D ca aT texts_ns texts_nc texts_width texts_sizes texts_cells t i _ h) (cwV 2 hts gX7_put_X5_cell rfl rfl rfl (by decide +kernel) ⟨Nat.le_of_ble_eq_true rfl, Nat.le_of_ble_eq_true rfl⟩) (PcX.preV (q := (RX5, TX5, 3)) (ci := 4) (q0 := 1) hK hP rfl rfl (hP.subM [1, 2, 3] rfl)) rfl rfl hl.1 rfl (lv_room (Nat.le_of_ble_eq_true rfl)) dX7_put_26 ⟨Nat.le_of_ble_eq_true rfl, Nat.le_of_ble_eq_true rfl⟩) (fun r4 h => ?_)
    try dsimp only at h
    refine lv_istore (lv' := [(5, .int r4), (4, .int r1), (0, .ref (a 0)), (1, .int t), (2, .int i), (3, .int v)]) hx hb dX7_put_29 hl (by decide) rfl (fun ls hl => ?_)
    refine lv_aload_n hx hb dX7_put_31 rfl (lv_at hl 2 rfl) ?_
    refine va_get (D := D) (ci := 6) (v := .ref (aT 0)) (C := RX7) (T := TX7) (N := 10) hx hb hts hi_X7_put_X7 hown hK.1 hP 0 rfl rfl 1 (by decide) (hts _ k_X7_put_1) (fun _ h9 => h9) rfl dX7_put_32 ?_
    refine lv_iload_n hx hb dX7_put_35 rfl (lv_at hl 3 rfl) ?_
    refine lv_iload_n hx hb dX7_put_36 rfl (lv_at hl 4 rfl) ?_
    refine lv_iload_n hx hb dX7_put_37 rfl (lv_at hl 5 rfl) ?_
    refine lv_i2b hx hb dX7_put_38 rfl ?_
    refine wr_callv (ws1 := fun u => (W_X7 a aR aT aH aD aK aI aC aS aY lastTold) ++ (W_X5 ca aT texts_ns texts_nc texts_width texts_sizes u) ++ (W_X6 ca aY tally_often_2 tally_latest_3)) (wr := ([0, 4, 5] : List Nat).filterMap (fun i => ((W_X7 a aR aT aH aD aK aI aC aS aY lastTold) ++ (W_X5 ca aT texts_ns texts_nc texts_width texts_sizes texts_cells) ++ (W_X6 ca aY tally_often_2 tally_latest_3) : va_W)[i]?)) (n := 6) (va_runV (As := [.int t, .int i, .int v.toInt8.toInt32]) (rest := []) ⟨hx, hb, hml, hown, hts⟩ (c_X5_setCell l D ca aT texts_ns texts_nc texts_width texts_sizes texts_cells t i v.toInt8.toInt32 _ (hD.subM [1, 2, 3] (by decide) rfl) h) (cwV 3 hts gX7_put_X5_setCell rfl rfl rfl (by decide +kernel) ⟨Nat.le_of_ble_eq_true rfl, Nat.le_of_ble_eq_true rfl⟩) (PcX.preV (q := (RX5, TX5, 3)) (ci := 4) (q0 := 1) hK hP rfl rfl (hP.subM [1, 2, 3] rfl)) rfl rfl hl.1 rfl (lv_room (Nat.le_of_ble_eq_true rfl)) dX7_put_39 ⟨Nat.le_of_ble_eq_true rfl, Nat.le_of_ble_eq_true rfl⟩) hP hD hS [1, 2, 3] [0, 4, 5] rfl (fun _ => rfl) rfl (fun _ => rfl) (fun _ => rfl) (fun _ => rfl) (by decide +kernel) (by decide +kernel) (fun u H locs h hP hD hS => ?_)
    obtain ⟨texts_cells_5, rfl⟩ : ∃ z, z = u := ⟨u, rfl⟩
    have hP : va_P D vwCl ((W_X7 a aR aT aH aD aK aI aC aS aY lastTold) ++ (W_X5 ca aT texts_ns texts_nc texts_width texts_sizes texts_cells_5) ++ (W_X6 ca aY tally_often_2 tally_latest_3)) H := hP
    have hD : va_D _ ((W_X7 a aR aT aH aD aK aI aC aS aY lastTold) ++ (W_X5 ca aT texts_ns texts_nc texts_width texts_sizes texts_cells_5) ++ (W_X6 ca aY tally_often_2 tally_latest_3)) := hD
    try dsimp only at h
    refine lv_iload hx hb dX7_put_42 (lv_at hl 0 rfl) ?_
    refine lv_sipush (v := (1000)) hx hb dX7_put_44 (by decide) ?_
    refine lv_iadd hx hb dX7_put_47 ?_
    exact W.iret (v := r4 + (1000 : Int32)) hx hb hr (fun t ht hW => ⟨⟨r4 + (1000 : Int32), (texts_cells_5, tally_often_2, tally_latest_3), rfl, h, by rw [ht]; exact hP⟩, hS.F ht⟩) hS.2.2 dX7_put_48
  · have h := h.2 hc
    refine lv_iload hx hb dX7_put_17 (lv_at hl 0 rfl) ?_
    exact W.iret (v := r1) hx hb hr (fun t ht hW => ⟨⟨r1, (texts_cells, tally_often_2, tally_latest_3), rfl, h, by rw [ht]; exact hP⟩, hS.F ht⟩) hS.2.2 dX7_put_19

-- IronedQuarrels.saying(II)I
def wp_X7_saying (lastTold : Int32) (heap_kinds : Nat → Int32) (heap_whos : Nat → Int32) (heap_toWhoms : Nat → Int32) (heap_topics : Nat → Int32) (heap_weights : Nat → Int32) (heap_answered : Nat → Int32) (heap_size : Int32) (heap_saidBits : Int32) (i : Int32) (what : Int32) (post : Int32 → (Int32) → Prop) : Prop :=
  wp_X1_hasNumber heap_size i (fun r1 => (r1 = 0 → (post (-1 : Int32) lastTold)) ∧ (¬ r1 = 0 → ((what < 0 → (post (-1 : Int32) lastTold)) ∧ (¬ what < 0 → ((what < (8 : Int32) → (wp_X1_fact heap_kinds heap_whos heap_toWhoms heap_topics heap_weights heap_answered heap_size heap_saidBits i what (fun r2 => post (1 : Int32) r2))) ∧ (¬ what < (8 : Int32) → (post (-1 : Int32) lastTold)))))))
def rm_X7_saying : Room := { frames := 6, cells := 0, slots := 0, locals := 130 }
theorem k_X7_saying_1 : Cond.fieldLink RX7 24 "IronedQuarrels" "heap" "LIronedQuarrels$Heap;" ∈ wsX7_saying := List.mem_of_getElem? (i := 1) (by decide +kernel)
theorem k_X7_saying_2 : Cond.fieldLink RX7 63 "IronedQuarrels" "lastTold" "I" ∈ wsX7_saying := List.mem_of_getElem? (i := 2) (by decide +kernel)
theorem hi_X7_saying_X1 : ∀ w ∈ wsX10, w ∈ wsX7_saying := fun w h => List.mem_cons_of_mem _ (List.mem_append_right _ h)
theorem hi_X7_saying_X7 : ∀ w ∈ wsX70, w ∈ wsX7_saying := fun w h => List.mem_cons_of_mem _ (List.mem_append_left _ (List.mem_append_right _ h))
set_option maxHeartbeats 4000000 in
set_option maxRecDepth 100000 in
theorem c_X7_saying (l : Launch) (D : va_G) (ca : Nat → ClassId) (a : Nat → Nat) (aR : Nat → Nat) (aT : Nat → Nat) (aH : Nat → Nat) (aD : Nat → Nat) (aK : Nat) (aI : Nat → Nat) (aC : Nat → Nat) (aS : Nat → Nat) (aY : Nat → Nat) (lastTold : Int32) (heap_kinds : Nat → Int32) (heap_whos : Nat → Int32) (heap_toWhoms : Nat → Int32) (heap_topics : Nat → Int32) (heap_weights : Nat → Int32) (heap_answered : Nat → Int32) (heap_deeds : Nat → Int32) (heap_size : Int32) (heap_saidBits : Int32) (heap_deedCount : Int32) (i : Int32) (what : Int32) (post : Int32 → (Int32) → Prop) (hd : va_D (fun _ => True) ((W_X7 a aR aT aH aD aK aI aC aS aY lastTold) ++ (W_X1 ca aH heap_kinds heap_whos heap_toWhoms heap_topics heap_weights heap_answered heap_deeds heap_size heap_saidBits heap_deedCount))) (h : wp_X7_saying lastTold heap_kinds heap_whos heap_toWhoms heap_topics heap_weights heap_answered heap_size heap_saidBits i what post) : Met l yX7_saying wsX7_saying rm_X7_saying (PcX D ca [.ref (a 0), .int i, .int what] ((W_X7 a aR aT aH aD aK aI aC aS aY lastTold) ++ (W_X1 ca aH heap_kinds heap_whos heap_toWhoms heap_topics heap_weights heap_answered heap_deeds heap_size heap_saidBits heap_deedCount))) (wrI (S := (Int32)) D ((W_X7 a aR aT aH aD aK aI aC aS aY lastTold) ++ (W_X1 ca aH heap_kinds heap_whos heap_toWhoms heap_topics heap_weights heap_answered heap_deeds heap_size heap_saidBits heap_deedCount)) (fun u => (W_X7 a aR aT aH aD aK aI aC aS aY u) ++ (W_X1 ca aH heap_kinds heap_whos heap_toWhoms heap_topics heap_weights heap_answered heap_deeds heap_size heap_saidBits heap_deedCount)) (fun r u => post r u)) 0 0 (adr ((W_X7 a aR aT aH aD aK aI aC aS aY lastTold) ++ (W_X1 ca aH heap_kinds heap_whos heap_toWhoms heap_topics heap_weights heap_answered heap_deeds heap_size heap_saidBits heap_deedCount))) := by
  refine Met.ofW (cc := cX7_saying) (maxL := 3) (ret := (some .int)) (by decide) rfl ?_
  intro zp ze zs zm za zb zt zc z1 B hml hv
  obtain ⟨rfl, hP, hK⟩ := hv
  have hx := B.exec
  have hb := B.bytes
  have hr := B.returns
  have hts := atoms_spec (ws := wsX7_saying) B.pre
  have hown : zs.vm.findClass RX7 = some zm.cls := findClass_of_methodNamed B.named
  have hlocks := B.notSynchronized
  have hD : va_D (adr ((W_X7 a aR aT aH aD aK aI aC aS aY lastTold) ++ (W_X1 ca aH heap_kinds heap_whos heap_toWhoms heap_topics heap_weights heap_answered heap_deeds heap_size heap_saidBits heap_deedCount))) ((W_X7 a aR aT aH aD aK aI aC aS aY lastTold) ++ (W_X1 ca aH heap_kinds heap_whos heap_toWhoms heap_topics heap_weights heap_answered heap_deeds heap_size heap_saidBits heap_deedCount)) := hd.adr
  have hS : va_S (adr ((W_X7 a aR aT aH aD aK aI aC aS aY lastTold) ++ (W_X1 ca aH heap_kinds heap_whos heap_toWhoms heap_topics heap_weights heap_answered heap_deeds heap_size heap_saidBits heap_deedCount))) zs.heap zs.heap [] := va_S.rf
  have hl := lv_entry ([.ref (a 0), .int i, .int what]) (n := 3) (Nat.le_of_ble_eq_true rfl)
  rw [lg_entry_eq]
  generalize (lg_sl ([.ref (a 0), .int i, .int what]) ++ List.replicate (3 - (lg_sl ([.ref (a 0), .int i, .int what])).length) Slot.unset).toArray = ls at hl ⊢
  replace hl : lv_has ls 3 [(0, .ref (a 0)), (1, .int i), (2, .int what)] := hl
  show W zp l ze rm_X7_saying zs zm ([.ref (a 0), .int i, .int what] : List Value).toArray zb zt zc zs.heap [] 0 0 (MQ zb (wrI (S := (Int32)) D ((W_X7 a aR aT aH aD aK aI aC aS aY lastTold) ++ (W_X1 ca aH heap_kinds heap_whos heap_toWhoms heap_topics heap_weights heap_answered heap_deeds heap_size heap_saidBits heap_deedCount)) (fun u => (W_X7 a aR aT aH aD aK aI aC aS aY u) ++ (W_X1 ca aH heap_kinds heap_whos heap_toWhoms heap_topics heap_weights heap_answered heap_deeds heap_size heap_saidBits heap_deedCount)) (fun r u => post r u)) ([.ref (a 0), .int i, .int what] : List Value).toArray zs 0 0 (adr ((W_X7 a aR aT aH aD aK aI aC aS aY lastTold) ++ (W_X1 ca aH heap_kinds heap_whos heap_toWhoms heap_topics heap_weights heap_answered heap_deeds heap_size heap_saidBits heap_deedCount)))) (F0 zm 0 ls [])
  unfold wp_X7_saying at h
  refine lv_aload_n hx hb dX7_saying_0 rfl (lv_at hl 0 rfl) ?_
  refine va_get (D := D) (ci := 6) (v := .ref (aH 0)) (C := RX7) (T := TX7) (N := 10) hx hb hts hi_X7_saying_X7 hown hK.1 hP 0 rfl rfl 2 (by decide) (hts _ k_X7_saying_1) (fun _ h9 => h9) rfl dX7_saying_1 ?_
  refine lv_iload_n hx hb dX7_saying_4 rfl (lv_at hl 1 rfl) ?_
  refine rd_callz (va_runV (As := [.int i]) (rest := []) ⟨hx, hb, hml, hown, hts⟩ (c_X1_hasNumber l D ca aH heap_kinds heap_whos heap_toWhoms heap_topics heap_weights heap_answered heap_deeds heap_size heap_saidBits heap_deedCount i _ h) (cwV 1 hts gX7_saying_X1_hasNumber rfl rfl rfl (by decide +kernel) ⟨Nat.le_of_ble_eq_true rfl, Nat.le_of_ble_eq_true rfl⟩) (PcX.preV (q := (RX1, TX1, 10)) (ci := 1) (q0 := 1) hK hP rfl rfl (hP.subM [1, 2, 3, 4, 5, 6, 7, 8] rfl)) rfl rfl hl.1 rfl (lv_room (Nat.le_of_ble_eq_true rfl)) dX7_saying_5 ⟨Nat.le_of_ble_eq_true rfl, Nat.le_of_ble_eq_true rfl⟩) (fun r1 h hz_r1 => ?_)
  try dsimp only at h
  refine lv_if_eq (tgt := 21) hx hb dX7_saying_8 (by decide) (fun hc => ?_) (fun hc => ?_)
  · have h := h.1 hc
    refine lv_iconst (v := (-1)) hx hb dX7_saying_21 (by decide) ?_
    exact W.iret (v := (-1 : Int32)) hx hb hr (fun t ht hW => ⟨⟨(-1 : Int32), lastTold, rfl, h, by rw [ht]; exact hP⟩, hS.F ht⟩) hS.2.2 dX7_saying_22
  · have h := h.2 hc
    refine lv_iload_n hx hb dX7_saying_11 rfl (lv_at hl 2 rfl) ?_
    refine lv_if_lt (tgt := 21) hx hb dX7_saying_12 (by decide) (fun hc => ?_) (fun hc => ?_)
    · have h := h.1 hc
      refine lv_iconst (v := (-1)) hx hb dX7_saying_21 (by decide) ?_
      exact W.iret (v := (-1 : Int32)) hx hb hr (fun t ht hW => ⟨⟨(-1 : Int32), lastTold, rfl, h, by rw [ht]; exact hP⟩, hS.F ht⟩) hS.2.2 dX7_saying_22
    · have h := h.2 hc
      refine lv_iload_n hx hb dX7_saying_15 rfl (lv_at hl 2 rfl) ?_
      refine lv_bipush (v := (8)) hx hb dX7_saying_16 (by decide) ?_
      refine lv_icmp_lt (tgt := 23) hx hb dX7_saying_18 (by decide) (fun hc => ?_) (fun hc => ?_)
      · have h := h.1 hc
        refine lv_aload_n hx hb dX7_saying_23 rfl (lv_at hl 0 rfl) ?_
        refine lv_aload_n hx hb dX7_saying_24 rfl (lv_at hl 0 rfl) ?_
        refine va_get (D := D) (ci := 6) (v := .ref (aH 0)) (C := RX7) (T := TX7) (N := 10) hx hb hts hi_X7_saying_X7 hown hK.1 hP 0 rfl rfl 2 (by decide) (hts _ k_X7_saying_1) (fun _ h9 => h9) rfl dX7_saying_25 ?_
        refine lv_iload_n hx hb dX7_saying_28 rfl (lv_at hl 1 rfl) ?_
        refine lv_iload_n hx hb dX7_saying_29 rfl (lv_at hl 2 rfl) ?_
        refine rd_calli (va_runV (As := [.int i, .int what]) (rest := [.ref (a 0)]) ⟨hx, hb, hml, hown, hts⟩ (c_X1_fact l D ca aH heap_kinds heap_whos heap_toWhoms heap_topics heap_weights heap_answered heap_deeds heap_size heap_saidBits heap_deedCount i what _ h) (cwV 2 hts gX7_saying_X1_fact rfl rfl rfl (by decide +kernel) ⟨Nat.le_of_ble_eq_true rfl, Nat.le_of_ble_eq_true rfl⟩) (PcX.preV (q := (RX1, TX1, 10)) (ci := 1) (q0 := 1) hK hP rfl rfl (hP.subM [1, 2, 3, 4, 5, 6, 7, 8] rfl)) rfl rfl hl.1 rfl (lv_room (Nat.le_of_ble_eq_true rfl)) dX7_saying_30 ⟨Nat.le_of_ble_eq_true rfl, Nat.le_of_ble_eq_true rfl⟩) (fun r2 h => ?_)
        try dsimp only at h
        refine va_put (D := D) (ci := 6) (v := .int r2) (ty := .int) (C := RX7) (T := TX7) (N := 10) hx hb hts hi_X7_saying_X7 tyX7 tyX7_ok nmX7 hown hK.1 hP hD hS 0 rfl rfl 9 (by decide) (hts _ k_X7_saying_2) (fun _ h9 => h9) rfl (by decide +kernel) rfl rfl (Nat.le_of_ble_eq_true rfl) dX7_saying_33 (fun H locs hP hD hS => ?_)
        have hP : va_P D vwCl ((W_X7 a aR aT aH aD aK aI aC aS aY r2) ++ (W_X1 ca aH heap_kinds heap_whos heap_toWhoms heap_topics heap_weights heap_answered heap_deeds heap_size heap_saidBits heap_deedCount)) H := hP
        have hD : va_D _ ((W_X7 a aR aT aH aD aK aI aC aS aY r2) ++ (W_X1 ca aH heap_kinds heap_whos heap_toWhoms heap_topics heap_weights heap_answered heap_deeds heap_size heap_saidBits heap_deedCount)) := hD
        refine lv_iconst (v := (1)) hx hb dX7_saying_36 (by decide) ?_
        exact W.iret (v := (1 : Int32)) hx hb hr (fun t ht hW => ⟨⟨(1 : Int32), r2, rfl, h, by rw [ht]; exact hP⟩, hS.F ht⟩) hS.2.2 dX7_saying_37
      · have h := h.2 hc
        refine lv_iconst (v := (-1)) hx hb dX7_saying_21 (by decide) ?_
        exact W.iret (v := (-1 : Int32)) hx hb hr (fun t ht hW => ⟨⟨(-1 : Int32), lastTold, rfl, h, by rw [ht]; exact hP⟩, hS.F ht⟩) hS.2.2 dX7_saying_22

-- IronedQuarrels.mark(II)I
def wp_X7_mark (heap_kinds : Nat → Int32) (heap_whos : Nat → Int32) (heap_toWhoms : Nat → Int32) (heap_topics : Nat → Int32) (heap_weights : Nat → Int32) (heap_answered : Nat → Int32) (heap_size : Int32) (heap_saidBits : Int32) (tally_often : Nat → Int32) (tally_latest : Int32) (i : Int32) (kind : Int32) (post : Int32 → (Nat → Int32) → (Int32) → Prop) : Prop :=
  wp_X1_hasNumber heap_size i (fun r1 => (r1 = 0 → (post (-1 : Int32) tally_often tally_latest)) ∧ (¬ r1 = 0 → ((kind ≤ 0 → (post (-1 : Int32) tally_often tally_latest)) ∧ (¬ kind ≤ 0 → ((kind < (6 : Int32) → (wp_X1_isOf heap_kinds i kind (fun r2 => (¬ r2 = 0 → ((kind = 1 → (wp_X1_others heap_whos heap_toWhoms heap_size i (fun r3 => wp_X7_bitsBelow i (fun r4 => wp_J6_bitCount_0f7a4 (r3 &&& r4) (fun r5 => post r5 tally_often tally_latest))))) ∧ (kind = 2 → (wp_X0_suspects heap_whos heap_toWhoms heap_answered heap_size i (fun r6 => wp_J6_bitCount_0f7a4 r6 (fun r7 => post r7 tally_often tally_latest)))) ∧ (kind = 3 → (wp_X1_priceNow heap_kinds heap_whos heap_toWhoms heap_topics heap_weights heap_size heap_saidBits i (fun r8 => wp_X1_heatNow heap_whos heap_toWhoms heap_size heap_saidBits i (fun r9 => wp_X1_weightOf heap_weights i (fun r10 => post (((r8 - r9) - r10) + (100 : Int32)) tally_often tally_latest))))) ∧ (kind = 4 → (wp_X1_answerers heap_answered heap_size i (fun r11 => wp_X1_saidBits heap_saidBits (fun r12 => wp_J6_bitCount_0f7a4 (r11 &&& r12) (fun r13 => post r13 tally_often tally_latest))))) ∧ (¬ kind = 1 → ¬ kind = 2 → ¬ kind = 3 → ¬ kind = 4 → (wp_X1_alikeInBundle heap_topics heap_answered heap_size i (fun r14 => post r14 tally_often tally_latest))))) ∧ (r2 = 0 → (wp_X6_note tally_often (3 : Int32) (fun r15 tally_often_16 tally_latest_17 => post r15 tally_often_16 tally_latest_17)))))) ∧ (¬ kind < (6 : Int32) → (post (-1 : Int32) tally_often tally_latest)))))))
def rm_X7_mark : Room := { frames := 5, cells := 0, slots := 0, locals := 108 }
theorem k_X7_mark_1 : Cond.fieldLink RX7 24 "IronedQuarrels" "heap" "LIronedQuarrels$Heap;" ∈ wsX7_mark := List.mem_of_getElem? (i := 1) (by decide +kernel)
theorem k_X7_mark_2 : Cond.fieldLink RX7 59 "IronedQuarrels" "tally" "LIronedQuarrels$Tally;" ∈ wsX7_mark := List.mem_of_getElem? (i := 2) (by decide +kernel)
theorem k_X7_mark_3 : Cond.fieldLink RX7 45 "IronedQuarrels" "company" "LIronedQuarrels$Company;" ∈ wsX7_mark := List.mem_of_getElem? (i := 3) (by decide +kernel)
theorem hi_X7_mark_X1 : ∀ w ∈ wsX10, w ∈ wsX7_mark := fun w h => List.mem_cons_of_mem _ (List.mem_append_left _ (List.mem_append_right _ h))
theorem hi_X7_mark_X6 : ∀ w ∈ wsX60, w ∈ wsX7_mark := fun w h => List.mem_cons_of_mem _ (List.mem_append_right _ h)
theorem hi_X7_mark_X7 : ∀ w ∈ wsX70, w ∈ wsX7_mark := fun w h => List.mem_cons_of_mem _ (List.mem_append_left _ (List.mem_append_left _ (List.mem_append_right _ h)))
set_option maxHeartbeats 4000000 in
set_option maxRecDepth 100000 in
theorem c_X7_mark (l : Launch) (D : va_G) (ca : Nat → ClassId) (a : Nat → Nat) (aR : Nat → Nat) (aT : Nat → Nat) (aH : Nat → Nat) (aD : Nat → Nat) (aK : Nat) (aI : Nat → Nat) (aC : Nat → Nat) (aS : Nat → Nat) (aY : Nat → Nat) (lastTold : Int32) (heap_kinds : Nat → Int32) (heap_whos : Nat → Int32) (heap_toWhoms : Nat → Int32) (heap_topics : Nat → Int32) (heap_weights : Nat → Int32) (heap_answered : Nat → Int32) (heap_deeds : Nat → Int32) (heap_size : Int32) (heap_saidBits : Int32) (heap_deedCount : Int32) (company_tells : Nat → Int32) (tally_often : Nat → Int32) (tally_latest : Int32) (i : Int32) (kind : Int32) (post : Int32 → (Nat → Int32) → (Int32) → Prop) (hd : va_D (fun _ => True) ((W_X7 a aR aT aH aD aK aI aC aS aY lastTold) ++ (W_X1 ca aH heap_kinds heap_whos heap_toWhoms heap_topics heap_weights heap_answered heap_deeds heap_size heap_saidBits heap_deedCount) ++ (W_X0 ca aC company_tells) ++ (W_X6 ca aY tally_often tally_latest))) (h : wp_X7_mark heap_kinds heap_whos heap_toWhoms heap_topics heap_weights heap_answered heap_size heap_saidBits tally_often tally_latest i kind post) : Met l yX7_mark wsX7_mark rm_X7_mark (PcX D ca [.ref (a 0), .int i, .int kind] ((W_X7 a aR aT aH aD aK aI aC aS aY lastTold) ++ (W_X1 ca aH heap_kinds heap_whos heap_toWhoms heap_topics heap_weights heap_answered heap_deeds heap_size heap_saidBits heap_deedCount) ++ (W_X0 ca aC company_tells) ++ (W_X6 ca aY tally_often tally_latest))) (wrI (S := (Nat → Int32) × (Int32)) D ((W_X7 a aR aT aH aD aK aI aC aS aY lastTold) ++ (W_X1 ca aH heap_kinds heap_whos heap_toWhoms heap_topics heap_weights heap_answered heap_deeds heap_size heap_saidBits heap_deedCount) ++ (W_X0 ca aC company_tells) ++ (W_X6 ca aY tally_often tally_latest)) (fun u => (W_X7 a aR aT aH aD aK aI aC aS aY lastTold) ++ (W_X1 ca aH heap_kinds heap_whos heap_toWhoms heap_topics heap_weights heap_answered heap_deeds heap_size heap_saidBits heap_deedCount) ++ (W_X0 ca aC company_tells) ++ (W_X6 ca aY u.1 u.2)) (fun r u => post r u.1 u.2)) 0 0 (adr ((W_X7 a aR aT aH aD aK aI aC aS aY lastTold) ++ (W_X1 ca aH heap_kinds heap_whos heap_toWhoms heap_topics heap_weights heap_answered heap_deeds heap_size heap_saidBits heap_deedCount) ++ (W_X0 ca aC company_tells) ++ (W_X6 ca aY tally_often tally_latest))) := by
  refine Met.ofW (cc := cX7_mark) (maxL := 3) (ret := (some .int)) (by decide) rfl ?_
  intro zp ze zs zm za zb zt zc z1 B hml hv
  obtain ⟨rfl, hP, hK⟩ := hv
  have hx := B.exec
  have hb := B.bytes
  have hr := B.returns
  have hts := atoms_spec (ws := wsX7_mark) B.pre
  have hown : zs.vm.findClass RX7 = some zm.cls := findClass_of_methodNamed B.named
  have hlocks := B.notSynchronized
  have hD : va_D (adr ((W_X7 a aR aT aH aD aK aI aC aS aY lastTold) ++ (W_X1 ca aH heap_kinds heap_whos heap_toWhoms heap_topics heap_weights heap_answered heap_deeds heap_size heap_saidBits heap_deedCount) ++ (W_X0 ca aC company_tells) ++ (W_X6 ca aY tally_often tally_latest))) ((W_X7 a aR aT aH aD aK aI aC aS aY lastTold) ++ (W_X1 ca aH heap_kinds heap_whos heap_toWhoms heap_topics heap_weights heap_answered heap_deeds heap_size heap_saidBits heap_deedCount) ++ (W_X0 ca aC company_tells) ++ (W_X6 ca aY tally_often tally_latest)) := hd.adr
  have hS : va_S (adr ((W_X7 a aR aT aH aD aK aI aC aS aY lastTold) ++ (W_X1 ca aH heap_kinds heap_whos heap_toWhoms heap_topics heap_weights heap_answered heap_deeds heap_size heap_saidBits heap_deedCount) ++ (W_X0 ca aC company_tells) ++ (W_X6 ca aY tally_often tally_latest))) zs.heap zs.heap [] := va_S.rf
  have hl := lv_entry ([.ref (a 0), .int i, .int kind]) (n := 3) (Nat.le_of_ble_eq_true rfl)
  rw [lg_entry_eq]
  generalize (lg_sl ([.ref (a 0), .int i, .int kind]) ++ List.replicate (3 - (lg_sl ([.ref (a 0), .int i, .int kind])).length) Slot.unset).toArray = ls at hl ⊢
  replace hl : lv_has ls 3 [(0, .ref (a 0)), (1, .int i), (2, .int kind)] := hl
  show W zp l ze rm_X7_mark zs zm ([.ref (a 0), .int i, .int kind] : List Value).toArray zb zt zc zs.heap [] 0 0 (MQ zb (wrI (S := (Nat → Int32) × (Int32)) D ((W_X7 a aR aT aH aD aK aI aC aS aY lastTold) ++ (W_X1 ca aH heap_kinds heap_whos heap_toWhoms heap_topics heap_weights heap_answered heap_deeds heap_size heap_saidBits heap_deedCount) ++ (W_X0 ca aC company_tells) ++ (W_X6 ca aY tally_often tally_latest)) (fun u => (W_X7 a aR aT aH aD aK aI aC aS aY lastTold) ++ (W_X1 ca aH heap_kinds heap_whos heap_toWhoms heap_topics heap_weights heap_answered heap_deeds heap_size heap_saidBits heap_deedCount) ++ (W_X0 ca aC company_tells) ++ (W_X6 ca aY u.1 u.2)) (fun r u => post r u.1 u.2)) ([.ref (a 0), .int i, .int kind] : List Value).toArray zs 0 0 (adr ((W_X7 a aR aT aH aD aK aI aC aS aY lastTold) ++ (W_X1 ca aH heap_kinds heap_whos heap_toWhoms heap_topics heap_weights heap_answered heap_deeds heap_size heap_saidBits heap_deedCount) ++ (W_X0 ca aC company_tells) ++ (W_X6 ca aY tally_often tally_latest)))) (F0 zm 0 ls [])
  unfold wp_X7_mark at h
  refine lv_aload_n hx hb dX7_mark_0 rfl (lv_at hl 0 rfl) ?_
  refine va_get (D := D) (ci := 6) (v := .ref (aH 0)) (C := RX7) (T := TX7) (N := 10) hx hb hts hi_X7_mark_X7 hown hK.1 hP 0 rfl rfl 2 (by decide) (hts _ k_X7_mark_1) (fun _ h9 => h9) rfl dX7_mark_1 ?_
  refine lv_iload_n hx hb dX7_mark_4 rfl (lv_at hl 1 rfl) ?_
  refine rd_callz (va_runV (As := [.int i]) (rest := []) ⟨hx, hb, hml, hown, hts⟩ (c_X1_hasNumber l D ca aH heap_kinds heap_whos heap_toWhoms heap_topics heap_weights heap_answered heap_deeds heap_size heap_saidBits heap_deedCount i _ h) (cwV 1 hts gX7_mark_X1_hasNumber rfl rfl rfl (by decide +kernel) ⟨Nat.le_of_ble_eq_true rfl, Nat.le_of_ble_eq_true rfl⟩) (PcX.preV (q := (RX1, TX1, 10)) (ci := 1) (q0 := 1) hK hP rfl rfl (hP.subM [1, 2, 3, 4, 5, 6, 7, 8] rfl)) rfl rfl hl.1 rfl (lv_room (Nat.le_of_ble_eq_true rfl)) dX7_mark_5 ⟨Nat.le_of_ble_eq_true rfl, Nat.le_of_ble_eq_true rfl⟩) (fun r1 h hz_r1 => ?_)
  try dsimp only at h
  refine lv_if_eq (tgt := 21) hx hb dX7_mark_8 (by decide) (fun hc => ?_) (fun hc => ?_)
  · have h := h.1 hc
    refine lv_iconst (v := (-1)) hx hb dX7_mark_21 (by decide) ?_
    exact W.iret (v := (-1 : Int32)) hx hb hr (fun t ht hW => ⟨⟨(-1 : Int32), (tally_often, tally_latest), rfl, h, by rw [ht]; exact hP⟩, hS.F ht⟩) hS.2.2 dX7_mark_22
  · have h := h.2 hc
    refine lv_iload_n hx hb dX7_mark_11 rfl (lv_at hl 2 rfl) ?_
    refine lv_if_le (tgt := 21) hx hb dX7_mark_12 (by decide) (fun hc => ?_) (fun hc => ?_)
    · have h := h.1 hc
      refine lv_iconst (v := (-1)) hx hb dX7_mark_21 (by decide) ?_
      exact W.iret (v := (-1 : Int32)) hx hb hr (fun t ht hW => ⟨⟨(-1 : Int32), (tally_often, tally_latest), rfl, h, by rw [ht]; exact hP⟩, hS.F ht⟩) hS.2.2 dX7_mark_22
    · have h := h.2 hc
      refine lv_iload_n hx hb dX7_mark_15 rfl (lv_at hl 2 rfl) ?_
      refine lv_bipush (v := (6)) hx hb dX7_mark_16 (by decide) ?_
      refine lv_icmp_lt (tgt := 23) hx hb dX7_mark_18 (by decide) (fun hc => ?_) (fun hc => ?_)
      · have h := h.1 hc
        refine lv_aload_n hx hb dX7_mark_23 rfl (lv_at hl 0 rfl) ?_
        refine va_get (D := D) (ci := 6) (v := .ref (aH 0)) (C := RX7) (T := TX7) (N := 10) hx hb hts hi_X7_mark_X7 hown hK.1 hP 0 rfl rfl 2 (by decide) (hts _ k_X7_mark_1) (fun _ h9 => h9) rfl dX7_mark_24 ?_
        refine lv_iload_n hx hb dX7_mark_27 rfl (lv_at hl 1 rfl) ?_
        refine lv_iload_n hx hb dX7_mark_28 rfl (lv_at hl 2 rfl) ?_
        refine rd_callz (va_runV (As := [.int i, .int kind]) (rest := []) ⟨hx, hb, hml, hown, hts⟩ (c_X1_isOf l D ca aH heap_kinds heap_whos heap_toWhoms heap_topics heap_weights heap_answered heap_deeds heap_size heap_saidBits heap_deedCount i kind _ h) (cwV 2 hts gX7_mark_X1_isOf rfl rfl rfl (by decide +kernel) ⟨Nat.le_of_ble_eq_true rfl, Nat.le_of_ble_eq_true rfl⟩) (PcX.preV (q := (RX1, TX1, 10)) (ci := 1) (q0 := 1) hK hP rfl rfl (hP.subM [1, 2, 3, 4, 5, 6, 7, 8] rfl)) rfl rfl hl.1 rfl (lv_room (Nat.le_of_ble_eq_true rfl)) dX7_mark_29 ⟨Nat.le_of_ble_eq_true rfl, Nat.le_of_ble_eq_true rfl⟩) (fun r2 h hz_r2 => ?_)
        try dsimp only at h
        refine lv_if_ne (tgt := 44) hx hb dX7_mark_32 (by decide) (fun hc => ?_) (fun hc => ?_)
        · have h := h.1 hc
          refine lv_iload_n hx hb dX7_mark_44 rfl (lv_at hl 2 rfl) ?_
          by_cases hc0 : kind = 1
          · have h := h.1 hc0
            refine lv_tableIn (tgt := 76) hx hb dX7_mark_45 (by rw [hc0]; decide) (by rw [hc0]; decide) (by rw [hc0]; rfl) (by decide) ?_
            refine lv_aload_n hx hb dX7_mark_76 rfl (lv_at hl 0 rfl) ?_
            refine va_get (D := D) (ci := 6) (v := .ref (aH 0)) (C := RX7) (T := TX7) (N := 10) hx hb hts hi_X7_mark_X7 hown hK.1 hP 0 rfl rfl 2 (by decide) (hts _ k_X7_mark_1) (fun _ h9 => h9) rfl dX7_mark_77 ?_
            refine lv_iload_n hx hb dX7_mark_80 rfl (lv_at hl 1 rfl) ?_
            refine rd_calli (va_runV (As := [.int i]) (rest := []) ⟨hx, hb, hml, hown, hts⟩ (c_X1_others l D ca aH heap_kinds heap_whos heap_toWhoms heap_topics heap_weights heap_answered heap_deeds heap_size heap_saidBits heap_deedCount i _ h) (cwV 1 hts gX7_mark_X1_others rfl rfl rfl (by decide +kernel) ⟨Nat.le_of_ble_eq_true rfl, Nat.le_of_ble_eq_true rfl⟩) (PcX.preV (q := (RX1, TX1, 10)) (ci := 1) (q0 := 1) hK hP rfl rfl (hP.subM [1, 2, 3, 4, 5, 6, 7, 8] rfl)) rfl rfl hl.1 rfl (lv_room (Nat.le_of_ble_eq_true rfl)) dX7_mark_81 ⟨Nat.le_of_ble_eq_true rfl, Nat.le_of_ble_eq_true rfl⟩) (fun r3 h => ?_)
            try dsimp only at h
            refine lv_iload_n hx hb dX7_mark_84 rfl (lv_at hl 1 rfl) ?_
            refine rd_calli (va_runS (As := [.int i]) (rest := [.int r3]) ⟨hx, hb, hml, hown, hts⟩ (c_X7_bitsBelow l D ca   i _ h) (va_cwS 1 hts gX7_mark_X7_bitsBelow rfl rfl rfl (by decide +kernel) ⟨Nat.le_of_ble_eq_true rfl, Nat.le_of_ble_eq_true rfl⟩) (PcX.preS hK (fun k q h => by simp at h)) rfl rfl hl.1 rfl (lv_room (Nat.le_of_ble_eq_true rfl)) dX7_mark_85 ⟨Nat.le_of_ble_eq_true rfl, Nat.le_of_ble_eq_true rfl⟩) (fun r4 h => ?_)
            try dsimp only at h
            refine lv_iand hx hb dX7_mark_88 ?_
            refine rd_calli (va_runS (As := [.int (r3 &&& r4)]) (rest := []) ⟨hx, hb, hml, hown, hts⟩ (c_J6_bitCount_0f7a4 l D ca   (r3 &&& r4) _ h) (va_cwS 1 hts gX7_mark_J6_bitCount_0f7a4 rfl rfl rfl (by decide +kernel) ⟨Nat.le_of_ble_eq_true rfl, Nat.le_of_ble_eq_true rfl⟩) (PcX.preS hK (fun k q h => by simp at h)) rfl rfl hl.1 rfl (lv_room (Nat.le_of_ble_eq_true rfl)) dX7_mark_89 ⟨Nat.le_of_ble_eq_true rfl, Nat.le_of_ble_eq_true rfl⟩) (fun r5 h => ?_)
            try dsimp only at h
            exact W.iret (v := r5) hx hb hr (fun t ht hW => ⟨⟨r5, (tally_often, tally_latest), rfl, h, by rw [ht]; exact hP⟩, hS.F ht⟩) hS.2.2 dX7_mark_92
          · have h := h.2
            by_cases hc1 : kind = 2
            · have h := h.1 hc1
              refine lv_tableIn (tgt := 93) hx hb dX7_mark_45 (by rw [hc1]; decide) (by rw [hc1]; decide) (by rw [hc1]; rfl) (by decide) ?_
              refine lv_aload_n hx hb dX7_mark_93 rfl (lv_at hl 0 rfl) ?_
              refine va_get (D := D) (ci := 6) (v := .ref (aC 0)) (C := RX7) (T := TX7) (N := 10) hx hb hts hi_X7_mark_X7 hown hK.1 hP 0 rfl rfl 6 (by decide) (hts _ k_X7_mark_3) (fun _ h9 => h9) rfl dX7_mark_94 ?_
              refine lv_aload_n hx hb dX7_mark_97 rfl (lv_at hl 0 rfl) ?_
              refine va_get (D := D) (ci := 6) (v := .ref (aH 0)) (C := RX7) (T := TX7) (N := 10) hx hb hts hi_X7_mark_X7 hown hK.1 hP 0 rfl rfl 2 (by decide) (hts _ k_X7_mark_1) (fun _ h9 => h9) rfl dX7_mark_98 ?_
              refine lv_iload_n hx hb dX7_mark_101 rfl (lv_at hl 1 rfl) ?_
              refine rd_calli (va_runV (As := [.ref (aH 0), .int i]) (rest := []) ⟨hx, hb, hml, hown, hts⟩ (c_X0_suspects l D ca aC aH company_tells heap_kinds heap_whos heap_toWhoms heap_topics heap_weights heap_answered heap_deeds heap_size heap_saidBits heap_deedCount i _ h) (cwV 2 hts gX7_mark_X0_suspects rfl rfl rfl (by decide +kernel) ⟨Nat.le_of_ble_eq_true rfl, Nat.le_of_ble_eq_true rfl⟩) (PcX.preV (q := (RX0, TX0, 1)) (ci := 0) (q0 := 9) hK hP rfl rfl (hP.subM [9, 10, 1, 2, 3, 4, 5, 6, 7, 8] rfl)) rfl rfl hl.1 rfl (lv_room (Nat.le_of_ble_eq_true rfl)) dX7_mark_102 ⟨Nat.le_of_ble_eq_true rfl, Nat.le_of_ble_eq_true rfl⟩) (fun r6 h => ?_)
              try dsimp only at h
              refine rd_calli (va_runS (As := [.int r6]) (rest := []) ⟨hx, hb, hml, hown, hts⟩ (c_J6_bitCount_0f7a4 l D ca   r6 _ h) (va_cwS 1 hts gX7_mark_J6_bitCount_0f7a4 rfl rfl rfl (by decide +kernel) ⟨Nat.le_of_ble_eq_true rfl, Nat.le_of_ble_eq_true rfl⟩) (PcX.preS hK (fun k q h => by simp at h)) rfl rfl hl.1 rfl (lv_room (Nat.le_of_ble_eq_true rfl)) dX7_mark_105 ⟨Nat.le_of_ble_eq_true rfl, Nat.le_of_ble_eq_true rfl⟩) (fun r7 h => ?_)
              try dsimp only at h
              exact W.iret (v := r7) hx hb hr (fun t ht hW => ⟨⟨r7, (tally_often, tally_latest), rfl, h, by rw [ht]; exact hP⟩, hS.F ht⟩) hS.2.2 dX7_mark_108
            · have h := h.2
              by_cases hc2 : kind = 3
              · have h := h.1 hc2
                refine lv_tableIn (tgt := 109) hx hb dX7_mark_45 (by rw [hc2]; decide) (by rw [hc2]; decide) (by rw [hc2]; rfl) (by decide) ?_
                refine lv_aload_n hx hb dX7_mark_109 rfl (lv_at hl 0 rfl) ?_
                refine va_get (D := D) (ci := 6) (v := .ref (aH 0)) (C := RX7) (T := TX7) (N := 10) hx hb hts hi_X7_mark_X7 hown hK.1 hP 0 rfl rfl 2 (by decide) (hts _ k_X7_mark_1) (fun _ h9 => h9) rfl dX7_mark_110 ?_
                refine lv_iload_n hx hb dX7_mark_113 rfl (lv_at hl 1 rfl) ?_
                refine rd_calli (va_runV (As := [.int i]) (rest := []) ⟨hx, hb, hml, hown, hts⟩ (c_X1_priceNow l D ca aH heap_kinds heap_whos heap_toWhoms heap_topics heap_weights heap_answered heap_deeds heap_size heap_saidBits heap_deedCount i _ h) (cwV 1 hts gX7_mark_X1_priceNow rfl rfl rfl (by decide +kernel) ⟨Nat.le_of_ble_eq_true rfl, Nat.le_of_ble_eq_true rfl⟩) (PcX.preV (q := (RX1, TX1, 10)) (ci := 1) (q0 := 1) hK hP rfl rfl (hP.subM [1, 2, 3, 4, 5, 6, 7, 8] rfl)) rfl rfl hl.1 rfl (lv_room (Nat.le_of_ble_eq_true rfl)) dX7_mark_114 ⟨Nat.le_of_ble_eq_true rfl, Nat.le_of_ble_eq_true rfl⟩) (fun r8 h => ?_)
                try dsimp only at h
                refine lv_aload_n hx hb dX7_mark_117 rfl (lv_at hl 0 rfl) ?_
                refine va_get (D := D) (ci := 6) (v := .ref (aH 0)) (C := RX7) (T := TX7) (N := 10) hx hb hts hi_X7_mark_X7 hown hK.1 hP 0 rfl rfl 2 (by decide) (hts _ k_X7_mark_1) (fun _ h9 => h9) rfl dX7_mark_118 ?_
                refine lv_iload_n hx hb dX7_mark_121 rfl (lv_at hl 1 rfl) ?_
                refine rd_calli (va_runV (As := [.int i]) (rest := [.int r8]) ⟨hx, hb, hml, hown, hts⟩ (c_X1_heatNow l D ca aH heap_kinds heap_whos heap_toWhoms heap_topics heap_weights heap_answered heap_deeds heap_size heap_saidBits heap_deedCount i _ h) (cwV 1 hts gX7_mark_X1_heatNow rfl rfl rfl (by decide +kernel) ⟨Nat.le_of_ble_eq_true rfl, Nat.le_of_ble_eq_true rfl⟩) (PcX.preV (q := (RX1, TX1, 10)) (ci := 1) (q0 := 1) hK hP rfl rfl (hP.subM [1, 2, 3, 4, 5, 6, 7, 8] rfl)) rfl rfl hl.1 rfl (lv_room (Nat.le_of_ble_eq_true rfl)) dX7_mark_122 ⟨Nat.le_of_ble_eq_true rfl, Nat.le_of_ble_eq_true rfl⟩) (fun r9 h => ?_)
                try dsimp only at h
                refine lv_isub hx hb dX7_mark_125 ?_
                refine lv_aload_n hx hb dX7_mark_126 rfl (lv_at hl 0 rfl) ?_
                refine va_get (D := D) (ci := 6) (v := .ref (aH 0)) (C := RX7) (T := TX7) (N := 10) hx hb hts hi_X7_mark_X7 hown hK.1 hP 0 rfl rfl 2 (by decide) (hts _ k_X7_mark_1) (fun _ h9 => h9) rfl dX7_mark_127 ?_
                refine lv_iload_n hx hb dX7_mark_130 rfl (lv_at hl 1 rfl) ?_
                refine rd_calli (va_runV (As := [.int i]) (rest := [.int (r8 - r9)]) ⟨hx, hb, hml, hown, hts⟩ (c_X1_weightOf l D ca aH heap_kinds heap_whos heap_toWhoms heap_topics heap_weights heap_answered heap_deeds heap_size heap_saidBits heap_deedCount i _ h) (cwV 1 hts gX7_mark_X1_weightOf rfl rfl rfl (by decide +kernel) ⟨Nat.le_of_ble_eq_true rfl, Nat.le_of_ble_eq_true rfl⟩) (PcX.preV (q := (RX1, TX1, 10)) (ci := 1) (q0 := 1) hK hP rfl rfl (hP.subM [1, 2, 3, 4, 5, 6, 7, 8] rfl)) rfl rfl hl.1 rfl (lv_room (Nat.le_of_ble_eq_true rfl)) dX7_mark_131 ⟨Nat.le_of_ble_eq_true rfl, Nat.le_of_ble_eq_true rfl⟩) (fun r10 h => ?_)
                try dsimp only at h
                refine lv_isub hx hb dX7_mark_134 ?_
                refine lv_bipush (v := (100)) hx hb dX7_mark_135 (by decide) ?_
                refine lv_iadd hx hb dX7_mark_137 ?_
                exact W.iret (v := ((r8 - r9) - r10) + (100 : Int32)) hx hb hr (fun t ht hW => ⟨⟨((r8 - r9) - r10) + (100 : Int32), (tally_often, tally_latest), rfl, h, by rw [ht]; exact hP⟩, hS.F ht⟩) hS.2.2 dX7_mark_138
              · have h := h.2
                by_cases hc3 : kind = 4
                · have h := h.1 hc3
                  refine lv_tableIn (tgt := 139) hx hb dX7_mark_45 (by rw [hc3]; decide) (by rw [hc3]; decide) (by rw [hc3]; rfl) (by decide) ?_
                  refine lv_aload_n hx hb dX7_mark_139 rfl (lv_at hl 0 rfl) ?_
                  refine va_get (D := D) (ci := 6) (v := .ref (aH 0)) (C := RX7) (T := TX7) (N := 10) hx hb hts hi_X7_mark_X7 hown hK.1 hP 0 rfl rfl 2 (by decide) (hts _ k_X7_mark_1) (fun _ h9 => h9) rfl dX7_mark_140 ?_
                  refine lv_iload_n hx hb dX7_mark_143 rfl (lv_at hl 1 rfl) ?_
                  refine rd_calli (va_runV (As := [.int i]) (rest := []) ⟨hx, hb, hml, hown, hts⟩ (c_X1_answerers l D ca aH heap_kinds heap_whos heap_toWhoms heap_topics heap_weights heap_answered heap_deeds heap_size heap_saidBits heap_deedCount i _ h) (cwV 1 hts gX7_mark_X1_answerers rfl rfl rfl (by decide +kernel) ⟨Nat.le_of_ble_eq_true rfl, Nat.le_of_ble_eq_true rfl⟩) (PcX.preV (q := (RX1, TX1, 10)) (ci := 1) (q0 := 1) hK hP rfl rfl (hP.subM [1, 2, 3, 4, 5, 6, 7, 8] rfl)) rfl rfl hl.1 rfl (lv_room (Nat.le_of_ble_eq_true rfl)) dX7_mark_144 ⟨Nat.le_of_ble_eq_true rfl, Nat.le_of_ble_eq_true rfl⟩) (fun r11 h => ?_)
                  try dsimp only at h
                  refine lv_aload_n hx hb dX7_mark_147 rfl (lv_at hl 0 rfl) ?_
                  refine va_get (D := D) (ci := 6) (v := .ref (aH 0)) (C := RX7) (T := TX7) (N := 10) hx hb hts hi_X7_mark_X7 hown hK.1 hP 0 rfl rfl 2 (by decide) (hts _ k_X7_mark_1) (fun _ h9 => h9) rfl dX7_mark_148 ?_
                  refine rd_calli (va_runV (As := []) (rest := [.int r11]) ⟨hx, hb, hml, hown, hts⟩ (c_X1_saidBits l D ca aH heap_kinds heap_whos heap_toWhoms heap_topics heap_weights heap_answered heap_deeds heap_size heap_saidBits heap_deedCount  _ h) (cwV 0 hts gX7_mark_X1_saidBits rfl rfl rfl (by decide +kernel) ⟨Nat.le_of_ble_eq_true rfl, Nat.le_of_ble_eq_true rfl⟩) (PcX.preV (q := (RX1, TX1, 10)) (ci := 1) (q0 := 1) hK hP rfl rfl (hP.subM [1, 2, 3, 4, 5, 6, 7, 8] rfl)) rfl rfl hl.1 rfl (lv_room (Nat.le_of_ble_eq_true rfl)) dX7_mark_151 ⟨Nat.le_of_ble_eq_true rfl, Nat.le_of_ble_eq_true rfl⟩) (fun r12 h => ?_)
                  try dsimp only at h
                  refine lv_iand hx hb dX7_mark_154 ?_
                  refine rd_calli (va_runS (As := [.int (r11 &&& r12)]) (rest := []) ⟨hx, hb, hml, hown, hts⟩ (c_J6_bitCount_0f7a4 l D ca   (r11 &&& r12) _ h) (va_cwS 1 hts gX7_mark_J6_bitCount_0f7a4 rfl rfl rfl (by decide +kernel) ⟨Nat.le_of_ble_eq_true rfl, Nat.le_of_ble_eq_true rfl⟩) (PcX.preS hK (fun k q h => by simp at h)) rfl rfl hl.1 rfl (lv_room (Nat.le_of_ble_eq_true rfl)) dX7_mark_155 ⟨Nat.le_of_ble_eq_true rfl, Nat.le_of_ble_eq_true rfl⟩) (fun r13 h => ?_)
                  try dsimp only at h
                  exact W.iret (v := r13) hx hb hr (fun t ht hW => ⟨⟨r13, (tally_often, tally_latest), rfl, h, by rw [ht]; exact hP⟩, hS.F ht⟩) hS.2.2 dX7_mark_158
                · have h := h.2
                  have h := h hc0 hc1 hc2 hc3
                  have hsw : kind.toInt < 1 ∨ 4 < kind.toInt := x_swOutL 1 4 4 (by decide) (by decide) (by decide) (fun j hj => by rcases (show j = 0 ∨ j = 1 ∨ j = 2 ∨ j = 3 by omega) with rfl | rfl | rfl | rfl <;> assumption)
                  refine lv_tableOut (tgt := 159) hx hb dX7_mark_45 hsw (by decide) ?_
                  refine lv_aload_n hx hb dX7_mark_159 rfl (lv_at hl 0 rfl) ?_
                  refine va_get (D := D) (ci := 6) (v := .ref (aH 0)) (C := RX7) (T := TX7) (N := 10) hx hb hts hi_X7_mark_X7 hown hK.1 hP 0 rfl rfl 2 (by decide) (hts _ k_X7_mark_1) (fun _ h9 => h9) rfl dX7_mark_160 ?_
                  refine lv_iload_n hx hb dX7_mark_163 rfl (lv_at hl 1 rfl) ?_
                  refine rd_calli (va_runV (As := [.int i]) (rest := []) ⟨hx, hb, hml, hown, hts⟩ (c_X1_alikeInBundle l D ca aH heap_kinds heap_whos heap_toWhoms heap_topics heap_weights heap_answered heap_deeds heap_size heap_saidBits heap_deedCount i _ h) (cwV 1 hts gX7_mark_X1_alikeInBundle rfl rfl rfl (by decide +kernel) ⟨Nat.le_of_ble_eq_true rfl, Nat.le_of_ble_eq_true rfl⟩) (PcX.preV (q := (RX1, TX1, 10)) (ci := 1) (q0 := 1) hK hP rfl rfl (hP.subM [1, 2, 3, 4, 5, 6, 7, 8] rfl)) rfl rfl hl.1 rfl (lv_room (Nat.le_of_ble_eq_true rfl)) dX7_mark_164 ⟨Nat.le_of_ble_eq_true rfl, Nat.le_of_ble_eq_true rfl⟩) (fun r14 h => ?_)
                  try dsimp only at h
                  exact W.iret (v := r14) hx hb hr (fun t ht hW => ⟨⟨r14, (tally_often, tally_latest), rfl, h, by rw [ht]; exact hP⟩, hS.F ht⟩) hS.2.2 dX7_mark_167
        · have h := h.2 hc
          refine lv_aload_n hx hb dX7_mark_35 rfl (lv_at hl 0 rfl) ?_
          refine va_get (D := D) (ci := 6) (v := .ref (aY 0)) (C := RX7) (T := TX7) (N := 10) hx hb hts hi_X7_mark_X7 hown hK.1 hP 0 rfl rfl 8 (by decide) (hts _ k_X7_mark_2) (fun _ h9 => h9) rfl dX7_mark_36 ?_
          refine lv_iconst (v := (3)) hx hb dX7_mark_39 (by decide) ?_
          refine wr_calli (ws1 := fun u => (W_X7 a aR aT aH aD aK aI aC aS aY lastTold) ++ (W_X1 ca aH heap_kinds heap_whos heap_toWhoms heap_topics heap_weights heap_answered heap_deeds heap_size heap_saidBits heap_deedCount) ++ (W_X0 ca aC company_tells) ++ (W_X6 ca aY u.1 u.2)) (wr := ([0, 1, 2, 3, 4, 5, 6, 7, 8, 9, 10] : List Nat).filterMap (fun i => ((W_X7 a aR aT aH aD aK aI aC aS aY lastTold) ++ (W_X1 ca aH heap_kinds heap_whos heap_toWhoms heap_topics heap_weights heap_answered heap_deeds heap_size heap_saidBits heap_deedCount) ++ (W_X0 ca aC company_tells) ++ (W_X6 ca aY tally_often tally_latest) : va_W)[i]?)) (n := 13) (va_runV (As := [.int (3 : Int32)]) (rest := []) ⟨hx, hb, hml, hown, hts⟩ (c_X6_note l D ca aY tally_often tally_latest (3 : Int32) _ (hD.subM [11, 12] (by decide) rfl) h) (cwV 1 hts gX7_mark_X6_note rfl rfl rfl (by decide +kernel) ⟨Nat.le_of_ble_eq_true rfl, Nat.le_of_ble_eq_true rfl⟩) (PcX.preV (q := (RX6, TX6, 2)) (ci := 5) (q0 := 11) hK hP rfl rfl (hP.subM [11, 12] rfl)) rfl rfl hl.1 rfl (lv_room (Nat.le_of_ble_eq_true rfl)) dX7_mark_40 ⟨Nat.le_of_ble_eq_true rfl, Nat.le_of_ble_eq_true rfl⟩) hP hD hS [11, 12] [0, 1, 2, 3, 4, 5, 6, 7, 8, 9, 10] rfl (fun _ => rfl) rfl (fun _ => rfl) (fun _ => rfl) (fun _ => rfl) (by decide +kernel) (by decide +kernel) (fun r15 u H locs h hP hD hS => ?_)
          obtain ⟨tally_often_16, tally_latest_17⟩ := u
          have hP : va_P D vwCl ((W_X7 a aR aT aH aD aK aI aC aS aY lastTold) ++ (W_X1 ca aH heap_kinds heap_whos heap_toWhoms heap_topics heap_weights heap_answered heap_deeds heap_size heap_saidBits heap_deedCount) ++ (W_X0 ca aC company_tells) ++ (W_X6 ca aY tally_often_16 tally_latest_17)) H := hP
          have hD : va_D _ ((W_X7 a aR aT aH aD aK aI aC aS aY lastTold) ++ (W_X1 ca aH heap_kinds heap_whos heap_toWhoms heap_topics heap_weights heap_answered heap_deeds heap_size heap_saidBits heap_deedCount) ++ (W_X0 ca aC company_tells) ++ (W_X6 ca aY tally_often_16 tally_latest_17)) := hD
          try dsimp only at h
          exact W.iret (v := r15) hx hb hr (fun t ht hW => ⟨⟨r15, (tally_often_16, tally_latest_17), rfl, h, by rw [ht]; exact hP⟩, hS.F ht⟩) hS.2.2 dX7_mark_43
      · have h := h.2 hc
        refine lv_iconst (v := (-1)) hx hb dX7_mark_21 (by decide) ?_
        exact W.iret (v := (-1 : Int32)) hx hb hr (fun t ht hW => ⟨⟨(-1 : Int32), (tally_often, tally_latest), rfl, h, by rw [ht]; exact hP⟩, hS.F ht⟩) hS.2.2 dX7_mark_22

-- IronedQuarrels.say(IIII)I
def wb_X7_say_46 (kind : Int32) (told : Int32) (weight : Int32) (answers : Int32) (post : Int32 → (Nat → Int32) → (Nat → Int32) → (Nat → Int32) → (Nat → Int32) → (Nat → Int32) → (Nat → Int32) → (Nat → Int32) → (Int32) → (Int32) → (Int32) → Prop) (heap_kinds : Nat → Int32) (heap_whos : Nat → Int32) (heap_toWhoms : Nat → Int32) (heap_topics : Nat → Int32) (heap_weights : Nat → Int32) (heap_answered : Nat → Int32) (heap_deeds : Nat → Int32) (heap_size : Int32) (heap_saidBits : Int32) (heap_deedCount : Int32) : Prop :=
  (told < 0 → (post (-1 : Int32) heap_kinds heap_whos heap_toWhoms heap_topics heap_weights heap_answered heap_deeds heap_size heap_saidBits heap_deedCount)) ∧ (¬ told < 0 → (((6 : Int32) ≤ (told / (100 : Int32)) → (post (-1 : Int32) heap_kinds heap_whos heap_toWhoms heap_topics heap_weights heap_answered heap_deeds heap_size heap_saidBits heap_deedCount)) ∧ (¬ (6 : Int32) ≤ (told / (100 : Int32)) → (((6 : Int32) ≤ ((told / (10 : Int32)) - (told / (10 : Int32)) / (10 : Int32) * (10 : Int32)) → (post (-1 : Int32) heap_kinds heap_whos heap_toWhoms heap_topics heap_weights heap_answered heap_deeds heap_size heap_saidBits heap_deedCount)) ∧ (¬ (6 : Int32) ≤ ((told / (10 : Int32)) - (told / (10 : Int32)) / (10 : Int32) * (10 : Int32)) → (((told / (100 : Int32)) = ((told / (10 : Int32)) - (told / (10 : Int32)) / (10 : Int32) * (10 : Int32)) → (post (-1 : Int32) heap_kinds heap_whos heap_toWhoms heap_topics heap_weights heap_answered heap_deeds heap_size heap_saidBits heap_deedCount)) ∧ (¬ (told / (100 : Int32)) = ((told / (10 : Int32)) - (told / (10 : Int32)) / (10 : Int32) * (10 : Int32)) → (((told - told / (10 : Int32) * (10 : Int32)) < (6 : Int32) → (wp_X1_isFull heap_size (fun r2 => (¬ r2 = 0 → (post (-2 : Int32) heap_kinds heap_whos heap_toWhoms heap_topics heap_weights heap_answered heap_deeds heap_size heap_saidBits heap_deedCount)) ∧ (r2 = 0 → (wp_X1_deedsAreFull heap_deedCount (fun r3 => (r3 = 0 → (wp_X1_add heap_kinds heap_whos heap_toWhoms heap_topics heap_weights heap_answered heap_size heap_saidBits kind (told / (100 : Int32)) ((told / (10 : Int32)) - (told / (10 : Int32)) / (10 : Int32) * (10 : Int32)) (told - told / (10 : Int32) * (10 : Int32)) weight answers (fun heap_kinds_4 heap_whos_5 heap_toWhoms_6 heap_topics_7 heap_weights_8 heap_answered_9 heap_size_10 heap_saidBits_11 => wp_X1_noteComing heap_deeds heap_deedCount (fun heap_deeds_12 heap_deedCount_13 => wp_X1_howMany heap_size_10 (fun r14 => post (r14 - (1 : Int32)) heap_kinds_4 heap_whos_5 heap_toWhoms_6 heap_topics_7 heap_weights_8 heap_answered_9 heap_deeds_12 heap_size_10 heap_saidBits_11 heap_deedCount_13))))) ∧ (¬ r3 = 0 → (post (-2 : Int32) heap_kinds heap_whos heap_toWhoms heap_topics heap_weights heap_answered heap_deeds heap_size heap_saidBits heap_deedCount)))))))) ∧ (¬ (told - told / (10 : Int32) * (10 : Int32)) < (6 : Int32) → (post (-1 : Int32) heap_kinds heap_whos heap_toWhoms heap_topics heap_weights heap_answered heap_deeds heap_size heap_saidBits heap_deedCount))))))))))
def wp_X7_say (heap_kinds : Nat → Int32) (heap_whos : Nat → Int32) (heap_toWhoms : Nat → Int32) (heap_topics : Nat → Int32) (heap_weights : Nat → Int32) (heap_answered : Nat → Int32) (heap_deeds : Nat → Int32) (heap_size : Int32) (heap_saidBits : Int32) (heap_deedCount : Int32) (kind : Int32) (told : Int32) (weight : Int32) (answers : Int32) (post : Int32 → (Nat → Int32) → (Nat → Int32) → (Nat → Int32) → (Nat → Int32) → (Nat → Int32) → (Nat → Int32) → (Nat → Int32) → (Int32) → (Int32) → (Int32) → Prop) : Prop :=
  wp_X1_hasNumber heap_size answers (fun r1 => (kind < 0 → (post (-1 : Int32) heap_kinds heap_whos heap_toWhoms heap_topics heap_weights heap_answered heap_deeds heap_size heap_saidBits heap_deedCount)) ∧ (¬ kind < 0 → (((6 : Int32) ≤ kind → (post (-1 : Int32) heap_kinds heap_whos heap_toWhoms heap_topics heap_weights heap_answered heap_deeds heap_size heap_saidBits heap_deedCount)) ∧ (¬ (6 : Int32) ≤ kind → ((weight < (1 : Int32) → (post (-1 : Int32) heap_kinds heap_whos heap_toWhoms heap_topics heap_weights heap_answered heap_deeds heap_size heap_saidBits heap_deedCount)) ∧ (¬ weight < (1 : Int32) → (((9 : Int32) < weight → (post (-1 : Int32) heap_kinds heap_whos heap_toWhoms heap_topics heap_weights heap_answered heap_deeds heap_size heap_saidBits heap_deedCount)) ∧ (¬ (9 : Int32) < weight → ((¬ r1 = 0 → (wb_X7_say_46 kind told weight answers post heap_kinds heap_whos heap_toWhoms heap_topics heap_weights heap_answered heap_deeds heap_size heap_saidBits heap_deedCount)) ∧ (r1 = 0 → ((answers = (-9 : Int32) → (wb_X7_say_46 kind told weight answers post heap_kinds heap_whos heap_toWhoms heap_topics heap_weights heap_answered heap_deeds heap_size heap_saidBits heap_deedCount)) ∧ (¬ answers = (-9 : Int32) → (post (-1 : Int32) heap_kinds heap_whos heap_toWhoms heap_topics heap_weights heap_answered heap_deeds heap_size heap_saidBits heap_deedCount)))))))))))))
def rm_X7_say : Room := { frames := 3, cells := 0, slots := 0, locals := 61 }
theorem k_X7_say_1 : Cond.fieldLink RX7 24 "IronedQuarrels" "heap" "LIronedQuarrels$Heap;" ∈ wsX7_say := List.mem_of_getElem? (i := 1) (by decide +kernel)
theorem hi_X7_say_X1 : ∀ w ∈ wsX10, w ∈ wsX7_say := fun w h => List.mem_cons_of_mem _ (List.mem_append_right _ h)
theorem hi_X7_say_X7 : ∀ w ∈ wsX70, w ∈ wsX7_say := fun w h => List.mem_cons_of_mem _ (List.mem_append_left _ (List.mem_append_right _ h))
set_option maxHeartbeats 4000000 in
set_option maxRecDepth 100000 in
theorem c_X7_say (l : Launch) (D : va_G) (ca : Nat → ClassId) (a : Nat → Nat) (aR : Nat → Nat) (aT : Nat → Nat) (aH : Nat → Nat) (aD : Nat → Nat) (aK : Nat) (aI : Nat → Nat) (aC : Nat → Nat) (aS : Nat → Nat) (aY : Nat → Nat) (lastTold : Int32) (heap_kinds : Nat → Int32) (heap_whos : Nat → Int32) (heap_toWhoms : Nat → Int32) (heap_topics : Nat → Int32) (heap_weights : Nat → Int32) (heap_answered : Nat → Int32) (heap_deeds : Nat → Int32) (heap_size : Int32) (heap_saidBits : Int32) (heap_deedCount : Int32) (kind : Int32) (told : Int32) (weight : Int32) (answers : Int32) (post : Int32 → (Nat → Int32) → (Nat → Int32) → (Nat → Int32) → (Nat → Int32) → (Nat → Int32) → (Nat → Int32) → (Nat → Int32) → (Int32) → (Int32) → (Int32) → Prop) (hd : va_D (fun _ => True) ((W_X7 a aR aT aH aD aK aI aC aS aY lastTold) ++ (W_X1 ca aH heap_kinds heap_whos heap_toWhoms heap_topics heap_weights heap_answered heap_deeds heap_size heap_saidBits heap_deedCount))) (h : wp_X7_say heap_kinds heap_whos heap_toWhoms heap_topics heap_weights heap_answered heap_deeds heap_size heap_saidBits heap_deedCount kind told weight answers post) : Met l yX7_say wsX7_say rm_X7_say (PcX D ca [.ref (a 0), .int kind, .int told, .int weight, .int answers] ((W_X7 a aR aT aH aD aK aI aC aS aY lastTold) ++ (W_X1 ca aH heap_kinds heap_whos heap_toWhoms heap_topics heap_weights heap_answered heap_deeds heap_size heap_saidBits heap_deedCount))) (wrI (S := (Nat → Int32) × (Nat → Int32) × (Nat → Int32) × (Nat → Int32) × (Nat → Int32) × (Nat → Int32) × (Nat → Int32) × (Int32) × (Int32) × (Int32)) D ((W_X7 a aR aT aH aD aK aI aC aS aY lastTold) ++ (W_X1 ca aH heap_kinds heap_whos heap_toWhoms heap_topics heap_weights heap_answered heap_deeds heap_size heap_saidBits heap_deedCount)) (fun u => (W_X7 a aR aT aH aD aK aI aC aS aY lastTold) ++ (W_X1 ca aH u.1 u.2.1 u.2.2.1 u.2.2.2.1 u.2.2.2.2.1 u.2.2.2.2.2.1 u.2.2.2.2.2.2.1 u.2.2.2.2.2.2.2.1 u.2.2.2.2.2.2.2.2.1 u.2.2.2.2.2.2.2.2.2)) (fun r u => post r u.1 u.2.1 u.2.2.1 u.2.2.2.1 u.2.2.2.2.1 u.2.2.2.2.2.1 u.2.2.2.2.2.2.1 u.2.2.2.2.2.2.2.1 u.2.2.2.2.2.2.2.2.1 u.2.2.2.2.2.2.2.2.2)) 0 0 (adr ((W_X7 a aR aT aH aD aK aI aC aS aY lastTold) ++ (W_X1 ca aH heap_kinds heap_whos heap_toWhoms heap_topics heap_weights heap_answered heap_deeds heap_size heap_saidBits heap_deedCount))) := by
  refine Met.ofW (cc := cX7_say) (maxL := 9) (ret := (some .int)) (by decide) rfl ?_
  intro zp ze zs zm za zb zt zc z1 B hml hv
  obtain ⟨rfl, hP, hK⟩ := hv
  have hx := B.exec
  have hb := B.bytes
  have hr := B.returns
  have hts := atoms_spec (ws := wsX7_say) B.pre
  have hown : zs.vm.findClass RX7 = some zm.cls := findClass_of_methodNamed B.named
  have hlocks := B.notSynchronized
  have hD : va_D (adr ((W_X7 a aR aT aH aD aK aI aC aS aY lastTold) ++ (W_X1 ca aH heap_kinds heap_whos heap_toWhoms heap_topics heap_weights heap_answered heap_deeds heap_size heap_saidBits heap_deedCount))) ((W_X7 a aR aT aH aD aK aI aC aS aY lastTold) ++ (W_X1 ca aH heap_kinds heap_whos heap_toWhoms heap_topics heap_weights heap_answered heap_deeds heap_size heap_saidBits heap_deedCount)) := hd.adr
  have hS : va_S (adr ((W_X7 a aR aT aH aD aK aI aC aS aY lastTold) ++ (W_X1 ca aH heap_kinds heap_whos heap_toWhoms heap_topics heap_weights heap_answered heap_deeds heap_size heap_saidBits heap_deedCount))) zs.heap zs.heap [] := va_S.rf
  have hl := lv_entry ([.ref (a 0), .int kind, .int told, .int weight, .int answers]) (n := 9) (Nat.le_of_ble_eq_true rfl)
  rw [lg_entry_eq]
  generalize (lg_sl ([.ref (a 0), .int kind, .int told, .int weight, .int answers]) ++ List.replicate (9 - (lg_sl ([.ref (a 0), .int kind, .int told, .int weight, .int answers])).length) Slot.unset).toArray = ls at hl ⊢
  replace hl : lv_has ls 9 [(0, .ref (a 0)), (1, .int kind), (2, .int told), (3, .int weight), (4, .int answers)] := hl
  show W zp l ze rm_X7_say zs zm ([.ref (a 0), .int kind, .int told, .int weight, .int answers] : List Value).toArray zb zt zc zs.heap [] 0 0 (MQ zb (wrI (S := (Nat → Int32) × (Nat → Int32) × (Nat → Int32) × (Nat → Int32) × (Nat → Int32) × (Nat → Int32) × (Nat → Int32) × (Int32) × (Int32) × (Int32)) D ((W_X7 a aR aT aH aD aK aI aC aS aY lastTold) ++ (W_X1 ca aH heap_kinds heap_whos heap_toWhoms heap_topics heap_weights heap_answered heap_deeds heap_size heap_saidBits heap_deedCount)) (fun u => (W_X7 a aR aT aH aD aK aI aC aS aY lastTold) ++ (W_X1 ca aH u.1 u.2.1 u.2.2.1 u.2.2.2.1 u.2.2.2.2.1 u.2.2.2.2.2.1 u.2.2.2.2.2.2.1 u.2.2.2.2.2.2.2.1 u.2.2.2.2.2.2.2.2.1 u.2.2.2.2.2.2.2.2.2)) (fun r u => post r u.1 u.2.1 u.2.2.1 u.2.2.2.1 u.2.2.2.2.1 u.2.2.2.2.2.1 u.2.2.2.2.2.2.1 u.2.2.2.2.2.2.2.1 u.2.2.2.2.2.2.2.2.1 u.2.2.2.2.2.2.2.2.2)) ([.ref (a 0), .int kind, .int told, .int weight, .int answers] : List Value).toArray zs 0 0 (adr ((W_X7 a aR aT aH aD aK aI aC aS aY lastTold) ++ (W_X1 ca aH heap_kinds heap_whos heap_toWhoms heap_topics heap_weights heap_answered heap_deeds heap_size heap_saidBits heap_deedCount)))) (F0 zm 0 ls [])
  have w_46 : ∀ (heap_kinds : Nat → Int32) (heap_whos : Nat → Int32) (heap_toWhoms : Nat → Int32) (heap_topics : Nat → Int32) (heap_weights : Nat → Int32) (heap_answered : Nat → Int32) (heap_deeds : Nat → Int32) (heap_size : Int32) (heap_saidBits : Int32) (heap_deedCount : Int32), wb_X7_say_46 kind told weight answers post heap_kinds heap_whos heap_toWhoms heap_topics heap_weights heap_answered heap_deeds heap_size heap_saidBits heap_deedCount → ∀ (H : Heap) (locs : List Loc), va_P D vwCl ((W_X7 a aR aT aH aD aK aI aC aS aY lastTold) ++ (W_X1 ca aH heap_kinds heap_whos heap_toWhoms heap_topics heap_weights heap_answered heap_deeds heap_size heap_saidBits heap_deedCount)) H → va_D (adr ((W_X7 a aR aT aH aD aK aI aC aS aY lastTold) ++ (W_X1 ca aH heap_kinds heap_whos heap_toWhoms heap_topics heap_weights heap_answered heap_deeds heap_size heap_saidBits heap_deedCount))) ((W_X7 a aR aT aH aD aK aI aC aS aY lastTold) ++ (W_X1 ca aH heap_kinds heap_whos heap_toWhoms heap_topics heap_weights heap_answered heap_deeds heap_size heap_saidBits heap_deedCount)) → va_S (adr ((W_X7 a aR aT aH aD aK aI aC aS aY lastTold) ++ (W_X1 ca aH heap_kinds heap_whos heap_toWhoms heap_topics heap_weights heap_answered heap_deeds heap_size heap_saidBits heap_deedCount))) zs.heap H locs → ∀ ls : Array Slot, lv_has ls 9 [(0, .ref (a 0)), (1, .int kind), (2, .int told), (3, .int weight), (4, .int answers)] → W zp l ze rm_X7_say zs zm ([.ref (a 0), .int kind, .int told, .int weight, .int answers] : List Value).toArray zb zt zc H locs 0 0 (MQ zb (wrI (S := (Nat → Int32) × (Nat → Int32) × (Nat → Int32) × (Nat → Int32) × (Nat → Int32) × (Nat → Int32) × (Nat → Int32) × (Int32) × (Int32) × (Int32)) D ((W_X7 a aR aT aH aD aK aI aC aS aY lastTold) ++ (W_X1 ca aH heap_kinds heap_whos heap_toWhoms heap_topics heap_weights heap_answered heap_deeds heap_size heap_saidBits heap_deedCount)) (fun u => (W_X7 a aR aT aH aD aK aI aC aS aY lastTold) ++ (W_X1 ca aH u.1 u.2.1 u.2.2.1 u.2.2.2.1 u.2.2.2.2.1 u.2.2.2.2.2.1 u.2.2.2.2.2.2.1 u.2.2.2.2.2.2.2.1 u.2.2.2.2.2.2.2.2.1 u.2.2.2.2.2.2.2.2.2)) (fun r u => post r u.1 u.2.1 u.2.2.1 u.2.2.2.1 u.2.2.2.2.1 u.2.2.2.2.2.1 u.2.2.2.2.2.2.1 u.2.2.2.2.2.2.2.1 u.2.2.2.2.2.2.2.2.1 u.2.2.2.2.2.2.2.2.2)) ([.ref (a 0), .int kind, .int told, .int weight, .int answers] : List Value).toArray zs 0 0 (adr ((W_X7 a aR aT aH aD aK aI aC aS aY lastTold) ++ (W_X1 ca aH heap_kinds heap_whos heap_toWhoms heap_topics heap_weights heap_answered heap_deeds heap_size heap_saidBits heap_deedCount)))) (F0 zm 46 ls []) := by
    intro heap_kinds heap_whos heap_toWhoms heap_topics heap_weights heap_answered heap_deeds heap_size heap_saidBits heap_deedCount h H locs hP hD hS ls hl
    unfold wb_X7_say_46 at h
    refine lv_iload_n hx hb dX7_say_46 rfl (lv_at hl 2 rfl) ?_
    refine lv_bipush (v := (100)) hx hb dX7_say_47 (by decide) ?_
    refine lv_idiv hx hb dX7_say_49 (by decide) ?_
    refine lv_istore (lv' := [(6, .int (told / (100 : Int32))), (0, .ref (a 0)), (1, .int kind), (2, .int told), (3, .int weight), (4, .int answers)]) hx hb dX7_say_50 hl (by decide) rfl (fun ls hl => ?_)
    refine lv_iload_n hx hb dX7_say_52 rfl (lv_at hl 3 rfl) ?_
    refine lv_bipush (v := (10)) hx hb dX7_say_53 (by decide) ?_
    refine lv_idiv hx hb dX7_say_55 (by decide) ?_
    refine lv_bipush (v := (10)) hx hb dX7_say_56 (by decide) ?_
    refine lv_irem hx hb dX7_say_58 (by decide) ?_
    refine lv_istore (lv' := [(7, .int ((told / (10 : Int32)) - (told / (10 : Int32)) / (10 : Int32) * (10 : Int32))), (6, .int (told / (100 : Int32))), (0, .ref (a 0)), (1, .int kind), (2, .int told), (3, .int weight), (4, .int answers)]) hx hb dX7_say_59 hl (by decide) rfl (fun ls hl => ?_)
    refine lv_iload_n hx hb dX7_say_61 rfl (lv_at hl 4 rfl) ?_
    refine lv_bipush (v := (10)) hx hb dX7_say_62 (by decide) ?_
    refine lv_irem hx hb dX7_say_64 (by decide) ?_
    refine lv_istore (lv' := [(8, .int (told - told / (10 : Int32) * (10 : Int32))), (7, .int ((told / (10 : Int32)) - (told / (10 : Int32)) / (10 : Int32) * (10 : Int32))), (6, .int (told / (100 : Int32))), (0, .ref (a 0)), (1, .int kind), (2, .int told), (3, .int weight), (4, .int answers)]) hx hb dX7_say_65 hl (by decide) rfl (fun ls hl => ?_)
    refine lv_iload_n hx hb dX7_say_67 rfl (lv_at hl 5 rfl) ?_
    refine lv_if_lt (tgt := 99) hx hb dX7_say_68 (by decide) (fun hc => ?_) (fun hc => ?_)
    · have h := h.1 hc
      refine lv_iconst (v := (-1)) hx hb dX7_say_99 (by decide) ?_
      exact W.iret (v := (-1 : Int32)) hx hb hr (fun t ht hW => ⟨⟨(-1 : Int32), (heap_kinds, heap_whos, heap_toWhoms, heap_topics, heap_weights, heap_answered, heap_deeds, heap_size, heap_saidBits, heap_deedCount), rfl, h, by rw [ht]; exact hP⟩, hS.F ht⟩) hS.2.2 dX7_say_100
    · have h := h.2 hc
      refine lv_iload hx hb dX7_say_71 (lv_at hl 2 rfl) ?_
      refine lv_bipush (v := (6)) hx hb dX7_say_73 (by decide) ?_
      refine lv_icmp_ge (tgt := 99) hx hb dX7_say_75 (by decide) (fun hc => ?_) (fun hc => ?_)
      · have h := h.1 hc
        refine lv_iconst (v := (-1)) hx hb dX7_say_99 (by decide) ?_
        exact W.iret (v := (-1 : Int32)) hx hb hr (fun t ht hW => ⟨⟨(-1 : Int32), (heap_kinds, heap_whos, heap_toWhoms, heap_topics, heap_weights, heap_answered, heap_deeds, heap_size, heap_saidBits, heap_deedCount), rfl, h, by rw [ht]; exact hP⟩, hS.F ht⟩) hS.2.2 dX7_say_100
      · have h := h.2 hc
        refine lv_iload hx hb dX7_say_78 (lv_at hl 1 rfl) ?_
        refine lv_bipush (v := (6)) hx hb dX7_say_80 (by decide) ?_
        refine lv_icmp_ge (tgt := 99) hx hb dX7_say_82 (by decide) (fun hc => ?_) (fun hc => ?_)
        · have h := h.1 hc
          refine lv_iconst (v := (-1)) hx hb dX7_say_99 (by decide) ?_
          exact W.iret (v := (-1 : Int32)) hx hb hr (fun t ht hW => ⟨⟨(-1 : Int32), (heap_kinds, heap_whos, heap_toWhoms, heap_topics, heap_weights, heap_answered, heap_deeds, heap_size, heap_saidBits, heap_deedCount), rfl, h, by rw [ht]; exact hP⟩, hS.F ht⟩) hS.2.2 dX7_say_100
        · have h := h.2 hc
          refine lv_iload hx hb dX7_say_85 (lv_at hl 2 rfl) ?_
          refine lv_iload hx hb dX7_say_87 (lv_at hl 1 rfl) ?_
          refine lv_icmp_eq (tgt := 99) hx hb dX7_say_89 (by decide) (fun hc => ?_) (fun hc => ?_)
          · have h := h.1 hc
            refine lv_iconst (v := (-1)) hx hb dX7_say_99 (by decide) ?_
            exact W.iret (v := (-1 : Int32)) hx hb hr (fun t ht hW => ⟨⟨(-1 : Int32), (heap_kinds, heap_whos, heap_toWhoms, heap_topics, heap_weights, heap_answered, heap_deeds, heap_size, heap_saidBits, heap_deedCount), rfl, h, by rw [ht]; exact hP⟩, hS.F ht⟩) hS.2.2 dX7_say_100
          · have h := h.2 hc
            refine lv_iload hx hb dX7_say_92 (lv_at hl 0 rfl) ?_
            refine lv_bipush (v := (6)) hx hb dX7_say_94 (by decide) ?_
            refine lv_icmp_lt (tgt := 101) hx hb dX7_say_96 (by decide) (fun hc => ?_) (fun hc => ?_)
            · have h := h.1 hc
              refine lv_aload_n hx hb dX7_say_101 rfl (lv_at hl 3 rfl) ?_
              refine va_get (D := D) (ci := 6) (v := .ref (aH 0)) (C := RX7) (T := TX7) (N := 10) hx hb hts hi_X7_say_X7 hown hK.1 hP 0 rfl rfl 2 (by decide) (hts _ k_X7_say_1) (fun _ h9 => h9) rfl dX7_say_102 ?_
              refine rd_callz (va_runV (As := []) (rest := []) ⟨hx, hb, hml, hown, hts⟩ (c_X1_isFull l D ca aH heap_kinds heap_whos heap_toWhoms heap_topics heap_weights heap_answered heap_deeds heap_size heap_saidBits heap_deedCount  _ h) (cwV 0 hts gX7_say_X1_isFull rfl rfl rfl (by decide +kernel) ⟨Nat.le_of_ble_eq_true rfl, Nat.le_of_ble_eq_true rfl⟩) (PcX.preV (q := (RX1, TX1, 10)) (ci := 1) (q0 := 1) hK hP rfl rfl (hP.subM [1, 2, 3, 4, 5, 6, 7, 8] rfl)) rfl rfl hl.1 rfl (lv_room (Nat.le_of_ble_eq_true rfl)) dX7_say_105 ⟨Nat.le_of_ble_eq_true rfl, Nat.le_of_ble_eq_true rfl⟩) (fun r2 h hz_r2 => ?_)
              try dsimp only at h
              refine lv_if_ne (tgt := 121) hx hb dX7_say_108 (by decide) (fun hc => ?_) (fun hc => ?_)
              · have h := h.1 hc
                refine lv_bipush (v := (-2)) hx hb dX7_say_121 (by decide) ?_
                exact W.iret (v := (-2 : Int32)) hx hb hr (fun t ht hW => ⟨⟨(-2 : Int32), (heap_kinds, heap_whos, heap_toWhoms, heap_topics, heap_weights, heap_answered, heap_deeds, heap_size, heap_saidBits, heap_deedCount), rfl, h, by rw [ht]; exact hP⟩, hS.F ht⟩) hS.2.2 dX7_say_123
              · have h := h.2 hc
                refine lv_aload_n hx hb dX7_say_111 rfl (lv_at hl 3 rfl) ?_
                refine va_get (D := D) (ci := 6) (v := .ref (aH 0)) (C := RX7) (T := TX7) (N := 10) hx hb hts hi_X7_say_X7 hown hK.1 hP 0 rfl rfl 2 (by decide) (hts _ k_X7_say_1) (fun _ h9 => h9) rfl dX7_say_112 ?_
                refine rd_callz (va_runV (As := []) (rest := []) ⟨hx, hb, hml, hown, hts⟩ (c_X1_deedsAreFull l D ca aH heap_kinds heap_whos heap_toWhoms heap_topics heap_weights heap_answered heap_deeds heap_size heap_saidBits heap_deedCount  _ h) (cwV 0 hts gX7_say_X1_deedsAreFull rfl rfl rfl (by decide +kernel) ⟨Nat.le_of_ble_eq_true rfl, Nat.le_of_ble_eq_true rfl⟩) (PcX.preV (q := (RX1, TX1, 10)) (ci := 1) (q0 := 1) hK hP rfl rfl (hP.subM [1, 2, 3, 4, 5, 6, 7, 8] rfl)) rfl rfl hl.1 rfl (lv_room (Nat.le_of_ble_eq_true rfl)) dX7_say_115 ⟨Nat.le_of_ble_eq_true rfl, Nat.le_of_ble_eq_true rfl⟩) (fun r3 h hz_r3 => ?_)
                try dsimp only at h
                refine lv_if_eq (tgt := 124) hx hb dX7_say_118 (by decide) (fun hc => ?_) (fun hc => ?_)
                · have h := h.1 hc
                  refine lv_aload_n hx hb dX7_say_124 rfl (lv_at hl 3 rfl) ?_
                  refine va_get (D := D) (ci := 6) (v := .ref (aH 0)) (C := RX7) (T := TX7) (N := 10) hx hb hts hi_X7_say_X7 hown hK.1 hP 0 rfl rfl 2 (by decide) (hts _ k_X7_say_1) (fun _ h9 => h9) rfl dX7_say_125 ?_
                  refine lv_iload_n hx hb dX7_say_128 rfl (lv_at hl 4 rfl) ?_
                  refine lv_iload hx hb dX7_say_129 (lv_at hl 2 rfl) ?_
                  refine lv_iload hx hb dX7_say_131 (lv_at hl 1 rfl) ?_
                  refine lv_iload hx hb dX7_say_133 (lv_at hl 0 rfl) ?_
                  refine lv_iload_n hx hb dX7_say_135 rfl (lv_at hl 6 rfl) ?_
                  refine lv_iload hx hb dX7_say_136 (lv_at hl 7 rfl) ?_
                  refine wr_callv (ws1 := fun u => (W_X7 a aR aT aH aD aK aI aC aS aY lastTold) ++ (W_X1 ca aH u.1 u.2.1 u.2.2.1 u.2.2.2.1 u.2.2.2.2.1 u.2.2.2.2.2.1 heap_deeds u.2.2.2.2.2.2.1 u.2.2.2.2.2.2.2 heap_deedCount)) (wr := ([0] : List Nat).filterMap (fun i => ((W_X7 a aR aT aH aD aK aI aC aS aY lastTold) ++ (W_X1 ca aH heap_kinds heap_whos heap_toWhoms heap_topics heap_weights heap_answered heap_deeds heap_size heap_saidBits heap_deedCount) : va_W)[i]?)) (n := 9) (va_runV (As := [.int kind, .int (told / (100 : Int32)), .int ((told / (10 : Int32)) - (told / (10 : Int32)) / (10 : Int32) * (10 : Int32)), .int (told - told / (10 : Int32) * (10 : Int32)), .int weight, .int answers]) (rest := []) ⟨hx, hb, hml, hown, hts⟩ (c_X1_add l D ca aH heap_kinds heap_whos heap_toWhoms heap_topics heap_weights heap_answered heap_deeds heap_size heap_saidBits heap_deedCount kind (told / (100 : Int32)) ((told / (10 : Int32)) - (told / (10 : Int32)) / (10 : Int32) * (10 : Int32)) (told - told / (10 : Int32) * (10 : Int32)) weight answers _ (hD.subM [1, 2, 3, 4, 5, 6, 7, 8] (by decide) rfl) h) (cwV 6 hts gX7_say_X1_add rfl rfl rfl (by decide +kernel) ⟨Nat.le_of_ble_eq_true rfl, Nat.le_of_ble_eq_true rfl⟩) (PcX.preV (q := (RX1, TX1, 10)) (ci := 1) (q0 := 1) hK hP rfl rfl (hP.subM [1, 2, 3, 4, 5, 6, 7, 8] rfl)) rfl rfl hl.1 rfl (lv_room (Nat.le_of_ble_eq_true rfl)) dX7_say_138 ⟨Nat.le_of_ble_eq_true rfl, Nat.le_of_ble_eq_true rfl⟩) hP hD hS [1, 2, 3, 4, 5, 6, 7, 8] [0] rfl (fun _ => rfl) rfl (fun _ => rfl) (fun _ => rfl) (fun _ => rfl) (by decide +kernel) (by decide +kernel) (fun u H locs h hP hD hS => ?_)
                  obtain ⟨heap_kinds_4, heap_whos_5, heap_toWhoms_6, heap_topics_7, heap_weights_8, heap_answered_9, heap_size_10, heap_saidBits_11⟩ := u
                  have hP : va_P D vwCl ((W_X7 a aR aT aH aD aK aI aC aS aY lastTold) ++ (W_X1 ca aH heap_kinds_4 heap_whos_5 heap_toWhoms_6 heap_topics_7 heap_weights_8 heap_answered_9 heap_deeds heap_size_10 heap_saidBits_11 heap_deedCount)) H := hP
                  have hD : va_D _ ((W_X7 a aR aT aH aD aK aI aC aS aY lastTold) ++ (W_X1 ca aH heap_kinds_4 heap_whos_5 heap_toWhoms_6 heap_topics_7 heap_weights_8 heap_answered_9 heap_deeds heap_size_10 heap_saidBits_11 heap_deedCount)) := hD
                  try dsimp only at h
                  refine lv_aload_n hx hb dX7_say_141 rfl (lv_at hl 3 rfl) ?_
                  refine va_get (D := D) (ci := 6) (v := .ref (aH 0)) (C := RX7) (T := TX7) (N := 10) hx hb hts hi_X7_say_X7 hown hK.1 hP 0 rfl rfl 2 (by decide) (hts _ k_X7_say_1) (fun _ h9 => h9) rfl dX7_say_142 ?_
                  refine wr_callv (ws1 := fun u => (W_X7 a aR aT aH aD aK aI aC aS aY lastTold) ++ (W_X1 ca aH heap_kinds_4 heap_whos_5 heap_toWhoms_6 heap_topics_7 heap_weights_8 heap_answered_9 u.1 heap_size_10 heap_saidBits_11 u.2)) (wr := ([0] : List Nat).filterMap (fun i => ((W_X7 a aR aT aH aD aK aI aC aS aY lastTold) ++ (W_X1 ca aH heap_kinds_4 heap_whos_5 heap_toWhoms_6 heap_topics_7 heap_weights_8 heap_answered_9 heap_deeds heap_size_10 heap_saidBits_11 heap_deedCount) : va_W)[i]?)) (n := 9) (va_runV (As := []) (rest := []) ⟨hx, hb, hml, hown, hts⟩ (c_X1_noteComing l D ca aH heap_kinds_4 heap_whos_5 heap_toWhoms_6 heap_topics_7 heap_weights_8 heap_answered_9 heap_deeds heap_size_10 heap_saidBits_11 heap_deedCount  _ (hD.subM [1, 2, 3, 4, 5, 6, 7, 8] (by decide) rfl) h) (cwV 0 hts gX7_say_X1_noteComing rfl rfl rfl (by decide +kernel) ⟨Nat.le_of_ble_eq_true rfl, Nat.le_of_ble_eq_true rfl⟩) (PcX.preV (q := (RX1, TX1, 10)) (ci := 1) (q0 := 1) hK hP rfl rfl (hP.subM [1, 2, 3, 4, 5, 6, 7, 8] rfl)) rfl rfl hl.1 rfl (lv_room (Nat.le_of_ble_eq_true rfl)) dX7_say_145 ⟨Nat.le_of_ble_eq_true rfl, Nat.le_of_ble_eq_true rfl⟩) hP hD hS [1, 2, 3, 4, 5, 6, 7, 8] [0] rfl (fun _ => rfl) rfl (fun _ => rfl) (fun _ => rfl) (fun _ => rfl) (by decide +kernel) (by decide +kernel) (fun u H locs h hP hD hS => ?_)
                  obtain ⟨heap_deeds_12, heap_deedCount_13⟩ := u
                  have hP : va_P D vwCl ((W_X7 a aR aT aH aD aK aI aC aS aY lastTold) ++ (W_X1 ca aH heap_kinds_4 heap_whos_5 heap_toWhoms_6 heap_topics_7 heap_weights_8 heap_answered_9 heap_deeds_12 heap_size_10 heap_saidBits_11 heap_deedCount_13)) H := hP
                  have hD : va_D _ ((W_X7 a aR aT aH aD aK aI aC aS aY lastTold) ++ (W_X1 ca aH heap_kinds_4 heap_whos_5 heap_toWhoms_6 heap_topics_7 heap_weights_8 heap_answered_9 heap_deeds_12 heap_size_10 heap_saidBits_11 heap_deedCount_13)) := hD
                  try dsimp only at h
                  refine lv_aload_n hx hb dX7_say_148 rfl (lv_at hl 3 rfl) ?_
                  refine va_get (D := D) (ci := 6) (v := .ref (aH 0)) (C := RX7) (T := TX7) (N := 10) hx hb hts hi_X7_say_X7 hown hK.1 hP 0 rfl rfl 2 (by decide) (hts _ k_X7_say_1) (fun _ h9 => h9) rfl dX7_say_149 ?_
                  refine rd_calli (va_runV (As := []) (rest := []) ⟨hx, hb, hml, hown, hts⟩ (c_X1_howMany l D ca aH heap_kinds_4 heap_whos_5 heap_toWhoms_6 heap_topics_7 heap_weights_8 heap_answered_9 heap_deeds_12 heap_size_10 heap_saidBits_11 heap_deedCount_13  _ h) (cwV 0 hts gX7_say_X1_howMany rfl rfl rfl (by decide +kernel) ⟨Nat.le_of_ble_eq_true rfl, Nat.le_of_ble_eq_true rfl⟩) (PcX.preV (q := (RX1, TX1, 10)) (ci := 1) (q0 := 1) hK hP rfl rfl (hP.subM [1, 2, 3, 4, 5, 6, 7, 8] rfl)) rfl rfl hl.1 rfl (lv_room (Nat.le_of_ble_eq_true rfl)) dX7_say_152 ⟨Nat.le_of_ble_eq_true rfl, Nat.le_of_ble_eq_true rfl⟩) (fun r14 h => ?_)
                  try dsimp only at h
                  refine lv_iconst (v := (1)) hx hb dX7_say_155 (by decide) ?_
                  refine lv_isub hx hb dX7_say_156 ?_
                  exact W.iret (v := r14 - (1 : Int32)) hx hb hr (fun t ht hW => ⟨⟨r14 - (1 : Int32), (heap_kinds_4, heap_whos_5, heap_toWhoms_6, heap_topics_7, heap_weights_8, heap_answered_9, heap_deeds_12, heap_size_10, heap_saidBits_11, heap_deedCount_13), rfl, h, by rw [ht]; exact hP⟩, hS.F ht⟩) hS.2.2 dX7_say_157
                · have h := h.2 hc
                  refine lv_bipush (v := (-2)) hx hb dX7_say_121 (by decide) ?_
                  exact W.iret (v := (-2 : Int32)) hx hb hr (fun t ht hW => ⟨⟨(-2 : Int32), (heap_kinds, heap_whos, heap_toWhoms, heap_topics, heap_weights, heap_answered, heap_deeds, heap_size, heap_saidBits, heap_deedCount), rfl, h, by rw [ht]; exact hP⟩, hS.F ht⟩) hS.2.2 dX7_say_123
            · have h := h.2 hc
              refine lv_iconst (v := (-1)) hx hb dX7_say_99 (by decide) ?_
              exact W.iret (v := (-1 : Int32)) hx hb hr (fun t ht hW => ⟨⟨(-1 : Int32), (heap_kinds, heap_whos, heap_toWhoms, heap_topics, heap_weights, heap_answered, heap_deeds, heap_size, heap_saidBits, heap_deedCount), rfl, h, by rw [ht]; exact hP⟩, hS.F ht⟩) hS.2.2 dX7_say_100
  unfold wp_X7_say at h
  refine lv_aload_n hx hb dX7_say_0 rfl (lv_at hl 0 rfl) ?_
  refine va_get (D := D) (ci := 6) (v := .ref (aH 0)) (C := RX7) (T := TX7) (N := 10) hx hb hts hi_X7_say_X7 hown hK.1 hP 0 rfl rfl 2 (by decide) (hts _ k_X7_say_1) (fun _ h9 => h9) rfl dX7_say_1 ?_
  refine lv_iload hx hb dX7_say_4 (lv_at hl 4 rfl) ?_
  refine rd_callz (va_runV (As := [.int answers]) (rest := []) ⟨hx, hb, hml, hown, hts⟩ (c_X1_hasNumber l D ca aH heap_kinds heap_whos heap_toWhoms heap_topics heap_weights heap_answered heap_deeds heap_size heap_saidBits heap_deedCount answers _ h) (cwV 1 hts gX7_say_X1_hasNumber rfl rfl rfl (by decide +kernel) ⟨Nat.le_of_ble_eq_true rfl, Nat.le_of_ble_eq_true rfl⟩) (PcX.preV (q := (RX1, TX1, 10)) (ci := 1) (q0 := 1) hK hP rfl rfl (hP.subM [1, 2, 3, 4, 5, 6, 7, 8] rfl)) rfl rfl hl.1 rfl (lv_room (Nat.le_of_ble_eq_true rfl)) dX7_say_6 ⟨Nat.le_of_ble_eq_true rfl, Nat.le_of_ble_eq_true rfl⟩) (fun r1 h hz_r1 => ?_)
  try dsimp only at h
  refine lv_istore (lv' := [(5, .int r1), (0, .ref (a 0)), (1, .int kind), (2, .int told), (3, .int weight), (4, .int answers)]) hx hb dX7_say_9 hl (by decide) rfl (fun ls hl => ?_)
  refine lv_iload_n hx hb dX7_say_11 rfl (lv_at hl 2 rfl) ?_
  refine lv_if_lt (tgt := 44) hx hb dX7_say_12 (by decide) (fun hc => ?_) (fun hc => ?_)
  · have h := h.1 hc
    refine lv_iconst (v := (-1)) hx hb dX7_say_44 (by decide) ?_
    exact W.iret (v := (-1 : Int32)) hx hb hr (fun t ht hW => ⟨⟨(-1 : Int32), (heap_kinds, heap_whos, heap_toWhoms, heap_topics, heap_weights, heap_answered, heap_deeds, heap_size, heap_saidBits, heap_deedCount), rfl, h, by rw [ht]; exact hP⟩, hS.F ht⟩) hS.2.2 dX7_say_45
  · have h := h.2 hc
    refine lv_iload_n hx hb dX7_say_15 rfl (lv_at hl 2 rfl) ?_
    refine lv_bipush (v := (6)) hx hb dX7_say_16 (by decide) ?_
    refine lv_icmp_ge (tgt := 44) hx hb dX7_say_18 (by decide) (fun hc => ?_) (fun hc => ?_)
    · have h := h.1 hc
      refine lv_iconst (v := (-1)) hx hb dX7_say_44 (by decide) ?_
      exact W.iret (v := (-1 : Int32)) hx hb hr (fun t ht hW => ⟨⟨(-1 : Int32), (heap_kinds, heap_whos, heap_toWhoms, heap_topics, heap_weights, heap_answered, heap_deeds, heap_size, heap_saidBits, heap_deedCount), rfl, h, by rw [ht]; exact hP⟩, hS.F ht⟩) hS.2.2 dX7_say_45
    · have h := h.2 hc
      refine lv_iload_n hx hb dX7_say_21 rfl (lv_at hl 4 rfl) ?_
      refine lv_iconst (v := (1)) hx hb dX7_say_22 (by decide) ?_
      refine lv_icmp_lt (tgt := 44) hx hb dX7_say_23 (by decide) (fun hc => ?_) (fun hc => ?_)
      · have h := h.1 hc
        refine lv_iconst (v := (-1)) hx hb dX7_say_44 (by decide) ?_
        exact W.iret (v := (-1 : Int32)) hx hb hr (fun t ht hW => ⟨⟨(-1 : Int32), (heap_kinds, heap_whos, heap_toWhoms, heap_topics, heap_weights, heap_answered, heap_deeds, heap_size, heap_saidBits, heap_deedCount), rfl, h, by rw [ht]; exact hP⟩, hS.F ht⟩) hS.2.2 dX7_say_45
      · have h := h.2 hc
        refine lv_iload_n hx hb dX7_say_26 rfl (lv_at hl 4 rfl) ?_
        refine lv_bipush (v := (9)) hx hb dX7_say_27 (by decide) ?_
        refine lv_icmp_gt (tgt := 44) hx hb dX7_say_29 (by decide) (fun hc => ?_) (fun hc => ?_)
        · have h := h.1 hc
          refine lv_iconst (v := (-1)) hx hb dX7_say_44 (by decide) ?_
          exact W.iret (v := (-1 : Int32)) hx hb hr (fun t ht hW => ⟨⟨(-1 : Int32), (heap_kinds, heap_whos, heap_toWhoms, heap_topics, heap_weights, heap_answered, heap_deeds, heap_size, heap_saidBits, heap_deedCount), rfl, h, by rw [ht]; exact hP⟩, hS.F ht⟩) hS.2.2 dX7_say_45
        · have h := h.2 hc
          refine lv_iload hx hb dX7_say_32 (lv_at hl 0 rfl) ?_
          refine lv_if_ne (tgt := 46) hx hb dX7_say_34 (by decide) (fun hc => ?_) (fun hc => ?_)
          · have h := h.1 hc
            exact w_46  heap_kinds heap_whos heap_toWhoms heap_topics heap_weights heap_answered heap_deeds heap_size heap_saidBits heap_deedCount h _ _ hP hD hS ls (lv_sub hl [1, 2, 3, 4, 5] rfl)
          · have h := h.2 hc
            refine lv_iload hx hb dX7_say_37 (lv_at hl 5 rfl) ?_
            refine lv_bipush (v := (-9)) hx hb dX7_say_39 (by decide) ?_
            refine lv_icmp_eq (tgt := 46) hx hb dX7_say_41 (by decide) (fun hc => ?_) (fun hc => ?_)
            · have h := h.1 hc
              exact w_46  heap_kinds heap_whos heap_toWhoms heap_topics heap_weights heap_answered heap_deeds heap_size heap_saidBits heap_deedCount h _ _ hP hD hS ls (lv_sub hl [1, 2, 3, 4, 5] rfl)
            · have h := h.2 hc
              refine lv_iconst (v := (-1)) hx hb dX7_say_44 (by decide) ?_
              exact W.iret (v := (-1 : Int32)) hx hb hr (fun t ht hW => ⟨⟨(-1 : Int32), (heap_kinds, heap_whos, heap_toWhoms, heap_topics, heap_weights, heap_answered, heap_deeds, heap_size, heap_saidBits, heap_deedCount), rfl, h, by rw [ht]; exact hP⟩, hS.F ht⟩) hS.2.2 dX7_say_45

-- IronedQuarrels.unsay(I)I
def wp_X7_unsay (heap_kinds : Nat → Int32) (heap_whos : Nat → Int32) (heap_toWhoms : Nat → Int32) (heap_topics : Nat → Int32) (heap_weights : Nat → Int32) (heap_answered : Nat → Int32) (heap_deeds : Nat → Int32) (heap_size : Int32) (heap_saidBits : Int32) (heap_deedCount : Int32) (i : Int32) (post : Int32 → (Nat → Int32) → (Int32) → (Int32) → Prop) : Prop :=
  wp_X1_hasNumber heap_size i (fun r1 => (¬ r1 = 0 → (wp_X1_saidBits heap_saidBits (fun r2 => wp_X1_mayGo heap_kinds heap_answered heap_size i r2 (fun r3 => (¬ r3 = 0 → (wp_X1_deedsAreFull heap_deedCount (fun r4 => (r4 = 0 → (wp_X1_takeBack heap_kinds heap_whos heap_toWhoms heap_topics heap_weights heap_deeds heap_size heap_saidBits heap_deedCount i (fun r5 heap_deeds_6 heap_saidBits_7 heap_deedCount_8 => post r5 heap_deeds_6 heap_saidBits_7 heap_deedCount_8))) ∧ (¬ r4 = 0 → (post (-2 : Int32) heap_deeds heap_saidBits heap_deedCount))))) ∧ (r3 = 0 → (post (-4 : Int32) heap_deeds heap_saidBits heap_deedCount)))))) ∧ (r1 = 0 → (post (-1 : Int32) heap_deeds heap_saidBits heap_deedCount)))
def rm_X7_unsay : Room := { frames := 6, cells := 0, slots := 0, locals := 130 }
theorem k_X7_unsay_1 : Cond.fieldLink RX7 24 "IronedQuarrels" "heap" "LIronedQuarrels$Heap;" ∈ wsX7_unsay := List.mem_of_getElem? (i := 1) (by decide +kernel)
theorem hi_X7_unsay_X1 : ∀ w ∈ wsX10, w ∈ wsX7_unsay := fun w h => List.mem_cons_of_mem _ (List.mem_append_right _ h)
theorem hi_X7_unsay_X7 : ∀ w ∈ wsX70, w ∈ wsX7_unsay := fun w h => List.mem_cons_of_mem _ (List.mem_append_left _ (List.mem_append_right _ h))
set_option maxHeartbeats 4000000 in
set_option maxRecDepth 100000 in
theorem c_X7_unsay (l : Launch) (D : va_G) (ca : Nat → ClassId) (a : Nat → Nat) (aR : Nat → Nat) (aT : Nat → Nat) (aH : Nat → Nat) (aD : Nat → Nat) (aK : Nat) (aI : Nat → Nat) (aC : Nat → Nat) (aS : Nat → Nat) (aY : Nat → Nat) (lastTold : Int32) (heap_kinds : Nat → Int32) (heap_whos : Nat → Int32) (heap_toWhoms : Nat → Int32) (heap_topics : Nat → Int32) (heap_weights : Nat → Int32) (heap_answered : Nat → Int32) (heap_deeds : Nat → Int32) (heap_size : Int32) (heap_saidBits : Int32) (heap_deedCount : Int32) (i : Int32) (post : Int32 → (Nat → Int32) → (Int32) → (Int32) → Prop) (hd : va_D (fun _ => True) ((W_X7 a aR aT aH aD aK aI aC aS aY lastTold) ++ (W_X1 ca aH heap_kinds heap_whos heap_toWhoms heap_topics heap_weights heap_answered heap_deeds heap_size heap_saidBits heap_deedCount))) (h : wp_X7_unsay heap_kinds heap_whos heap_toWhoms heap_topics heap_weights heap_answered heap_deeds heap_size heap_saidBits heap_deedCount i post) : Met l yX7_unsay wsX7_unsay rm_X7_unsay (PcX D ca [.ref (a 0), .int i] ((W_X7 a aR aT aH aD aK aI aC aS aY lastTold) ++ (W_X1 ca aH heap_kinds heap_whos heap_toWhoms heap_topics heap_weights heap_answered heap_deeds heap_size heap_saidBits heap_deedCount))) (wrI (S := (Nat → Int32) × (Int32) × (Int32)) D ((W_X7 a aR aT aH aD aK aI aC aS aY lastTold) ++ (W_X1 ca aH heap_kinds heap_whos heap_toWhoms heap_topics heap_weights heap_answered heap_deeds heap_size heap_saidBits heap_deedCount)) (fun u => (W_X7 a aR aT aH aD aK aI aC aS aY lastTold) ++ (W_X1 ca aH heap_kinds heap_whos heap_toWhoms heap_topics heap_weights heap_answered u.1 heap_size u.2.1 u.2.2)) (fun r u => post r u.1 u.2.1 u.2.2)) 0 0 (adr ((W_X7 a aR aT aH aD aK aI aC aS aY lastTold) ++ (W_X1 ca aH heap_kinds heap_whos heap_toWhoms heap_topics heap_weights heap_answered heap_deeds heap_size heap_saidBits heap_deedCount))) := by
  refine Met.ofW (cc := cX7_unsay) (maxL := 2) (ret := (some .int)) (by decide) rfl ?_
  intro zp ze zs zm za zb zt zc z1 B hml hv
  obtain ⟨rfl, hP, hK⟩ := hv
  have hx := B.exec
  have hb := B.bytes
  have hr := B.returns
  have hts := atoms_spec (ws := wsX7_unsay) B.pre
  have hown : zs.vm.findClass RX7 = some zm.cls := findClass_of_methodNamed B.named
  have hlocks := B.notSynchronized
  have hD : va_D (adr ((W_X7 a aR aT aH aD aK aI aC aS aY lastTold) ++ (W_X1 ca aH heap_kinds heap_whos heap_toWhoms heap_topics heap_weights heap_answered heap_deeds heap_size heap_saidBits heap_deedCount))) ((W_X7 a aR aT aH aD aK aI aC aS aY lastTold) ++ (W_X1 ca aH heap_kinds heap_whos heap_toWhoms heap_topics heap_weights heap_answered heap_deeds heap_size heap_saidBits heap_deedCount)) := hd.adr
  have hS : va_S (adr ((W_X7 a aR aT aH aD aK aI aC aS aY lastTold) ++ (W_X1 ca aH heap_kinds heap_whos heap_toWhoms heap_topics heap_weights heap_answered heap_deeds heap_size heap_saidBits heap_deedCount))) zs.heap zs.heap [] := va_S.rf
  have hl := lv_entry ([.ref (a 0), .int i]) (n := 2) (Nat.le_of_ble_eq_true rfl)
  rw [lg_entry_eq]
  generalize (lg_sl ([.ref (a 0), .int i]) ++ List.replicate (2 - (lg_sl ([.ref (a 0), .int i])).length) Slot.unset).toArray = ls at hl ⊢
  replace hl : lv_has ls 2 [(0, .ref (a 0)), (1, .int i)] := hl
  show W zp l ze rm_X7_unsay zs zm ([.ref (a 0), .int i] : List Value).toArray zb zt zc zs.heap [] 0 0 (MQ zb (wrI (S := (Nat → Int32) × (Int32) × (Int32)) D ((W_X7 a aR aT aH aD aK aI aC aS aY lastTold) ++ (W_X1 ca aH heap_kinds heap_whos heap_toWhoms heap_topics heap_weights heap_answered heap_deeds heap_size heap_saidBits heap_deedCount)) (fun u => (W_X7 a aR aT aH aD aK aI aC aS aY lastTold) ++ (W_X1 ca aH heap_kinds heap_whos heap_toWhoms heap_topics heap_weights heap_answered u.1 heap_size u.2.1 u.2.2)) (fun r u => post r u.1 u.2.1 u.2.2)) ([.ref (a 0), .int i] : List Value).toArray zs 0 0 (adr ((W_X7 a aR aT aH aD aK aI aC aS aY lastTold) ++ (W_X1 ca aH heap_kinds heap_whos heap_toWhoms heap_topics heap_weights heap_answered heap_deeds heap_size heap_saidBits heap_deedCount)))) (F0 zm 0 ls [])
  unfold wp_X7_unsay at h
  refine lv_aload_n hx hb dX7_unsay_0 rfl (lv_at hl 0 rfl) ?_
  refine va_get (D := D) (ci := 6) (v := .ref (aH 0)) (C := RX7) (T := TX7) (N := 10) hx hb hts hi_X7_unsay_X7 hown hK.1 hP 0 rfl rfl 2 (by decide) (hts _ k_X7_unsay_1) (fun _ h9 => h9) rfl dX7_unsay_1 ?_
  refine lv_iload_n hx hb dX7_unsay_4 rfl (lv_at hl 1 rfl) ?_
  refine rd_callz (va_runV (As := [.int i]) (rest := []) ⟨hx, hb, hml, hown, hts⟩ (c_X1_hasNumber l D ca aH heap_kinds heap_whos heap_toWhoms heap_topics heap_weights heap_answered heap_deeds heap_size heap_saidBits heap_deedCount i _ h) (cwV 1 hts gX7_unsay_X1_hasNumber rfl rfl rfl (by decide +kernel) ⟨Nat.le_of_ble_eq_true rfl, Nat.le_of_ble_eq_true rfl⟩) (PcX.preV (q := (RX1, TX1, 10)) (ci := 1) (q0 := 1) hK hP rfl rfl (hP.subM [1, 2, 3, 4, 5, 6, 7, 8] rfl)) rfl rfl hl.1 rfl (lv_room (Nat.le_of_ble_eq_true rfl)) dX7_unsay_5 ⟨Nat.le_of_ble_eq_true rfl, Nat.le_of_ble_eq_true rfl⟩) (fun r1 h hz_r1 => ?_)
  try dsimp only at h
  refine lv_if_ne (tgt := 13) hx hb dX7_unsay_8 (by decide) (fun hc => ?_) (fun hc => ?_)
  · have h := h.1 hc
    refine lv_aload_n hx hb dX7_unsay_13 rfl (lv_at hl 0 rfl) ?_
    refine va_get (D := D) (ci := 6) (v := .ref (aH 0)) (C := RX7) (T := TX7) (N := 10) hx hb hts hi_X7_unsay_X7 hown hK.1 hP 0 rfl rfl 2 (by decide) (hts _ k_X7_unsay_1) (fun _ h9 => h9) rfl dX7_unsay_14 ?_
    refine lv_iload_n hx hb dX7_unsay_17 rfl (lv_at hl 1 rfl) ?_
    refine lv_aload_n hx hb dX7_unsay_18 rfl (lv_at hl 0 rfl) ?_
    refine va_get (D := D) (ci := 6) (v := .ref (aH 0)) (C := RX7) (T := TX7) (N := 10) hx hb hts hi_X7_unsay_X7 hown hK.1 hP 0 rfl rfl 2 (by decide) (hts _ k_X7_unsay_1) (fun _ h9 => h9) rfl dX7_unsay_19 ?_
    refine rd_calli (va_runV (As := []) (rest := [.int i, .ref (aH 0)]) ⟨hx, hb, hml, hown, hts⟩ (c_X1_saidBits l D ca aH heap_kinds heap_whos heap_toWhoms heap_topics heap_weights heap_answered heap_deeds heap_size heap_saidBits heap_deedCount  _ h) (cwV 0 hts gX7_unsay_X1_saidBits rfl rfl rfl (by decide +kernel) ⟨Nat.le_of_ble_eq_true rfl, Nat.le_of_ble_eq_true rfl⟩) (PcX.preV (q := (RX1, TX1, 10)) (ci := 1) (q0 := 1) hK hP rfl rfl (hP.subM [1, 2, 3, 4, 5, 6, 7, 8] rfl)) rfl rfl hl.1 rfl (lv_room (Nat.le_of_ble_eq_true rfl)) dX7_unsay_22 ⟨Nat.le_of_ble_eq_true rfl, Nat.le_of_ble_eq_true rfl⟩) (fun r2 h => ?_)
    try dsimp only at h
    refine rd_callz (va_runV (As := [.int i, .int r2]) (rest := []) ⟨hx, hb, hml, hown, hts⟩ (c_X1_mayGo l D ca aH heap_kinds heap_whos heap_toWhoms heap_topics heap_weights heap_answered heap_deeds heap_size heap_saidBits heap_deedCount i r2 _ h) (cwV 2 hts gX7_unsay_X1_mayGo rfl rfl rfl (by decide +kernel) ⟨Nat.le_of_ble_eq_true rfl, Nat.le_of_ble_eq_true rfl⟩) (PcX.preV (q := (RX1, TX1, 10)) (ci := 1) (q0 := 1) hK hP rfl rfl (hP.subM [1, 2, 3, 4, 5, 6, 7, 8] rfl)) rfl rfl hl.1 rfl (lv_room (Nat.le_of_ble_eq_true rfl)) dX7_unsay_25 ⟨Nat.le_of_ble_eq_true rfl, Nat.le_of_ble_eq_true rfl⟩) (fun r3 h hz_r3 => ?_)
    try dsimp only at h
    refine lv_if_ne (tgt := 34) hx hb dX7_unsay_28 (by decide) (fun hc => ?_) (fun hc => ?_)
    · have h := h.1 hc
      refine lv_aload_n hx hb dX7_unsay_34 rfl (lv_at hl 0 rfl) ?_
      refine va_get (D := D) (ci := 6) (v := .ref (aH 0)) (C := RX7) (T := TX7) (N := 10) hx hb hts hi_X7_unsay_X7 hown hK.1 hP 0 rfl rfl 2 (by decide) (hts _ k_X7_unsay_1) (fun _ h9 => h9) rfl dX7_unsay_35 ?_
      refine rd_callz (va_runV (As := []) (rest := []) ⟨hx, hb, hml, hown, hts⟩ (c_X1_deedsAreFull l D ca aH heap_kinds heap_whos heap_toWhoms heap_topics heap_weights heap_answered heap_deeds heap_size heap_saidBits heap_deedCount  _ h) (cwV 0 hts gX7_unsay_X1_deedsAreFull rfl rfl rfl (by decide +kernel) ⟨Nat.le_of_ble_eq_true rfl, Nat.le_of_ble_eq_true rfl⟩) (PcX.preV (q := (RX1, TX1, 10)) (ci := 1) (q0 := 1) hK hP rfl rfl (hP.subM [1, 2, 3, 4, 5, 6, 7, 8] rfl)) rfl rfl hl.1 rfl (lv_room (Nat.le_of_ble_eq_true rfl)) dX7_unsay_38 ⟨Nat.le_of_ble_eq_true rfl, Nat.le_of_ble_eq_true rfl⟩) (fun r4 h hz_r4 => ?_)
      try dsimp only at h
      refine lv_if_eq (tgt := 47) hx hb dX7_unsay_41 (by decide) (fun hc => ?_) (fun hc => ?_)
      · have h := h.1 hc
        refine lv_aload_n hx hb dX7_unsay_47 rfl (lv_at hl 0 rfl) ?_
        refine va_get (D := D) (ci := 6) (v := .ref (aH 0)) (C := RX7) (T := TX7) (N := 10) hx hb hts hi_X7_unsay_X7 hown hK.1 hP 0 rfl rfl 2 (by decide) (hts _ k_X7_unsay_1) (fun _ h9 => h9) rfl dX7_unsay_48 ?_
        refine lv_iload_n hx hb dX7_unsay_51 rfl (lv_at hl 1 rfl) ?_
        refine wr_calli (ws1 := fun u => (W_X7 a aR aT aH aD aK aI aC aS aY lastTold) ++ (W_X1 ca aH heap_kinds heap_whos heap_toWhoms heap_topics heap_weights heap_answered u.1 heap_size u.2.1 u.2.2)) (wr := ([0] : List Nat).filterMap (fun i => ((W_X7 a aR aT aH aD aK aI aC aS aY lastTold) ++ (W_X1 ca aH heap_kinds heap_whos heap_toWhoms heap_topics heap_weights heap_answered heap_deeds heap_size heap_saidBits heap_deedCount) : va_W)[i]?)) (n := 9) (va_runV (As := [.int i]) (rest := []) ⟨hx, hb, hml, hown, hts⟩ (c_X1_takeBack l D ca aH heap_kinds heap_whos heap_toWhoms heap_topics heap_weights heap_answered heap_deeds heap_size heap_saidBits heap_deedCount i _ (hD.subM [1, 2, 3, 4, 5, 6, 7, 8] (by decide) rfl) h) (cwV 1 hts gX7_unsay_X1_takeBack rfl rfl rfl (by decide +kernel) ⟨Nat.le_of_ble_eq_true rfl, Nat.le_of_ble_eq_true rfl⟩) (PcX.preV (q := (RX1, TX1, 10)) (ci := 1) (q0 := 1) hK hP rfl rfl (hP.subM [1, 2, 3, 4, 5, 6, 7, 8] rfl)) rfl rfl hl.1 rfl (lv_room (Nat.le_of_ble_eq_true rfl)) dX7_unsay_52 ⟨Nat.le_of_ble_eq_true rfl, Nat.le_of_ble_eq_true rfl⟩) hP hD hS [1, 2, 3, 4, 5, 6, 7, 8] [0] rfl (fun _ => rfl) rfl (fun _ => rfl) (fun _ => rfl) (fun _ => rfl) (by decide +kernel) (by decide +kernel) (fun r5 u H locs h hP hD hS => ?_)
        obtain ⟨heap_deeds_6, heap_saidBits_7, heap_deedCount_8⟩ := u
        have hP : va_P D vwCl ((W_X7 a aR aT aH aD aK aI aC aS aY lastTold) ++ (W_X1 ca aH heap_kinds heap_whos heap_toWhoms heap_topics heap_weights heap_answered heap_deeds_6 heap_size heap_saidBits_7 heap_deedCount_8)) H := hP
        have hD : va_D _ ((W_X7 a aR aT aH aD aK aI aC aS aY lastTold) ++ (W_X1 ca aH heap_kinds heap_whos heap_toWhoms heap_topics heap_weights heap_answered heap_deeds_6 heap_size heap_saidBits_7 heap_deedCount_8)) := hD
        try dsimp only at h
        exact W.iret (v := r5) hx hb hr (fun t ht hW => ⟨⟨r5, (heap_deeds_6, heap_saidBits_7, heap_deedCount_8), rfl, h, by rw [ht]; exact hP⟩, hS.F ht⟩) hS.2.2 dX7_unsay_55
      · have h := h.2 hc
        refine lv_bipush (v := (-2)) hx hb dX7_unsay_44 (by decide) ?_
        exact W.iret (v := (-2 : Int32)) hx hb hr (fun t ht hW => ⟨⟨(-2 : Int32), (heap_deeds, heap_saidBits, heap_deedCount), rfl, h, by rw [ht]; exact hP⟩, hS.F ht⟩) hS.2.2 dX7_unsay_46
    · have h := h.2 hc
      refine lv_bipush (v := (-4)) hx hb dX7_unsay_31 (by decide) ?_
      exact W.iret (v := (-4 : Int32)) hx hb hr (fun t ht hW => ⟨⟨(-4 : Int32), (heap_deeds, heap_saidBits, heap_deedCount), rfl, h, by rw [ht]; exact hP⟩, hS.F ht⟩) hS.2.2 dX7_unsay_33
  · have h := h.2 hc
    refine lv_iconst (v := (-1)) hx hb dX7_unsay_11 (by decide) ?_
    exact W.iret (v := (-1 : Int32)) hx hb hr (fun t ht hW => ⟨⟨(-1 : Int32), (heap_deeds, heap_saidBits, heap_deedCount), rfl, h, by rw [ht]; exact hP⟩, hS.F ht⟩) hS.2.2 dX7_unsay_12

-- IronedQuarrels.undo(I)I
def wp_X7_undo (heap_deeds : Nat → Int32) (heap_size : Int32) (heap_saidBits : Int32) (heap_deedCount : Int32) (n : Int32) (post : Int32 → (Int32) → (Int32) → (Int32) → Prop) : Prop :=
  wp_X1_howManyDeeds heap_deedCount (fun r1 => (n < 0 → (post (-1 : Int32) heap_size heap_saidBits heap_deedCount)) ∧ (¬ n < 0 → ((n ≤ r1 → (wp_X1_undoFrom heap_deeds heap_size heap_saidBits heap_deedCount n (fun heap_size_2 heap_saidBits_3 heap_deedCount_4 => post (r1 - n) heap_size_2 heap_saidBits_3 heap_deedCount_4))) ∧ (¬ n ≤ r1 → (post (-1 : Int32) heap_size heap_saidBits heap_deedCount)))))
def rm_X7_undo : Room := { frames := 2, cells := 0, slots := 0, locals := 42 }
theorem k_X7_undo_1 : Cond.fieldLink RX7 24 "IronedQuarrels" "heap" "LIronedQuarrels$Heap;" ∈ wsX7_undo := List.mem_of_getElem? (i := 1) (by decide +kernel)
theorem hi_X7_undo_X1 : ∀ w ∈ wsX10, w ∈ wsX7_undo := fun w h => List.mem_cons_of_mem _ (List.mem_append_right _ h)
theorem hi_X7_undo_X7 : ∀ w ∈ wsX70, w ∈ wsX7_undo := fun w h => List.mem_cons_of_mem _ (List.mem_append_left _ (List.mem_append_right _ h))
set_option maxHeartbeats 4000000 in
set_option maxRecDepth 100000 in
theorem c_X7_undo (l : Launch) (D : va_G) (ca : Nat → ClassId) (a : Nat → Nat) (aR : Nat → Nat) (aT : Nat → Nat) (aH : Nat → Nat) (aD : Nat → Nat) (aK : Nat) (aI : Nat → Nat) (aC : Nat → Nat) (aS : Nat → Nat) (aY : Nat → Nat) (lastTold : Int32) (heap_kinds : Nat → Int32) (heap_whos : Nat → Int32) (heap_toWhoms : Nat → Int32) (heap_topics : Nat → Int32) (heap_weights : Nat → Int32) (heap_answered : Nat → Int32) (heap_deeds : Nat → Int32) (heap_size : Int32) (heap_saidBits : Int32) (heap_deedCount : Int32) (n : Int32) (post : Int32 → (Int32) → (Int32) → (Int32) → Prop) (hd : va_D (fun _ => True) ((W_X7 a aR aT aH aD aK aI aC aS aY lastTold) ++ (W_X1 ca aH heap_kinds heap_whos heap_toWhoms heap_topics heap_weights heap_answered heap_deeds heap_size heap_saidBits heap_deedCount))) (h : wp_X7_undo heap_deeds heap_size heap_saidBits heap_deedCount n post) : Met l yX7_undo wsX7_undo rm_X7_undo (PcX D ca [.ref (a 0), .int n] ((W_X7 a aR aT aH aD aK aI aC aS aY lastTold) ++ (W_X1 ca aH heap_kinds heap_whos heap_toWhoms heap_topics heap_weights heap_answered heap_deeds heap_size heap_saidBits heap_deedCount))) (wrI (S := (Int32) × (Int32) × (Int32)) D ((W_X7 a aR aT aH aD aK aI aC aS aY lastTold) ++ (W_X1 ca aH heap_kinds heap_whos heap_toWhoms heap_topics heap_weights heap_answered heap_deeds heap_size heap_saidBits heap_deedCount)) (fun u => (W_X7 a aR aT aH aD aK aI aC aS aY lastTold) ++ (W_X1 ca aH heap_kinds heap_whos heap_toWhoms heap_topics heap_weights heap_answered heap_deeds u.1 u.2.1 u.2.2)) (fun r u => post r u.1 u.2.1 u.2.2)) 0 0 (adr ((W_X7 a aR aT aH aD aK aI aC aS aY lastTold) ++ (W_X1 ca aH heap_kinds heap_whos heap_toWhoms heap_topics heap_weights heap_answered heap_deeds heap_size heap_saidBits heap_deedCount))) := by
  refine Met.ofW (cc := cX7_undo) (maxL := 3) (ret := (some .int)) (by decide) rfl ?_
  intro zp ze zs zm za zb zt zc z1 B hml hv
  obtain ⟨rfl, hP, hK⟩ := hv
  have hx := B.exec
  have hb := B.bytes
  have hr := B.returns
  have hts := atoms_spec (ws := wsX7_undo) B.pre
  have hown : zs.vm.findClass RX7 = some zm.cls := findClass_of_methodNamed B.named
  have hlocks := B.notSynchronized
  have hD : va_D (adr ((W_X7 a aR aT aH aD aK aI aC aS aY lastTold) ++ (W_X1 ca aH heap_kinds heap_whos heap_toWhoms heap_topics heap_weights heap_answered heap_deeds heap_size heap_saidBits heap_deedCount))) ((W_X7 a aR aT aH aD aK aI aC aS aY lastTold) ++ (W_X1 ca aH heap_kinds heap_whos heap_toWhoms heap_topics heap_weights heap_answered heap_deeds heap_size heap_saidBits heap_deedCount)) := hd.adr
  have hS : va_S (adr ((W_X7 a aR aT aH aD aK aI aC aS aY lastTold) ++ (W_X1 ca aH heap_kinds heap_whos heap_toWhoms heap_topics heap_weights heap_answered heap_deeds heap_size heap_saidBits heap_deedCount))) zs.heap zs.heap [] := va_S.rf
  have hl := lv_entry ([.ref (a 0), .int n]) (n := 3) (Nat.le_of_ble_eq_true rfl)
  rw [lg_entry_eq]
  generalize (lg_sl ([.ref (a 0), .int n]) ++ List.replicate (3 - (lg_sl ([.ref (a 0), .int n])).length) Slot.unset).toArray = ls at hl ⊢
  replace hl : lv_has ls 3 [(0, .ref (a 0)), (1, .int n)] := hl
  show W zp l ze rm_X7_undo zs zm ([.ref (a 0), .int n] : List Value).toArray zb zt zc zs.heap [] 0 0 (MQ zb (wrI (S := (Int32) × (Int32) × (Int32)) D ((W_X7 a aR aT aH aD aK aI aC aS aY lastTold) ++ (W_X1 ca aH heap_kinds heap_whos heap_toWhoms heap_topics heap_weights heap_answered heap_deeds heap_size heap_saidBits heap_deedCount)) (fun u => (W_X7 a aR aT aH aD aK aI aC aS aY lastTold) ++ (W_X1 ca aH heap_kinds heap_whos heap_toWhoms heap_topics heap_weights heap_answered heap_deeds u.1 u.2.1 u.2.2)) (fun r u => post r u.1 u.2.1 u.2.2)) ([.ref (a 0), .int n] : List Value).toArray zs 0 0 (adr ((W_X7 a aR aT aH aD aK aI aC aS aY lastTold) ++ (W_X1 ca aH heap_kinds heap_whos heap_toWhoms heap_topics heap_weights heap_answered heap_deeds heap_size heap_saidBits heap_deedCount)))) (F0 zm 0 ls [])
  unfold wp_X7_undo at h
  refine lv_aload_n hx hb dX7_undo_0 rfl (lv_at hl 0 rfl) ?_
  refine va_get (D := D) (ci := 6) (v := .ref (aH 0)) (C := RX7) (T := TX7) (N := 10) hx hb hts hi_X7_undo_X7 hown hK.1 hP 0 rfl rfl 2 (by decide) (hts _ k_X7_undo_1) (fun _ h9 => h9) rfl dX7_undo_1 ?_
  refine rd_calli (va_runV (As := []) (rest := []) ⟨hx, hb, hml, hown, hts⟩ (c_X1_howManyDeeds l D ca aH heap_kinds heap_whos heap_toWhoms heap_topics heap_weights heap_answered heap_deeds heap_size heap_saidBits heap_deedCount  _ h) (cwV 0 hts gX7_undo_X1_howManyDeeds rfl rfl rfl (by decide +kernel) ⟨Nat.le_of_ble_eq_true rfl, Nat.le_of_ble_eq_true rfl⟩) (PcX.preV (q := (RX1, TX1, 10)) (ci := 1) (q0 := 1) hK hP rfl rfl (hP.subM [1, 2, 3, 4, 5, 6, 7, 8] rfl)) rfl rfl hl.1 rfl (lv_room (Nat.le_of_ble_eq_true rfl)) dX7_undo_4 ⟨Nat.le_of_ble_eq_true rfl, Nat.le_of_ble_eq_true rfl⟩) (fun r1 h => ?_)
  try dsimp only at h
  refine lv_istore_n (lv' := [(2, .int r1), (0, .ref (a 0)), (1, .int n)]) hx hb dX7_undo_7 rfl hl (by decide) rfl (fun ls hl => ?_)
  refine lv_iload_n hx hb dX7_undo_8 rfl (lv_at hl 2 rfl) ?_
  refine lv_if_lt (tgt := 17) hx hb dX7_undo_9 (by decide) (fun hc => ?_) (fun hc => ?_)
  · have h := h.1 hc
    refine lv_iconst (v := (-1)) hx hb dX7_undo_17 (by decide) ?_
    exact W.iret (v := (-1 : Int32)) hx hb hr (fun t ht hW => ⟨⟨(-1 : Int32), (heap_size, heap_saidBits, heap_deedCount), rfl, h, by rw [ht]; exact hP⟩, hS.F ht⟩) hS.2.2 dX7_undo_18
  · have h := h.2 hc
    refine lv_iload_n hx hb dX7_undo_12 rfl (lv_at hl 2 rfl) ?_
    refine lv_iload_n hx hb dX7_undo_13 rfl (lv_at hl 0 rfl) ?_
    refine lv_icmp_le (tgt := 19) hx hb dX7_undo_14 (by decide) (fun hc => ?_) (fun hc => ?_)
    · have h := h.1 hc
      refine lv_aload_n hx hb dX7_undo_19 rfl (lv_at hl 1 rfl) ?_
      refine va_get (D := D) (ci := 6) (v := .ref (aH 0)) (C := RX7) (T := TX7) (N := 10) hx hb hts hi_X7_undo_X7 hown hK.1 hP 0 rfl rfl 2 (by decide) (hts _ k_X7_undo_1) (fun _ h9 => h9) rfl dX7_undo_20 ?_
      refine lv_iload_n hx hb dX7_undo_23 rfl (lv_at hl 2 rfl) ?_
      refine wr_callv (ws1 := fun u => (W_X7 a aR aT aH aD aK aI aC aS aY lastTold) ++ (W_X1 ca aH heap_kinds heap_whos heap_toWhoms heap_topics heap_weights heap_answered heap_deeds u.1 u.2.1 u.2.2)) (wr := ([0] : List Nat).filterMap (fun i => ((W_X7 a aR aT aH aD aK aI aC aS aY lastTold) ++ (W_X1 ca aH heap_kinds heap_whos heap_toWhoms heap_topics heap_weights heap_answered heap_deeds heap_size heap_saidBits heap_deedCount) : va_W)[i]?)) (n := 9) (va_runV (As := [.int n]) (rest := []) ⟨hx, hb, hml, hown, hts⟩ (c_X1_undoFrom l D ca aH heap_kinds heap_whos heap_toWhoms heap_topics heap_weights heap_answered heap_deeds heap_size heap_saidBits heap_deedCount n _ (hD.subM [1, 2, 3, 4, 5, 6, 7, 8] (by decide) rfl) h) (cwV 1 hts gX7_undo_X1_undoFrom rfl rfl rfl (by decide +kernel) ⟨Nat.le_of_ble_eq_true rfl, Nat.le_of_ble_eq_true rfl⟩) (PcX.preV (q := (RX1, TX1, 10)) (ci := 1) (q0 := 1) hK hP rfl rfl (hP.subM [1, 2, 3, 4, 5, 6, 7, 8] rfl)) rfl rfl hl.1 rfl (lv_room (Nat.le_of_ble_eq_true rfl)) dX7_undo_24 ⟨Nat.le_of_ble_eq_true rfl, Nat.le_of_ble_eq_true rfl⟩) hP hD hS [1, 2, 3, 4, 5, 6, 7, 8] [0] rfl (fun _ => rfl) rfl (fun _ => rfl) (fun _ => rfl) (fun _ => rfl) (by decide +kernel) (by decide +kernel) (fun u H locs h hP hD hS => ?_)
      obtain ⟨heap_size_2, heap_saidBits_3, heap_deedCount_4⟩ := u
      have hP : va_P D vwCl ((W_X7 a aR aT aH aD aK aI aC aS aY lastTold) ++ (W_X1 ca aH heap_kinds heap_whos heap_toWhoms heap_topics heap_weights heap_answered heap_deeds heap_size_2 heap_saidBits_3 heap_deedCount_4)) H := hP
      have hD : va_D _ ((W_X7 a aR aT aH aD aK aI aC aS aY lastTold) ++ (W_X1 ca aH heap_kinds heap_whos heap_toWhoms heap_topics heap_weights heap_answered heap_deeds heap_size_2 heap_saidBits_3 heap_deedCount_4)) := hD
      try dsimp only at h
      refine lv_iload_n hx hb dX7_undo_27 rfl (lv_at hl 0 rfl) ?_
      refine lv_iload_n hx hb dX7_undo_28 rfl (lv_at hl 2 rfl) ?_
      refine lv_isub hx hb dX7_undo_29 ?_
      exact W.iret (v := r1 - n) hx hb hr (fun t ht hW => ⟨⟨r1 - n, (heap_size_2, heap_saidBits_3, heap_deedCount_4), rfl, h, by rw [ht]; exact hP⟩, hS.F ht⟩) hS.2.2 dX7_undo_30
    · have h := h.2 hc
      refine lv_iconst (v := (-1)) hx hb dX7_undo_17 (by decide) ?_
      exact W.iret (v := (-1 : Int32)) hx hb hr (fun t ht hW => ⟨⟨(-1 : Int32), (heap_size, heap_saidBits, heap_deedCount), rfl, h, by rw [ht]; exact hP⟩, hS.F ht⟩) hS.2.2 dX7_undo_18

-- IronedQuarrels.said()I
def wp_X7_said (heap_kinds : Nat → Int32) (heap_answered : Nat → Int32) (heap_size : Int32) (heap_saidBits : Int32) (post : Int32 → (Int32) → Prop) : Prop :=
  wp_X1_saidBits heap_saidBits (fun r1 => wp_X1_freeAmong heap_kinds heap_answered heap_size r1 (fun r2 => wp_X1_saidBits heap_saidBits (fun r3 => post r3 r2)))
def rm_X7_said : Room := { frames := 5, cells := 0, slots := 0, locals := 109 }
theorem k_X7_said_1 : Cond.fieldLink RX7 24 "IronedQuarrels" "heap" "LIronedQuarrels$Heap;" ∈ wsX7_said := List.mem_of_getElem? (i := 1) (by decide +kernel)
theorem k_X7_said_2 : Cond.fieldLink RX7 63 "IronedQuarrels" "lastTold" "I" ∈ wsX7_said := List.mem_of_getElem? (i := 2) (by decide +kernel)
theorem hi_X7_said_X1 : ∀ w ∈ wsX10, w ∈ wsX7_said := fun w h => List.mem_cons_of_mem _ (List.mem_append_right _ h)
theorem hi_X7_said_X7 : ∀ w ∈ wsX70, w ∈ wsX7_said := fun w h => List.mem_cons_of_mem _ (List.mem_append_left _ (List.mem_append_right _ h))
set_option maxHeartbeats 4000000 in
set_option maxRecDepth 100000 in
theorem c_X7_said (l : Launch) (D : va_G) (ca : Nat → ClassId) (a : Nat → Nat) (aR : Nat → Nat) (aT : Nat → Nat) (aH : Nat → Nat) (aD : Nat → Nat) (aK : Nat) (aI : Nat → Nat) (aC : Nat → Nat) (aS : Nat → Nat) (aY : Nat → Nat) (lastTold : Int32) (heap_kinds : Nat → Int32) (heap_whos : Nat → Int32) (heap_toWhoms : Nat → Int32) (heap_topics : Nat → Int32) (heap_weights : Nat → Int32) (heap_answered : Nat → Int32) (heap_deeds : Nat → Int32) (heap_size : Int32) (heap_saidBits : Int32) (heap_deedCount : Int32)  (post : Int32 → (Int32) → Prop) (hd : va_D (fun _ => True) ((W_X7 a aR aT aH aD aK aI aC aS aY lastTold) ++ (W_X1 ca aH heap_kinds heap_whos heap_toWhoms heap_topics heap_weights heap_answered heap_deeds heap_size heap_saidBits heap_deedCount))) (h : wp_X7_said heap_kinds heap_answered heap_size heap_saidBits post) : Met l yX7_said wsX7_said rm_X7_said (PcX D ca [.ref (a 0)] ((W_X7 a aR aT aH aD aK aI aC aS aY lastTold) ++ (W_X1 ca aH heap_kinds heap_whos heap_toWhoms heap_topics heap_weights heap_answered heap_deeds heap_size heap_saidBits heap_deedCount))) (wrI (S := (Int32)) D ((W_X7 a aR aT aH aD aK aI aC aS aY lastTold) ++ (W_X1 ca aH heap_kinds heap_whos heap_toWhoms heap_topics heap_weights heap_answered heap_deeds heap_size heap_saidBits heap_deedCount)) (fun u => (W_X7 a aR aT aH aD aK aI aC aS aY u) ++ (W_X1 ca aH heap_kinds heap_whos heap_toWhoms heap_topics heap_weights heap_answered heap_deeds heap_size heap_saidBits heap_deedCount)) (fun r u => post r u)) 0 0 (adr ((W_X7 a aR aT aH aD aK aI aC aS aY lastTold) ++ (W_X1 ca aH heap_kinds heap_whos heap_toWhoms heap_topics heap_weights heap_answered heap_deeds heap_size heap_saidBits heap_deedCount))) := by
  refine Met.ofW (cc := cX7_said) (maxL := 1) (ret := (some .int)) (by decide) rfl ?_
  intro zp ze zs zm za zb zt zc z1 B hml hv
  obtain ⟨rfl, hP, hK⟩ := hv
  have hx := B.exec
  have hb := B.bytes
  have hr := B.returns
  have hts := atoms_spec (ws := wsX7_said) B.pre
  have hown : zs.vm.findClass RX7 = some zm.cls := findClass_of_methodNamed B.named
  have hlocks := B.notSynchronized
  have hD : va_D (adr ((W_X7 a aR aT aH aD aK aI aC aS aY lastTold) ++ (W_X1 ca aH heap_kinds heap_whos heap_toWhoms heap_topics heap_weights heap_answered heap_deeds heap_size heap_saidBits heap_deedCount))) ((W_X7 a aR aT aH aD aK aI aC aS aY lastTold) ++ (W_X1 ca aH heap_kinds heap_whos heap_toWhoms heap_topics heap_weights heap_answered heap_deeds heap_size heap_saidBits heap_deedCount)) := hd.adr
  have hS : va_S (adr ((W_X7 a aR aT aH aD aK aI aC aS aY lastTold) ++ (W_X1 ca aH heap_kinds heap_whos heap_toWhoms heap_topics heap_weights heap_answered heap_deeds heap_size heap_saidBits heap_deedCount))) zs.heap zs.heap [] := va_S.rf
  have hl := lv_entry ([.ref (a 0)]) (n := 1) (Nat.le_of_ble_eq_true rfl)
  rw [lg_entry_eq]
  generalize (lg_sl ([.ref (a 0)]) ++ List.replicate (1 - (lg_sl ([.ref (a 0)])).length) Slot.unset).toArray = ls at hl ⊢
  replace hl : lv_has ls 1 [(0, .ref (a 0))] := hl
  show W zp l ze rm_X7_said zs zm ([.ref (a 0)] : List Value).toArray zb zt zc zs.heap [] 0 0 (MQ zb (wrI (S := (Int32)) D ((W_X7 a aR aT aH aD aK aI aC aS aY lastTold) ++ (W_X1 ca aH heap_kinds heap_whos heap_toWhoms heap_topics heap_weights heap_answered heap_deeds heap_size heap_saidBits heap_deedCount)) (fun u => (W_X7 a aR aT aH aD aK aI aC aS aY u) ++ (W_X1 ca aH heap_kinds heap_whos heap_toWhoms heap_topics heap_weights heap_answered heap_deeds heap_size heap_saidBits heap_deedCount)) (fun r u => post r u)) ([.ref (a 0)] : List Value).toArray zs 0 0 (adr ((W_X7 a aR aT aH aD aK aI aC aS aY lastTold) ++ (W_X1 ca aH heap_kinds heap_whos heap_toWhoms heap_topics heap_weights heap_answered heap_deeds heap_size heap_saidBits heap_deedCount)))) (F0 zm 0 ls [])
  unfold wp_X7_said at h
  refine lv_aload_n hx hb dX7_said_0 rfl (lv_at hl 0 rfl) ?_
  refine lv_aload_n hx hb dX7_said_1 rfl (lv_at hl 0 rfl) ?_
  refine va_get (D := D) (ci := 6) (v := .ref (aH 0)) (C := RX7) (T := TX7) (N := 10) hx hb hts hi_X7_said_X7 hown hK.1 hP 0 rfl rfl 2 (by decide) (hts _ k_X7_said_1) (fun _ h9 => h9) rfl dX7_said_2 ?_
  refine lv_aload_n hx hb dX7_said_5 rfl (lv_at hl 0 rfl) ?_
  refine va_get (D := D) (ci := 6) (v := .ref (aH 0)) (C := RX7) (T := TX7) (N := 10) hx hb hts hi_X7_said_X7 hown hK.1 hP 0 rfl rfl 2 (by decide) (hts _ k_X7_said_1) (fun _ h9 => h9) rfl dX7_said_6 ?_
  refine rd_calli (va_runV (As := []) (rest := [.ref (aH 0), .ref (a 0)]) ⟨hx, hb, hml, hown, hts⟩ (c_X1_saidBits l D ca aH heap_kinds heap_whos heap_toWhoms heap_topics heap_weights heap_answered heap_deeds heap_size heap_saidBits heap_deedCount  _ h) (cwV 0 hts gX7_said_X1_saidBits rfl rfl rfl (by decide +kernel) ⟨Nat.le_of_ble_eq_true rfl, Nat.le_of_ble_eq_true rfl⟩) (PcX.preV (q := (RX1, TX1, 10)) (ci := 1) (q0 := 1) hK hP rfl rfl (hP.subM [1, 2, 3, 4, 5, 6, 7, 8] rfl)) rfl rfl hl.1 rfl (lv_room (Nat.le_of_ble_eq_true rfl)) dX7_said_9 ⟨Nat.le_of_ble_eq_true rfl, Nat.le_of_ble_eq_true rfl⟩) (fun r1 h => ?_)
  try dsimp only at h
  refine rd_calli (va_runV (As := [.int r1]) (rest := [.ref (a 0)]) ⟨hx, hb, hml, hown, hts⟩ (c_X1_freeAmong l D ca aH heap_kinds heap_whos heap_toWhoms heap_topics heap_weights heap_answered heap_deeds heap_size heap_saidBits heap_deedCount r1 _ h) (cwV 1 hts gX7_said_X1_freeAmong rfl rfl rfl (by decide +kernel) ⟨Nat.le_of_ble_eq_true rfl, Nat.le_of_ble_eq_true rfl⟩) (PcX.preV (q := (RX1, TX1, 10)) (ci := 1) (q0 := 1) hK hP rfl rfl (hP.subM [1, 2, 3, 4, 5, 6, 7, 8] rfl)) rfl rfl hl.1 rfl (lv_room (Nat.le_of_ble_eq_true rfl)) dX7_said_12 ⟨Nat.le_of_ble_eq_true rfl, Nat.le_of_ble_eq_true rfl⟩) (fun r2 h => ?_)
  try dsimp only at h
  refine va_put (D := D) (ci := 6) (v := .int r2) (ty := .int) (C := RX7) (T := TX7) (N := 10) hx hb hts hi_X7_said_X7 tyX7 tyX7_ok nmX7 hown hK.1 hP hD hS 0 rfl rfl 9 (by decide) (hts _ k_X7_said_2) (fun _ h9 => h9) rfl (by decide +kernel) rfl rfl (Nat.le_of_ble_eq_true rfl) dX7_said_15 (fun H locs hP hD hS => ?_)
  have hP : va_P D vwCl ((W_X7 a aR aT aH aD aK aI aC aS aY r2) ++ (W_X1 ca aH heap_kinds heap_whos heap_toWhoms heap_topics heap_weights heap_answered heap_deeds heap_size heap_saidBits heap_deedCount)) H := hP
  have hD : va_D _ ((W_X7 a aR aT aH aD aK aI aC aS aY r2) ++ (W_X1 ca aH heap_kinds heap_whos heap_toWhoms heap_topics heap_weights heap_answered heap_deeds heap_size heap_saidBits heap_deedCount)) := hD
  refine lv_aload_n hx hb dX7_said_18 rfl (lv_at hl 0 rfl) ?_
  refine va_get (D := D) (ci := 6) (v := .ref (aH 0)) (C := RX7) (T := TX7) (N := 10) hx hb hts hi_X7_said_X7 hown hK.1 hP 0 rfl rfl 2 (by decide) (hts _ k_X7_said_1) (fun _ h9 => h9) rfl dX7_said_19 ?_
  refine rd_calli (va_runV (As := []) (rest := []) ⟨hx, hb, hml, hown, hts⟩ (c_X1_saidBits l D ca aH heap_kinds heap_whos heap_toWhoms heap_topics heap_weights heap_answered heap_deeds heap_size heap_saidBits heap_deedCount  _ h) (cwV 0 hts gX7_said_X1_saidBits rfl rfl rfl (by decide +kernel) ⟨Nat.le_of_ble_eq_true rfl, Nat.le_of_ble_eq_true rfl⟩) (PcX.preV (q := (RX1, TX1, 10)) (ci := 1) (q0 := 1) hK hP rfl rfl (hP.subM [1, 2, 3, 4, 5, 6, 7, 8] rfl)) rfl rfl hl.1 rfl (lv_room (Nat.le_of_ble_eq_true rfl)) dX7_said_22 ⟨Nat.le_of_ble_eq_true rfl, Nat.le_of_ble_eq_true rfl⟩) (fun r3 h => ?_)
  try dsimp only at h
  exact W.iret (v := r3) hx hb hr (fun t ht hW => ⟨⟨r3, r2, rfl, h, by rw [ht]; exact hP⟩, hS.F ht⟩) hS.2.2 dX7_said_25

-- IronedQuarrels.leans(I)I
def wp_X7_leans (heap_answered : Nat → Int32) (heap_size : Int32) (i : Int32) (post : Int32 → Prop) : Prop :=
  wp_X1_hasNumber heap_size i (fun r1 => (¬ r1 = 0 → (wp_X1_leanedOn heap_answered heap_size i (fun r2 => post r2))) ∧ (r1 = 0 → (post (-1 : Int32))))
def rm_X7_leans : Room := { frames := 2, cells := 0, slots := 0, locals := 45 }
theorem k_X7_leans_1 : Cond.fieldLink RX7 24 "IronedQuarrels" "heap" "LIronedQuarrels$Heap;" ∈ wsX7_leans := List.mem_of_getElem? (i := 1) (by decide +kernel)
theorem hi_X7_leans_X1 : ∀ w ∈ wsX10, w ∈ wsX7_leans := fun w h => List.mem_cons_of_mem _ (List.mem_append_right _ h)
theorem hi_X7_leans_X7 : ∀ w ∈ wsX70, w ∈ wsX7_leans := fun w h => List.mem_cons_of_mem _ (List.mem_append_left _ (List.mem_append_right _ h))
set_option maxHeartbeats 4000000 in
set_option maxRecDepth 100000 in
theorem c_X7_leans (l : Launch) (D : va_G) (ca : Nat → ClassId) (a : Nat → Nat) (aR : Nat → Nat) (aT : Nat → Nat) (aH : Nat → Nat) (aD : Nat → Nat) (aK : Nat) (aI : Nat → Nat) (aC : Nat → Nat) (aS : Nat → Nat) (aY : Nat → Nat) (lastTold : Int32) (heap_kinds : Nat → Int32) (heap_whos : Nat → Int32) (heap_toWhoms : Nat → Int32) (heap_topics : Nat → Int32) (heap_weights : Nat → Int32) (heap_answered : Nat → Int32) (heap_deeds : Nat → Int32) (heap_size : Int32) (heap_saidBits : Int32) (heap_deedCount : Int32) (i : Int32) (post : Int32 → Prop) (h : wp_X7_leans heap_answered heap_size i post) : Met l yX7_leans wsX7_leans rm_X7_leans (PcX D ca [.ref (a 0), .int i] ((W_X7 a aR aT aH aD aK aI aC aS aY lastTold) ++ (W_X1 ca aH heap_kinds heap_whos heap_toWhoms heap_topics heap_weights heap_answered heap_deeds heap_size heap_saidBits heap_deedCount))) (rdI post) 0 0 (fun _ => False) := by
  refine Met.ofW (cc := cX7_leans) (maxL := 2) (ret := (some .int)) (by decide) rfl ?_
  intro zp ze zs zm za zb zt zc z1 B hml hv
  obtain ⟨rfl, hP, hK⟩ := hv
  have hx := B.exec
  have hb := B.bytes
  have hr := B.returns
  have hts := atoms_spec (ws := wsX7_leans) B.pre
  have hown : zs.vm.findClass RX7 = some zm.cls := findClass_of_methodNamed B.named
  have hlocks := B.notSynchronized
  have hl := lv_entry ([.ref (a 0), .int i]) (n := 2) (Nat.le_of_ble_eq_true rfl)
  rw [lg_entry_eq]
  generalize (lg_sl ([.ref (a 0), .int i]) ++ List.replicate (2 - (lg_sl ([.ref (a 0), .int i])).length) Slot.unset).toArray = ls at hl ⊢
  replace hl : lv_has ls 2 [(0, .ref (a 0)), (1, .int i)] := hl
  show W zp l ze rm_X7_leans zs zm ([.ref (a 0), .int i] : List Value).toArray zb zt zc zs.heap [] 0 0 (MQ zb (rdI post) ([.ref (a 0), .int i] : List Value).toArray zs 0 0 (fun _ => False)) (F0 zm 0 ls [])
  unfold wp_X7_leans at h
  refine lv_aload_n hx hb dX7_leans_0 rfl (lv_at hl 0 rfl) ?_
  refine va_get (D := D) (ci := 6) (v := .ref (aH 0)) (C := RX7) (T := TX7) (N := 10) hx hb hts hi_X7_leans_X7 hown hK.1 hP 0 rfl rfl 2 (by decide) (hts _ k_X7_leans_1) (fun _ h9 => h9) rfl dX7_leans_1 ?_
  refine lv_iload_n hx hb dX7_leans_4 rfl (lv_at hl 1 rfl) ?_
  refine rd_callz (va_runV (As := [.int i]) (rest := []) ⟨hx, hb, hml, hown, hts⟩ (c_X1_hasNumber l D ca aH heap_kinds heap_whos heap_toWhoms heap_topics heap_weights heap_answered heap_deeds heap_size heap_saidBits heap_deedCount i _ h) (cwV 1 hts gX7_leans_X1_hasNumber rfl rfl rfl (by decide +kernel) ⟨Nat.le_of_ble_eq_true rfl, Nat.le_of_ble_eq_true rfl⟩) (PcX.preV (q := (RX1, TX1, 10)) (ci := 1) (q0 := 1) hK hP rfl rfl (hP.subM [1, 2, 3, 4, 5, 6, 7, 8] rfl)) rfl rfl hl.1 rfl (lv_room (Nat.le_of_ble_eq_true rfl)) dX7_leans_5 ⟨Nat.le_of_ble_eq_true rfl, Nat.le_of_ble_eq_true rfl⟩) (fun r1 h hz_r1 => ?_)
  try dsimp only at h
  refine lv_if_ne (tgt := 13) hx hb dX7_leans_8 (by decide) (fun hc => ?_) (fun hc => ?_)
  · have h := h.1 hc
    refine lv_aload_n hx hb dX7_leans_13 rfl (lv_at hl 0 rfl) ?_
    refine va_get (D := D) (ci := 6) (v := .ref (aH 0)) (C := RX7) (T := TX7) (N := 10) hx hb hts hi_X7_leans_X7 hown hK.1 hP 0 rfl rfl 2 (by decide) (hts _ k_X7_leans_1) (fun _ h9 => h9) rfl dX7_leans_14 ?_
    refine lv_iload_n hx hb dX7_leans_17 rfl (lv_at hl 1 rfl) ?_
    refine rd_calli (va_runV (As := [.int i]) (rest := []) ⟨hx, hb, hml, hown, hts⟩ (c_X1_leanedOn l D ca aH heap_kinds heap_whos heap_toWhoms heap_topics heap_weights heap_answered heap_deeds heap_size heap_saidBits heap_deedCount i _ h) (cwV 1 hts gX7_leans_X1_leanedOn rfl rfl rfl (by decide +kernel) ⟨Nat.le_of_ble_eq_true rfl, Nat.le_of_ble_eq_true rfl⟩) (PcX.preV (q := (RX1, TX1, 10)) (ci := 1) (q0 := 1) hK hP rfl rfl (hP.subM [1, 2, 3, 4, 5, 6, 7, 8] rfl)) rfl rfl hl.1 rfl (lv_room (Nat.le_of_ble_eq_true rfl)) dX7_leans_18 ⟨Nat.le_of_ble_eq_true rfl, Nat.le_of_ble_eq_true rfl⟩) (fun r2 h => ?_)
    try dsimp only at h
    exact W.iret (v := r2) hx hb hr (fun t ht hW => ⟨r2, rfl, h, ht⟩) (fun q hq => absurd hq List.not_mem_nil) dX7_leans_21
  · have h := h.2 hc
    refine lv_iconst (v := (-1)) hx hb dX7_leans_11 (by decide) ?_
    exact W.iret (v := (-1 : Int32)) hx hb hr (fun t ht hW => ⟨(-1 : Int32), rfl, h, ht⟩) (fun q hq => absurd hq List.not_mem_nil) dX7_leans_12

-- IronedQuarrels.feeds(I)I
def wp_X7_feeds (heap_answered : Nat → Int32) (heap_size : Int32) (i : Int32) (post : Int32 → Prop) : Prop :=
  wp_X1_hasNumber heap_size i (fun r1 => (¬ r1 = 0 → (wp_X1_leaningOn heap_answered heap_size i (fun r2 => post r2))) ∧ (r1 = 0 → (post (-1 : Int32))))
def rm_X7_feeds : Room := { frames := 3, cells := 0, slots := 0, locals := 68 }
theorem k_X7_feeds_1 : Cond.fieldLink RX7 24 "IronedQuarrels" "heap" "LIronedQuarrels$Heap;" ∈ wsX7_feeds := List.mem_of_getElem? (i := 1) (by decide +kernel)
theorem hi_X7_feeds_X1 : ∀ w ∈ wsX10, w ∈ wsX7_feeds := fun w h => List.mem_cons_of_mem _ (List.mem_append_right _ h)
theorem hi_X7_feeds_X7 : ∀ w ∈ wsX70, w ∈ wsX7_feeds := fun w h => List.mem_cons_of_mem _ (List.mem_append_left _ (List.mem_append_right _ h))
set_option maxHeartbeats 4000000 in
set_option maxRecDepth 100000 in
theorem c_X7_feeds (l : Launch) (D : va_G) (ca : Nat → ClassId) (a : Nat → Nat) (aR : Nat → Nat) (aT : Nat → Nat) (aH : Nat → Nat) (aD : Nat → Nat) (aK : Nat) (aI : Nat → Nat) (aC : Nat → Nat) (aS : Nat → Nat) (aY : Nat → Nat) (lastTold : Int32) (heap_kinds : Nat → Int32) (heap_whos : Nat → Int32) (heap_toWhoms : Nat → Int32) (heap_topics : Nat → Int32) (heap_weights : Nat → Int32) (heap_answered : Nat → Int32) (heap_deeds : Nat → Int32) (heap_size : Int32) (heap_saidBits : Int32) (heap_deedCount : Int32) (i : Int32) (post : Int32 → Prop) (h : wp_X7_feeds heap_answered heap_size i post) : Met l yX7_feeds wsX7_feeds rm_X7_feeds (PcX D ca [.ref (a 0), .int i] ((W_X7 a aR aT aH aD aK aI aC aS aY lastTold) ++ (W_X1 ca aH heap_kinds heap_whos heap_toWhoms heap_topics heap_weights heap_answered heap_deeds heap_size heap_saidBits heap_deedCount))) (rdI post) 0 0 (fun _ => False) := by
  refine Met.ofW (cc := cX7_feeds) (maxL := 2) (ret := (some .int)) (by decide) rfl ?_
  intro zp ze zs zm za zb zt zc z1 B hml hv
  obtain ⟨rfl, hP, hK⟩ := hv
  have hx := B.exec
  have hb := B.bytes
  have hr := B.returns
  have hts := atoms_spec (ws := wsX7_feeds) B.pre
  have hown : zs.vm.findClass RX7 = some zm.cls := findClass_of_methodNamed B.named
  have hlocks := B.notSynchronized
  have hl := lv_entry ([.ref (a 0), .int i]) (n := 2) (Nat.le_of_ble_eq_true rfl)
  rw [lg_entry_eq]
  generalize (lg_sl ([.ref (a 0), .int i]) ++ List.replicate (2 - (lg_sl ([.ref (a 0), .int i])).length) Slot.unset).toArray = ls at hl ⊢
  replace hl : lv_has ls 2 [(0, .ref (a 0)), (1, .int i)] := hl
  show W zp l ze rm_X7_feeds zs zm ([.ref (a 0), .int i] : List Value).toArray zb zt zc zs.heap [] 0 0 (MQ zb (rdI post) ([.ref (a 0), .int i] : List Value).toArray zs 0 0 (fun _ => False)) (F0 zm 0 ls [])
  unfold wp_X7_feeds at h
  refine lv_aload_n hx hb dX7_feeds_0 rfl (lv_at hl 0 rfl) ?_
  refine va_get (D := D) (ci := 6) (v := .ref (aH 0)) (C := RX7) (T := TX7) (N := 10) hx hb hts hi_X7_feeds_X7 hown hK.1 hP 0 rfl rfl 2 (by decide) (hts _ k_X7_feeds_1) (fun _ h9 => h9) rfl dX7_feeds_1 ?_
  refine lv_iload_n hx hb dX7_feeds_4 rfl (lv_at hl 1 rfl) ?_
  refine rd_callz (va_runV (As := [.int i]) (rest := []) ⟨hx, hb, hml, hown, hts⟩ (c_X1_hasNumber l D ca aH heap_kinds heap_whos heap_toWhoms heap_topics heap_weights heap_answered heap_deeds heap_size heap_saidBits heap_deedCount i _ h) (cwV 1 hts gX7_feeds_X1_hasNumber rfl rfl rfl (by decide +kernel) ⟨Nat.le_of_ble_eq_true rfl, Nat.le_of_ble_eq_true rfl⟩) (PcX.preV (q := (RX1, TX1, 10)) (ci := 1) (q0 := 1) hK hP rfl rfl (hP.subM [1, 2, 3, 4, 5, 6, 7, 8] rfl)) rfl rfl hl.1 rfl (lv_room (Nat.le_of_ble_eq_true rfl)) dX7_feeds_5 ⟨Nat.le_of_ble_eq_true rfl, Nat.le_of_ble_eq_true rfl⟩) (fun r1 h hz_r1 => ?_)
  try dsimp only at h
  refine lv_if_ne (tgt := 13) hx hb dX7_feeds_8 (by decide) (fun hc => ?_) (fun hc => ?_)
  · have h := h.1 hc
    refine lv_aload_n hx hb dX7_feeds_13 rfl (lv_at hl 0 rfl) ?_
    refine va_get (D := D) (ci := 6) (v := .ref (aH 0)) (C := RX7) (T := TX7) (N := 10) hx hb hts hi_X7_feeds_X7 hown hK.1 hP 0 rfl rfl 2 (by decide) (hts _ k_X7_feeds_1) (fun _ h9 => h9) rfl dX7_feeds_14 ?_
    refine lv_iload_n hx hb dX7_feeds_17 rfl (lv_at hl 1 rfl) ?_
    refine rd_calli (va_runV (As := [.int i]) (rest := []) ⟨hx, hb, hml, hown, hts⟩ (c_X1_leaningOn l D ca aH heap_kinds heap_whos heap_toWhoms heap_topics heap_weights heap_answered heap_deeds heap_size heap_saidBits heap_deedCount i _ h) (cwV 1 hts gX7_feeds_X1_leaningOn rfl rfl rfl (by decide +kernel) ⟨Nat.le_of_ble_eq_true rfl, Nat.le_of_ble_eq_true rfl⟩) (PcX.preV (q := (RX1, TX1, 10)) (ci := 1) (q0 := 1) hK hP rfl rfl (hP.subM [1, 2, 3, 4, 5, 6, 7, 8] rfl)) rfl rfl hl.1 rfl (lv_room (Nat.le_of_ble_eq_true rfl)) dX7_feeds_18 ⟨Nat.le_of_ble_eq_true rfl, Nat.le_of_ble_eq_true rfl⟩) (fun r2 h => ?_)
    try dsimp only at h
    exact W.iret (v := r2) hx hb hr (fun t ht hW => ⟨r2, rfl, h, ht⟩) (fun q hq => absurd hq List.not_mem_nil) dX7_feeds_21
  · have h := h.2 hc
    refine lv_iconst (v := (-1)) hx hb dX7_feeds_11 (by decide) ?_
    exact W.iret (v := (-1 : Int32)) hx hb hr (fun t ht hW => ⟨(-1 : Int32), rfl, h, ht⟩) (fun q hq => absurd hq List.not_mem_nil) dX7_feeds_12

-- IronedQuarrels.first(I)I
def wp_X7_first (lastTold : Int32) (heap_answered : Nat → Int32) (heap_size : Int32) (i : Int32) (post : Int32 → (Int32) → Prop) : Prop :=
  wp_X1_hasNumber heap_size i (fun r1 => (¬ r1 = 0 → (wp_X1_leanedOn heap_answered heap_size i (fun r2 => wp_J6_bitCount_0f7a4 r2 (fun r3 => wp_X1_beginningOf heap_answered heap_size i (fun r4 => post r4 r3))))) ∧ (r1 = 0 → (post (-1 : Int32) lastTold)))
def rm_X7_first : Room := { frames := 3, cells := 0, slots := 0, locals := 67 }
theorem k_X7_first_1 : Cond.fieldLink RX7 24 "IronedQuarrels" "heap" "LIronedQuarrels$Heap;" ∈ wsX7_first := List.mem_of_getElem? (i := 1) (by decide +kernel)
theorem k_X7_first_2 : Cond.fieldLink RX7 63 "IronedQuarrels" "lastTold" "I" ∈ wsX7_first := List.mem_of_getElem? (i := 2) (by decide +kernel)
theorem hi_X7_first_X1 : ∀ w ∈ wsX10, w ∈ wsX7_first := fun w h => List.mem_cons_of_mem _ (List.mem_append_right _ h)
theorem hi_X7_first_X7 : ∀ w ∈ wsX70, w ∈ wsX7_first := fun w h => List.mem_cons_of_mem _ (List.mem_append_left _ (List.mem_append_right _ h))
set_option maxHeartbeats 4000000 in
set_option maxRecDepth 100000 in
theorem c_X7_first (l : Launch) (D : va_G) (ca : Nat → ClassId) (a : Nat → Nat) (aR : Nat → Nat) (aT : Nat → Nat) (aH : Nat → Nat) (aD : Nat → Nat) (aK : Nat) (aI : Nat → Nat) (aC : Nat → Nat) (aS : Nat → Nat) (aY : Nat → Nat) (lastTold : Int32) (heap_kinds : Nat → Int32) (heap_whos : Nat → Int32) (heap_toWhoms : Nat → Int32) (heap_topics : Nat → Int32) (heap_weights : Nat → Int32) (heap_answered : Nat → Int32) (heap_deeds : Nat → Int32) (heap_size : Int32) (heap_saidBits : Int32) (heap_deedCount : Int32) (i : Int32) (post : Int32 → (Int32) → Prop) (hd : va_D (fun _ => True) ((W_X7 a aR aT aH aD aK aI aC aS aY lastTold) ++ (W_X1 ca aH heap_kinds heap_whos heap_toWhoms heap_topics heap_weights heap_answered heap_deeds heap_size heap_saidBits heap_deedCount))) (h : wp_X7_first lastTold heap_answered heap_size i post) : Met l yX7_first wsX7_first rm_X7_first (PcX D ca [.ref (a 0), .int i] ((W_X7 a aR aT aH aD aK aI aC aS aY lastTold) ++ (W_X1 ca aH heap_kinds heap_whos heap_toWhoms heap_topics heap_weights heap_answered heap_deeds heap_size heap_saidBits heap_deedCount))) (wrI (S := (Int32)) D ((W_X7 a aR aT aH aD aK aI aC aS aY lastTold) ++ (W_X1 ca aH heap_kinds heap_whos heap_toWhoms heap_topics heap_weights heap_answered heap_deeds heap_size heap_saidBits heap_deedCount)) (fun u => (W_X7 a aR aT aH aD aK aI aC aS aY u) ++ (W_X1 ca aH heap_kinds heap_whos heap_toWhoms heap_topics heap_weights heap_answered heap_deeds heap_size heap_saidBits heap_deedCount)) (fun r u => post r u)) 0 0 (adr ((W_X7 a aR aT aH aD aK aI aC aS aY lastTold) ++ (W_X1 ca aH heap_kinds heap_whos heap_toWhoms heap_topics heap_weights heap_answered heap_deeds heap_size heap_saidBits heap_deedCount))) := by
  refine Met.ofW (cc := cX7_first) (maxL := 2) (ret := (some .int)) (by decide) rfl ?_
  intro zp ze zs zm za zb zt zc z1 B hml hv
  obtain ⟨rfl, hP, hK⟩ := hv
  have hx := B.exec
  have hb := B.bytes
  have hr := B.returns
  have hts := atoms_spec (ws := wsX7_first) B.pre
  have hown : zs.vm.findClass RX7 = some zm.cls := findClass_of_methodNamed B.named
  have hlocks := B.notSynchronized
  have hD : va_D (adr ((W_X7 a aR aT aH aD aK aI aC aS aY lastTold) ++ (W_X1 ca aH heap_kinds heap_whos heap_toWhoms heap_topics heap_weights heap_answered heap_deeds heap_size heap_saidBits heap_deedCount))) ((W_X7 a aR aT aH aD aK aI aC aS aY lastTold) ++ (W_X1 ca aH heap_kinds heap_whos heap_toWhoms heap_topics heap_weights heap_answered heap_deeds heap_size heap_saidBits heap_deedCount)) := hd.adr
  have hS : va_S (adr ((W_X7 a aR aT aH aD aK aI aC aS aY lastTold) ++ (W_X1 ca aH heap_kinds heap_whos heap_toWhoms heap_topics heap_weights heap_answered heap_deeds heap_size heap_saidBits heap_deedCount))) zs.heap zs.heap [] := va_S.rf
  have hl := lv_entry ([.ref (a 0), .int i]) (n := 2) (Nat.le_of_ble_eq_true rfl)
  rw [lg_entry_eq]
  generalize (lg_sl ([.ref (a 0), .int i]) ++ List.replicate (2 - (lg_sl ([.ref (a 0), .int i])).length) Slot.unset).toArray = ls at hl ⊢
  replace hl : lv_has ls 2 [(0, .ref (a 0)), (1, .int i)] := hl
  show W zp l ze rm_X7_first zs zm ([.ref (a 0), .int i] : List Value).toArray zb zt zc zs.heap [] 0 0 (MQ zb (wrI (S := (Int32)) D ((W_X7 a aR aT aH aD aK aI aC aS aY lastTold) ++ (W_X1 ca aH heap_kinds heap_whos heap_toWhoms heap_topics heap_weights heap_answered heap_deeds heap_size heap_saidBits heap_deedCount)) (fun u => (W_X7 a aR aT aH aD aK aI aC aS aY u) ++ (W_X1 ca aH heap_kinds heap_whos heap_toWhoms heap_topics heap_weights heap_answered heap_deeds heap_size heap_saidBits heap_deedCount)) (fun r u => post r u)) ([.ref (a 0), .int i] : List Value).toArray zs 0 0 (adr ((W_X7 a aR aT aH aD aK aI aC aS aY lastTold) ++ (W_X1 ca aH heap_kinds heap_whos heap_toWhoms heap_topics heap_weights heap_answered heap_deeds heap_size heap_saidBits heap_deedCount)))) (F0 zm 0 ls [])
  unfold wp_X7_first at h
  refine lv_aload_n hx hb dX7_first_0 rfl (lv_at hl 0 rfl) ?_
  refine va_get (D := D) (ci := 6) (v := .ref (aH 0)) (C := RX7) (T := TX7) (N := 10) hx hb hts hi_X7_first_X7 hown hK.1 hP 0 rfl rfl 2 (by decide) (hts _ k_X7_first_1) (fun _ h9 => h9) rfl dX7_first_1 ?_
  refine lv_iload_n hx hb dX7_first_4 rfl (lv_at hl 1 rfl) ?_
  refine rd_callz (va_runV (As := [.int i]) (rest := []) ⟨hx, hb, hml, hown, hts⟩ (c_X1_hasNumber l D ca aH heap_kinds heap_whos heap_toWhoms heap_topics heap_weights heap_answered heap_deeds heap_size heap_saidBits heap_deedCount i _ h) (cwV 1 hts gX7_first_X1_hasNumber rfl rfl rfl (by decide +kernel) ⟨Nat.le_of_ble_eq_true rfl, Nat.le_of_ble_eq_true rfl⟩) (PcX.preV (q := (RX1, TX1, 10)) (ci := 1) (q0 := 1) hK hP rfl rfl (hP.subM [1, 2, 3, 4, 5, 6, 7, 8] rfl)) rfl rfl hl.1 rfl (lv_room (Nat.le_of_ble_eq_true rfl)) dX7_first_5 ⟨Nat.le_of_ble_eq_true rfl, Nat.le_of_ble_eq_true rfl⟩) (fun r1 h hz_r1 => ?_)
  try dsimp only at h
  refine lv_if_ne (tgt := 13) hx hb dX7_first_8 (by decide) (fun hc => ?_) (fun hc => ?_)
  · have h := h.1 hc
    refine lv_aload_n hx hb dX7_first_13 rfl (lv_at hl 0 rfl) ?_
    refine lv_aload_n hx hb dX7_first_14 rfl (lv_at hl 0 rfl) ?_
    refine va_get (D := D) (ci := 6) (v := .ref (aH 0)) (C := RX7) (T := TX7) (N := 10) hx hb hts hi_X7_first_X7 hown hK.1 hP 0 rfl rfl 2 (by decide) (hts _ k_X7_first_1) (fun _ h9 => h9) rfl dX7_first_15 ?_
    refine lv_iload_n hx hb dX7_first_18 rfl (lv_at hl 1 rfl) ?_
    refine rd_calli (va_runV (As := [.int i]) (rest := [.ref (a 0)]) ⟨hx, hb, hml, hown, hts⟩ (c_X1_leanedOn l D ca aH heap_kinds heap_whos heap_toWhoms heap_topics heap_weights heap_answered heap_deeds heap_size heap_saidBits heap_deedCount i _ h) (cwV 1 hts gX7_first_X1_leanedOn rfl rfl rfl (by decide +kernel) ⟨Nat.le_of_ble_eq_true rfl, Nat.le_of_ble_eq_true rfl⟩) (PcX.preV (q := (RX1, TX1, 10)) (ci := 1) (q0 := 1) hK hP rfl rfl (hP.subM [1, 2, 3, 4, 5, 6, 7, 8] rfl)) rfl rfl hl.1 rfl (lv_room (Nat.le_of_ble_eq_true rfl)) dX7_first_19 ⟨Nat.le_of_ble_eq_true rfl, Nat.le_of_ble_eq_true rfl⟩) (fun r2 h => ?_)
    try dsimp only at h
    refine rd_calli (va_runS (As := [.int r2]) (rest := [.ref (a 0)]) ⟨hx, hb, hml, hown, hts⟩ (c_J6_bitCount_0f7a4 l D ca   r2 _ h) (va_cwS 1 hts gX7_first_J6_bitCount_0f7a4 rfl rfl rfl (by decide +kernel) ⟨Nat.le_of_ble_eq_true rfl, Nat.le_of_ble_eq_true rfl⟩) (PcX.preS hK (fun k q h => by simp at h)) rfl rfl hl.1 rfl (lv_room (Nat.le_of_ble_eq_true rfl)) dX7_first_22 ⟨Nat.le_of_ble_eq_true rfl, Nat.le_of_ble_eq_true rfl⟩) (fun r3 h => ?_)
    try dsimp only at h
    refine va_put (D := D) (ci := 6) (v := .int r3) (ty := .int) (C := RX7) (T := TX7) (N := 10) hx hb hts hi_X7_first_X7 tyX7 tyX7_ok nmX7 hown hK.1 hP hD hS 0 rfl rfl 9 (by decide) (hts _ k_X7_first_2) (fun _ h9 => h9) rfl (by decide +kernel) rfl rfl (Nat.le_of_ble_eq_true rfl) dX7_first_25 (fun H locs hP hD hS => ?_)
    have hP : va_P D vwCl ((W_X7 a aR aT aH aD aK aI aC aS aY r3) ++ (W_X1 ca aH heap_kinds heap_whos heap_toWhoms heap_topics heap_weights heap_answered heap_deeds heap_size heap_saidBits heap_deedCount)) H := hP
    have hD : va_D _ ((W_X7 a aR aT aH aD aK aI aC aS aY r3) ++ (W_X1 ca aH heap_kinds heap_whos heap_toWhoms heap_topics heap_weights heap_answered heap_deeds heap_size heap_saidBits heap_deedCount)) := hD
    refine lv_aload_n hx hb dX7_first_28 rfl (lv_at hl 0 rfl) ?_
    refine va_get (D := D) (ci := 6) (v := .ref (aH 0)) (C := RX7) (T := TX7) (N := 10) hx hb hts hi_X7_first_X7 hown hK.1 hP 0 rfl rfl 2 (by decide) (hts _ k_X7_first_1) (fun _ h9 => h9) rfl dX7_first_29 ?_
    refine lv_iload_n hx hb dX7_first_32 rfl (lv_at hl 1 rfl) ?_
    refine rd_calli (va_runV (As := [.int i]) (rest := []) ⟨hx, hb, hml, hown, hts⟩ (c_X1_beginningOf l D ca aH heap_kinds heap_whos heap_toWhoms heap_topics heap_weights heap_answered heap_deeds heap_size heap_saidBits heap_deedCount i _ h) (cwV 1 hts gX7_first_X1_beginningOf rfl rfl rfl (by decide +kernel) ⟨Nat.le_of_ble_eq_true rfl, Nat.le_of_ble_eq_true rfl⟩) (PcX.preV (q := (RX1, TX1, 10)) (ci := 1) (q0 := 1) hK hP rfl rfl (hP.subM [1, 2, 3, 4, 5, 6, 7, 8] rfl)) rfl rfl hl.1 rfl (lv_room (Nat.le_of_ble_eq_true rfl)) dX7_first_33 ⟨Nat.le_of_ble_eq_true rfl, Nat.le_of_ble_eq_true rfl⟩) (fun r4 h => ?_)
    try dsimp only at h
    exact W.iret (v := r4) hx hb hr (fun t ht hW => ⟨⟨r4, r3, rfl, h, by rw [ht]; exact hP⟩, hS.F ht⟩) hS.2.2 dX7_first_36
  · have h := h.2 hc
    refine lv_iconst (v := (-1)) hx hb dX7_first_11 (by decide) ?_
    exact W.iret (v := (-1 : Int32)) hx hb hr (fun t ht hW => ⟨⟨(-1 : Int32), lastTold, rfl, h, by rw [ht]; exact hP⟩, hS.F ht⟩) hS.2.2 dX7_first_12

-- IronedQuarrels.bundles()I
def wp_X7_bundles (heap_answered : Nat → Int32) (heap_size : Int32) (heap_saidBits : Int32) (post : Int32 → (Int32) → Prop) : Prop :=
  wp_X1_beginningsOfSaid heap_answered heap_size heap_saidBits (fun r1 => wp_J6_bitCount_0f7a4 r1 (fun r2 => post r2 r1))
def rm_X7_bundles : Room := { frames := 4, cells := 0, slots := 0, locals := 89 }
theorem k_X7_bundles_1 : Cond.fieldLink RX7 24 "IronedQuarrels" "heap" "LIronedQuarrels$Heap;" ∈ wsX7_bundles := List.mem_of_getElem? (i := 1) (by decide +kernel)
theorem k_X7_bundles_2 : Cond.fieldLink RX7 63 "IronedQuarrels" "lastTold" "I" ∈ wsX7_bundles := List.mem_of_getElem? (i := 2) (by decide +kernel)
theorem hi_X7_bundles_X1 : ∀ w ∈ wsX10, w ∈ wsX7_bundles := fun w h => List.mem_cons_of_mem _ (List.mem_append_right _ h)
theorem hi_X7_bundles_X7 : ∀ w ∈ wsX70, w ∈ wsX7_bundles := fun w h => List.mem_cons_of_mem _ (List.mem_append_left _ (List.mem_append_right _ h))
set_option maxHeartbeats 4000000 in
set_option maxRecDepth 100000 in
theorem c_X7_bundles (l : Launch) (D : va_G) (ca : Nat → ClassId) (a : Nat → Nat) (aR : Nat → Nat) (aT : Nat → Nat) (aH : Nat → Nat) (aD : Nat → Nat) (aK : Nat) (aI : Nat → Nat) (aC : Nat → Nat) (aS : Nat → Nat) (aY : Nat → Nat) (lastTold : Int32) (heap_kinds : Nat → Int32) (heap_whos : Nat → Int32) (heap_toWhoms : Nat → Int32) (heap_topics : Nat → Int32) (heap_weights : Nat → Int32) (heap_answered : Nat → Int32) (heap_deeds : Nat → Int32) (heap_size : Int32) (heap_saidBits : Int32) (heap_deedCount : Int32)  (post : Int32 → (Int32) → Prop) (hd : va_D (fun _ => True) ((W_X7 a aR aT aH aD aK aI aC aS aY lastTold) ++ (W_X1 ca aH heap_kinds heap_whos heap_toWhoms heap_topics heap_weights heap_answered heap_deeds heap_size heap_saidBits heap_deedCount))) (h : wp_X7_bundles heap_answered heap_size heap_saidBits post) : Met l yX7_bundles wsX7_bundles rm_X7_bundles (PcX D ca [.ref (a 0)] ((W_X7 a aR aT aH aD aK aI aC aS aY lastTold) ++ (W_X1 ca aH heap_kinds heap_whos heap_toWhoms heap_topics heap_weights heap_answered heap_deeds heap_size heap_saidBits heap_deedCount))) (wrI (S := (Int32)) D ((W_X7 a aR aT aH aD aK aI aC aS aY lastTold) ++ (W_X1 ca aH heap_kinds heap_whos heap_toWhoms heap_topics heap_weights heap_answered heap_deeds heap_size heap_saidBits heap_deedCount)) (fun u => (W_X7 a aR aT aH aD aK aI aC aS aY u) ++ (W_X1 ca aH heap_kinds heap_whos heap_toWhoms heap_topics heap_weights heap_answered heap_deeds heap_size heap_saidBits heap_deedCount)) (fun r u => post r u)) 0 0 (adr ((W_X7 a aR aT aH aD aK aI aC aS aY lastTold) ++ (W_X1 ca aH heap_kinds heap_whos heap_toWhoms heap_topics heap_weights heap_answered heap_deeds heap_size heap_saidBits heap_deedCount))) := by
  refine Met.ofW (cc := cX7_bundles) (maxL := 1) (ret := (some .int)) (by decide) rfl ?_
  intro zp ze zs zm za zb zt zc z1 B hml hv
  obtain ⟨rfl, hP, hK⟩ := hv
  have hx := B.exec
  have hb := B.bytes
  have hr := B.returns
  have hts := atoms_spec (ws := wsX7_bundles) B.pre
  have hown : zs.vm.findClass RX7 = some zm.cls := findClass_of_methodNamed B.named
  have hlocks := B.notSynchronized
  have hD : va_D (adr ((W_X7 a aR aT aH aD aK aI aC aS aY lastTold) ++ (W_X1 ca aH heap_kinds heap_whos heap_toWhoms heap_topics heap_weights heap_answered heap_deeds heap_size heap_saidBits heap_deedCount))) ((W_X7 a aR aT aH aD aK aI aC aS aY lastTold) ++ (W_X1 ca aH heap_kinds heap_whos heap_toWhoms heap_topics heap_weights heap_answered heap_deeds heap_size heap_saidBits heap_deedCount)) := hd.adr
  have hS : va_S (adr ((W_X7 a aR aT aH aD aK aI aC aS aY lastTold) ++ (W_X1 ca aH heap_kinds heap_whos heap_toWhoms heap_topics heap_weights heap_answered heap_deeds heap_size heap_saidBits heap_deedCount))) zs.heap zs.heap [] := va_S.rf
  have hl := lv_entry ([.ref (a 0)]) (n := 1) (Nat.le_of_ble_eq_true rfl)
  rw [lg_entry_eq]
  generalize (lg_sl ([.ref (a 0)]) ++ List.replicate (1 - (lg_sl ([.ref (a 0)])).length) Slot.unset).toArray = ls at hl ⊢
  replace hl : lv_has ls 1 [(0, .ref (a 0))] := hl
  show W zp l ze rm_X7_bundles zs zm ([.ref (a 0)] : List Value).toArray zb zt zc zs.heap [] 0 0 (MQ zb (wrI (S := (Int32)) D ((W_X7 a aR aT aH aD aK aI aC aS aY lastTold) ++ (W_X1 ca aH heap_kinds heap_whos heap_toWhoms heap_topics heap_weights heap_answered heap_deeds heap_size heap_saidBits heap_deedCount)) (fun u => (W_X7 a aR aT aH aD aK aI aC aS aY u) ++ (W_X1 ca aH heap_kinds heap_whos heap_toWhoms heap_topics heap_weights heap_answered heap_deeds heap_size heap_saidBits heap_deedCount)) (fun r u => post r u)) ([.ref (a 0)] : List Value).toArray zs 0 0 (adr ((W_X7 a aR aT aH aD aK aI aC aS aY lastTold) ++ (W_X1 ca aH heap_kinds heap_whos heap_toWhoms heap_topics heap_weights heap_answered heap_deeds heap_size heap_saidBits heap_deedCount)))) (F0 zm 0 ls [])
  unfold wp_X7_bundles at h
  refine lv_aload_n hx hb dX7_bundles_0 rfl (lv_at hl 0 rfl) ?_
  refine lv_aload_n hx hb dX7_bundles_1 rfl (lv_at hl 0 rfl) ?_
  refine va_get (D := D) (ci := 6) (v := .ref (aH 0)) (C := RX7) (T := TX7) (N := 10) hx hb hts hi_X7_bundles_X7 hown hK.1 hP 0 rfl rfl 2 (by decide) (hts _ k_X7_bundles_1) (fun _ h9 => h9) rfl dX7_bundles_2 ?_
  refine rd_calli (va_runV (As := []) (rest := [.ref (a 0)]) ⟨hx, hb, hml, hown, hts⟩ (c_X1_beginningsOfSaid l D ca aH heap_kinds heap_whos heap_toWhoms heap_topics heap_weights heap_answered heap_deeds heap_size heap_saidBits heap_deedCount  _ h) (cwV 0 hts gX7_bundles_X1_beginningsOfSaid rfl rfl rfl (by decide +kernel) ⟨Nat.le_of_ble_eq_true rfl, Nat.le_of_ble_eq_true rfl⟩) (PcX.preV (q := (RX1, TX1, 10)) (ci := 1) (q0 := 1) hK hP rfl rfl (hP.subM [1, 2, 3, 4, 5, 6, 7, 8] rfl)) rfl rfl hl.1 rfl (lv_room (Nat.le_of_ble_eq_true rfl)) dX7_bundles_5 ⟨Nat.le_of_ble_eq_true rfl, Nat.le_of_ble_eq_true rfl⟩) (fun r1 h => ?_)
  try dsimp only at h
  refine va_put (D := D) (ci := 6) (v := .int r1) (ty := .int) (C := RX7) (T := TX7) (N := 10) hx hb hts hi_X7_bundles_X7 tyX7 tyX7_ok nmX7 hown hK.1 hP hD hS 0 rfl rfl 9 (by decide) (hts _ k_X7_bundles_2) (fun _ h9 => h9) rfl (by decide +kernel) rfl rfl (Nat.le_of_ble_eq_true rfl) dX7_bundles_8 (fun H locs hP hD hS => ?_)
  have hP : va_P D vwCl ((W_X7 a aR aT aH aD aK aI aC aS aY r1) ++ (W_X1 ca aH heap_kinds heap_whos heap_toWhoms heap_topics heap_weights heap_answered heap_deeds heap_size heap_saidBits heap_deedCount)) H := hP
  have hD : va_D _ ((W_X7 a aR aT aH aD aK aI aC aS aY r1) ++ (W_X1 ca aH heap_kinds heap_whos heap_toWhoms heap_topics heap_weights heap_answered heap_deeds heap_size heap_saidBits heap_deedCount)) := hD
  refine lv_aload_n hx hb dX7_bundles_11 rfl (lv_at hl 0 rfl) ?_
  refine va_get (D := D) (ci := 6) (v := .int r1) (C := RX7) (T := TX7) (N := 10) hx hb hts hi_X7_bundles_X7 hown hK.1 hP 0 rfl rfl 9 (by decide) (hts _ k_X7_bundles_2) (fun _ h9 => h9) rfl dX7_bundles_12 ?_
  refine rd_calli (va_runS (As := [.int r1]) (rest := []) ⟨hx, hb, hml, hown, hts⟩ (c_J6_bitCount_0f7a4 l D ca   r1 _ h) (va_cwS 1 hts gX7_bundles_J6_bitCount_0f7a4 rfl rfl rfl (by decide +kernel) ⟨Nat.le_of_ble_eq_true rfl, Nat.le_of_ble_eq_true rfl⟩) (PcX.preS hK (fun k q h => by simp at h)) rfl rfl hl.1 rfl (lv_room (Nat.le_of_ble_eq_true rfl)) dX7_bundles_15 ⟨Nat.le_of_ble_eq_true rfl, Nat.le_of_ble_eq_true rfl⟩) (fun r2 h => ?_)
  try dsimp only at h
  exact W.iret (v := r2) hx hb hr (fun t ht hW => ⟨⟨r2, r1, rfl, h, by rw [ht]; exact hP⟩, hS.F ht⟩) hS.2.2 dX7_bundles_18
